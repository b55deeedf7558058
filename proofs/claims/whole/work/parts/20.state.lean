-- what the class's cells and the reference's cells have to do with one another
abbrev zNONE : Int32 := -1000000005
def enc (v : Int32) : Int32 := if v = -1 then zNONE else v
def Rcnt (a b : Int32) (n : Int) : Prop := a = b ∧ 0 ≤ b.toInt ∧ b.toInt ≤ n
def Ras (fm n cl : Int32) (xf xl xh xm xc mf ml mh mm mc : Nat → Int32) : Prop := ∀ a : Nat, (a : Int) < n.toInt →
  xf a = mf a ∧ xl a = ml a ∧ xh a = mh a ∧ xm a = mm a ∧ xc a = enc (mc a) ∧ 0 ≤ (mf a).toInt ∧ (mf a).toInt < fm.toInt ∧ 0 ≤ (ml a).toInt ∧ (ml a).toInt ≤ 100000 ∧
  0 ≤ (mh a).toInt ∧ (mh a).toInt ≤ 100000 ∧ 0 ≤ (mm a).toInt ∧ (mm a).toInt ≤ 24 ∧ -1 ≤ (mc a).toInt ∧ (mc a).toInt < cl.toInt
def Rcl (fm n : Int32) (xk xf xg xd mk mf mg md : Nat → Int32) : Prop := (∀ c : Nat, (c : Int) < n.toInt →
  xk c = mk c ∧ xf c = mf c ∧ xg c = mg c ∧ xd c = enc (md c) ∧ 0 ≤ (mk c).toInt ∧ (mk c).toInt ≤ 4 ∧ 0 ≤ (mf c).toInt ∧ (mf c).toInt < fm.toInt ∧ 0 ≤ (mg c).toInt ∧ (mg c).toInt < 64 ∧ -1 ≤ (md c).toInt ∧ (md c).toInt ≤ 100000) ∧
  ∀ c : Nat, n.toInt ≤ (c : Int) → c < 24 → xg c = 0
def Rdi (n : Int32) (hi : Int) (xd xv xw md mv mw : Nat → Int32) : Prop := (∀ c : Nat, (c : Int) < n.toInt →
  xw c = mw c + 1 ∧ 0 ≤ (mw c).toInt ∧ (mw c).toInt ≤ 8 ∧ ∀ i : Nat, (i : Int) ≤ (mw c).toInt → xd (9 * c + i) = md (9 * c + i) ∧ xv (9 * c + i) = mv (9 * c + i) ∧ 0 ≤ (mv (9 * c + i)).toInt ∧ (mv (9 * c + i)).toInt ≤ hi) ∧
  ∀ c : Nat, n.toInt ≤ (c : Int) → c < 24 → xw c = 0
def Rpl (n : Int32) (xc xv xn xl xm mc mv mt : Nat → Int32) : Prop := (∀ c : Nat, (c : Int) < n.toInt →
  xc c = enc (mc c) ∧ xv c = mv c ∧ -1 ≤ (mc c).toInt ∧ (mc c).toInt ≤ 5 ∧ 0 ≤ (mv c).toInt ∧ (mv c).toInt ≤ 2) ∧
  ∀ k : Nat, k < 6 → xn k = mt (3 * k) ∧ xl k = mt (3 * k + 1) ∧ xm k = mt (3 * k + 2) ∧ 0 ≤ (mt (3 * k)).toInt ∧ (mt (3 * k)).toInt ≤ 100 ∧ 0 ≤ (mt (3 * k + 1)).toInt ∧ (mt (3 * k + 1)).toInt ≤ 100 ∧ 0 ≤ (mt (3 * k + 2)).toInt ∧ (mt (3 * k + 2)).toInt ≤ 60
def Rkp (n hk km xk : Int32) (xc xv xn xl xm mc mv mt : Nat → Int32) : Prop := (hk = 0 ∧ xk = zNONE) ∨ (hk = 1 ∧ xk = km ∧ 0 ≤ km.toInt ∧ km.toInt ≤ n.toInt ∧ Rpl km xc xv xn xl xm mc mv mt)
def Rsh (xb xp mp mn : Nat → Int32) : Prop := (∀ s : Nat, s < 2 → xp s = enc (mp s) ∧ -1 ≤ (mp s).toInt ∧ (mp s).toInt ≤ 24) ∧ ∀ i : Nat, i < 48 → xb i = mn i ∧ -128 ≤ (mn i).toInt ∧ (mn i).toInt < 128
def Rwt (n : Int32) (xw mw : Nat → Int32) : Prop := ∀ i : Nat, (i : Int) < n.toInt → xw i = mw i
def Rtp (n : Int32) (xb mt : Nat → Int32) : Prop := ∀ i : Nat, (i : Int) < n.toInt → xb i &&& 255 = mt i ∧ 0 ≤ (mt i).toInt ∧ (mt i).toInt ≤ 255
/-- the latest told on a day or ahead of it -/
def zlo (dd vv : Nat → Int32) (b : Nat) (day o : Int32) : Nat → Int32
  | 0 => o
  | n + 1 => if dd (b + n) ≤ day then vv (b + n) else zlo dd vv b day o n
-- a law's steps
def cod (s v : Int32) : Int32 := if s = 1 then v else if s = 2 then -v else if s = 3 then -1 else if s = 4 then -316 else if s = 5 then -318 else -s
def isOp (s : Int32) : Prop := s = 43 ∨ s = 45 ∨ s = 42 ∨ s = 60 ∨ s = 62 ∨ s = 61 ∨ s = 4 ∨ s = 5 ∨ s = 38 ∨ s = 124
def isPn (v : Int32) : Prop := v = 118 ∨ v = 110 ∨ v = 116 ∨ v = 107 ∨ v = 109
def isBn (v : Int32) : Prop := v = 121 ∨ v = 99 ∨ v = 119 ∨ v = 117 ∨ v = 115 ∨ v = 113
/-- n steps from i on lead from h numbers on the stack to k -/
def wfd (N : Int32 → Prop) (st vl : Nat → Int32) (k : Nat) : Nat → Nat → Nat → Prop
  | 0, _, h => h = k
  | n + 1, i, h => (st i = 1 ∧ 0 ≤ (vl i).toInt ∧ (vl i).toInt ≤ 999999 ∧ wfd N st vl k n (i + 1) (h + 1)) ∨ (st i = 2 ∧ N (vl i) ∧ wfd N st vl k n (i + 1) (h + 1)) ∨
    ((st i = 3 ∨ st i = 33) ∧ 1 ≤ h ∧ wfd N st vl k n (i + 1) h) ∨ (isOp (st i) ∧ 2 ≤ h ∧ wfd N st vl k n (i + 1) (h - 1))
def Rlw (hl wo pa sn xw xpl xbl : Int32) (xpc xbc ms mv : Nat → Int32) : Prop := (hl = 0 ∧ xw = 0) ∨ (hl = 1 ∧ xw = wo ∧ 0 < wo.toInt ∧ ∃ p q : Nat, pa = nI p ∧ sn = nI (p + q) ∧ p + q ≤ 96 ∧ xpl = nI p ∧ xbl = nI q ∧
  (∀ i, i < p → xpc i = cod (ms i) (mv i)) ∧ (∀ i, i < q → xbc i = cod (ms (p + i)) (mv (p + i))) ∧ wfd isPn ms mv 1 p 0 0 ∧ wfd isBn ms mv 1 q p 0)
-- winding up
abbrev zWS : Type := (Nat → Int) × (Nat → Int) × (Nat → Int) × Nat × (Nat → Nat → Int)
def itr {α : Type} (f : Nat → α → α) : Nat → α → α
  | 0, s => s
  | n + 1, s => f n (itr f n s)
def isum (f : Nat → Int) : Nat → Int
  | 0 => 0
  | n + 1 => isum f n + f n
/-- a firm pays to a claim, in a round -/
def wsPay (hd : Nat → Int) (rd f c : Nat) (v : Int) (S : zWS) : zWS := if v ≤ 0 then S else
  (fun i => if i = c then S.1 i - v else S.1 i, fun i => if i = c then S.2.1 i + v else S.2.1 i,
   fun g => S.2.2.1 g - (if g = f then v else 0) + (if hd c = 10 + (g : Int) then v else 0), S.2.2.2.1 + 1,
   fun k j => if k = S.2.2.2.1 then (if j = 0 then (rd : Int) else if j = 1 then (f : Int) else if j = 2 then (c : Int) else v) else S.2.2.2.2 k j)
def inR (mk mf mg : Nat → Int32) (c f r : Nat) : Bool :=
  if (mf c).toInt = (f : Int) then decide (r = 0 ∧ (mk c).toInt = 4 ∨ r = 1 ∧ (mk c).toInt = 2 ∨ r = 2 ∧ (mk c).toInt ≤ 1 ∨ r = 3 ∧ (mk c).toInt = 3)
  else decide (r = 2 ∧ (mg c).toInt.toNat.testBit f = true)
def wsTot (ir : Nat → Bool) (op : Nat → Int) (n : Nat) : Int := isum (fun c => if ir c then op c else 0) n
def wsCoin (T p o : Int) : Int := if T ≤ p then o else p * o / T
def wsRank (ir : Nat → Bool) (hd : Nat → Int) (n f rd : Nat) (S : zWS) : zWS :=
  itr (fun c s => if ir c then wsPay hd rd f c (wsCoin (wsTot ir S.1 n) (S.2.2.1 f) (S.1 c)) s else s) n S
def wsFirm (ir : Nat → Nat → Bool) (hd : Nat → Int) (n f rd : Nat) : Nat → Nat → zWS → zWS
  | 0, _, S => S
  | k + 1, r, S => if wsTot (fun c => ir c r) S.1 n ≤ S.2.2.1 f then wsFirm ir hd n f rd k (r + 1) (wsRank (fun c => ir c r) hd n f rd S) else wsRank (fun c => ir c r) hd n f rd S
def wsRound (ir : Nat → Nat → Nat → Bool) (hd : Nat → Int) (fm n rd : Nat) (S : zWS) : zWS := itr (fun f s => wsFirm (fun c r => ir c f r) hd n f rd 4 0 s) fm S
def wsLoop (ir : Nat → Nat → Nat → Bool) (hd : Nat → Int) (fm n : Nat) : Nat → Nat → zWS → Nat × zWS
  | 0, rd, S => (rd, S)
  | k + 1, rd, S => if S.2.2.2.1 < (wsRound ir hd fm n (rd + 1) S).2.2.2.1 then wsLoop ir hd fm n k (rd + 1) (wsRound ir hd fm n (rd + 1) S) else (rd + 1, wsRound ir hd fm n (rd + 1) S)
def wsBr (side : Nat) (wait : Int32) (al ah am : Nat → Int32) (a : Nat) : Int :=
  (if side = 0 then (al a).toInt else (ah a).toInt) - (if side = 0 then (al a).toInt else (ah a).toInt) * (wait.toInt * (am a).toInt) / 100
def wsCash (S : zWS) (f : Nat) (v : Int) : zWS := (S.1, S.2.1, fun g => S.2.2.1 g + (if g = f then v else 0), S.2.2.2.1, S.2.2.2.2)
def wsAsset (hd : Nat → Int) (br : Nat → Int) (af ac : Nat → Int32) (a : Nat) (S : zWS) : zWS :=
  if (ac a).toInt < 0 then wsCash S (af a).toInt.toNat (br a)
  else wsPay hd 0 (af a).toInt.toNat (ac a).toInt.toNat (if br a ≤ S.1 (ac a).toInt.toNat then br a else S.1 (ac a).toInt.toNat) (wsCash S (af a).toInt.toNat (br a))
def amtS (today : Int32) (mw mv md : Nat → Int32) (c : Nat) : Int32 := zlo md mv (9 * c) today 0 ((mw c).toInt.toNat + 1)
def hldS (today : Int32) (mw mv md : Nat → Int32) (c : Nat) : Int32 := zlo md mv (9 * c) today (mv (9 * c)) ((mw c).toInt.toNat + 1)
def wnd (side : Nat) (fm n na today wait : Int32) (af al ah am ac ck cf cg aw av ad hw hv hd : Nat → Int32) : Nat × zWS :=
  wsLoop (fun c f r => inR ck cf cg c f r) (fun c => (hldS today hw hv hd c).toInt) fm.toInt.toNat n.toInt.toNat 60 0
    (itr (wsAsset (fun c => (hldS today hw hv hd c).toInt) (wsBr side wait al ah am) af ac) na.toInt.toNat
      (fun c => (amtS today aw av ad c).toInt, fun _ => 0, fun _ => 0, 0, fun _ _ => 0))
def Rwx (n today fresh rds made : Int32) (po pg pr ph pc pw : Nat → Int32) (hw hv hd : Nat → Int32) (Wd : Nat × zWS) : Prop := (fresh = 0 ∨ fresh = 1) ∧ (fresh = 1 →
  rds.toInt = (Wd.1 : Int) ∧ made.toInt = (Wd.2.2.2.2.1 : Int) ∧ (∀ c : Nat, (c : Int) < n.toInt → (pg c).toInt = Wd.2.2.1 c ∧ ph c = if (hldS today hw hv hd c).toInt < 10 then zNONE else hldS today hw hv hd c - 10) ∧
  (∀ f : Nat, f < 6 → (pc f).toInt = Wd.2.2.2.1 f) ∧ ∀ k : Nat, k < Wd.2.2.2.2.1 → k < 600 → ∀ j : Nat, j < 4 → (pw (4 * k + j)).toInt = Wd.2.2.2.2.2 k j)
/-- THE RELATION between the class's cells and the reference's -/
def Rall (σ : zMem) : Prop :=
  (Rcnt (σ 0 15) (σ 72 1) 6 ∧ Rcnt (σ 14 5) (σ 72 2) 16 ∧ Rcnt (σ 1 6) (σ 72 8) 24 ∧ Rcnt (σ 0 16) (σ 72 0) 400 ∧ Rcnt (σ 55 7) (σ 72 22) (σ 72 0).toInt ∧ Rcnt (σ 14 6) (σ 72 23) 4 ∧ Rcnt (σ 0 17) (σ 72 24) 20 ∧ Rcnt (σ 0 13) (σ 72 25) 200 ∧ Rcnt (σ 46 1) (σ 72 28) 96) ∧
  Ras (σ 72 1) (σ 72 2) (σ 72 8) (σ 15) (σ 16) (σ 17) (σ 18) (σ 19) (σ 73) (σ 74) (σ 75) (σ 76) (σ 77) ∧
  Rcl (σ 72 1) (σ 72 8) (σ 2) (σ 3) (σ 4) (σ 5) (σ 78) (σ 79) (σ 80) (σ 81) ∧
  Rdi (σ 72 8) 100000 (σ 7) (σ 8) (σ 9) (σ 86) (σ 85) (σ 84) ∧
  Rdi (σ 72 8) (9 + (σ 72 1).toInt) (σ 11) (σ 12) (σ 13) (σ 89) (σ 88) (σ 87) ∧
  Rpl (σ 72 8) (σ 35) (σ 36) (σ 37) (σ 38) (σ 39) (σ 82) (σ 83) (σ 90) ∧
  Rkp (σ 72 8) (σ 72 29) (σ 72 30) (σ 0 14) (σ 41) (σ 42) (σ 43) (σ 44) (σ 45) (σ 93) (σ 94) (σ 95) ∧
  Rsh (σ 70) (σ 71) (σ 96) (σ 97) ∧ Rwt (σ 72 25) (σ 69) (σ 91) ∧ Rtp (σ 72 28) (σ 47) (σ 92) ∧
  Rlw (σ 72 46) (σ 72 47) (σ 72 48) (σ 72 49) (σ 55 6) (σ 56 2) (σ 59 2) (σ 57) (σ 60) (σ 106) (σ 107) ∧
  (σ 20 2 = 0 ∧ σ 27 2 = 1) ∧
  Rwx (σ 72 8) (σ 72 0) (σ 20 11) (σ 20 9) (σ 20 10) (σ 21) (σ 22) (σ 23) (σ 24) (σ 25) (σ 26) (σ 87) (σ 88) (σ 89) (wnd 0 (σ 72 1) (σ 72 8) (σ 72 2) (σ 72 0) (σ 72 23) (σ 73) (σ 74) (σ 75) (σ 76) (σ 77) (σ 78) (σ 79) (σ 80) (σ 84) (σ 85) (σ 86) (σ 87) (σ 88) (σ 89)) ∧
  Rwx (σ 72 8) (σ 72 0) (σ 27 11) (σ 27 9) (σ 27 10) (σ 28) (σ 29) (σ 30) (σ 31) (σ 32) (σ 33) (σ 87) (σ 88) (σ 89) (wnd 1 (σ 72 1) (σ 72 8) (σ 72 2) (σ 72 0) (σ 72 23) (σ 73) (σ 74) (σ 75) (σ 76) (σ 77) (σ 78) (σ 79) (σ 80) (σ 84) (σ 85) (σ 86) (σ 87) (σ 88) (σ 89))
theorem zwr_rne {σ : zMem} {k j : Nat} {v : Int32} {a : Nat} (h : a ≠ k) : zwr σ k j v a = σ a := by
  funext b; exact zwr_cell σ k j v b h
theorem zwr_req {σ : zMem} {k j : Nat} {v : Int32} : zwr σ k j v k = upd (σ k) j v := zwr_row σ k j v
theorem upd_ne {f : Nat → Int32} {k j : Nat} {v : Int32} (h : j ≠ k) : upd f k v j = f j := by simp [upd, h]
theorem upd_eq {f : Nat → Int32} {k : Nat} {v : Int32} : upd f k v k = v := by simp [upd]
-- two calls, one of the class and one of the reference
def Pair (G : zGT) (d : Nat) (Yx Ym : zYD) (as : List zAV) : Prop := ∀ σ : zMem, Rall σ → CTI G d Yx (.inr (.inr 0) :: as) σ (fun r σ1 => CTI G d Ym (.inr (.inr 72) :: as) σ1 (fun r' σ2 => r = r' ∧ Rall σ2))
theorem t_firm {σ : zMem} (h : Rall σ) (v : Int32) : Rall (zwr σ 64 3 v) := by
  unfold Rall at h ⊢
  simp only [zwr_rne, ne_eq, Nat.reduceEqDiff, not_false_eq_true]
  exact h
