-- what the class's cells and the reference's cells have to do with one another
abbrev zNONE : Int32 := -1000000005
def enc (v : Int32) : Int32 := if v = -1 then zNONE else v
def Rcnt (a b : Int32) (n : Int) : Prop := a = b ∧ 0 ≤ b.toInt ∧ b.toInt ≤ n
def Ras (fm n cl : Int32) (xf xl xh xm xc mf ml mh mm mc : Nat → Int32) : Prop := ∀ a : Nat, (a : Int) < n.toInt →
  xf a = mf a ∧ xl a = ml a ∧ xh a = mh a ∧ xm a = mm a ∧ xc a = enc (mc a) ∧ 0 ≤ (mf a).toInt ∧ (mf a).toInt < fm.toInt ∧ 0 ≤ (ml a).toInt ∧ (ml a).toInt ≤ 100000 ∧
  0 ≤ (mh a).toInt ∧ (mh a).toInt ≤ 100000 ∧ 0 ≤ (mm a).toInt ∧ (mm a).toInt ≤ 24 ∧ -1 ≤ (mc a).toInt ∧ (mc a).toInt < cl.toInt
def Rcl (fm n : Int32) (xk xf xg xd mk mf mg md : Nat → Int32) : Prop := (∀ c : Nat, (c : Int) < n.toInt →
  xk c = mk c ∧ xf c = mf c ∧ xg c = mg c ∧ xd c = enc (md c) ∧ 0 ≤ (mk c).toInt ∧ (mk c).toInt ≤ 4 ∧ 0 ≤ (mf c).toInt ∧ (mf c).toInt < fm.toInt ∧ 0 ≤ (mg c).toInt ∧ (mg c).toInt < 64 ∧ -1 ≤ (md c).toInt ∧ (md c).toInt ≤ 100000) ∧
  ∀ c : Nat, n.toInt ≤ (c : Int) → c < 24 → xg c = 0
def Rdi (n : Int32) (hi : Int) (xd xv xw md mv mw : Nat → Int32) : Prop := (∀ c : Nat, (c : Int) < n.toInt →
  xw c = mw c + 1 ∧ 0 ≤ (mw c).toInt ∧ (mw c).toInt ≤ 8 ∧ ∀ i : Nat, (i : Int) ≤ (mw c).toInt → xd (9 * c + i) = md (9 * c + i) ∧ xv (9 * c + i) = mv (9 * c + i) ∧ 0 ≤ (mv (9 * c + i)).toInt ∧ (mv (9 * c + i)).toInt ≤ hi) ∧
  ∀ c : Nat, n.toInt ≤ (c : Int) → c < 24 → xw c = 0
def Rpl (n : Int32) (xc xv xn xl xm mc mv mt : Nat → Int32) : Prop := (∀ c : Nat, (c : Int) < n.toInt →
  xc c = enc (mc c) ∧ xv c = mv c ∧ -1 ≤ (mc c).toInt ∧ (mc c).toInt ≤ 5 ∧ 0 ≤ (mv c).toInt ∧ (mv c).toInt ≤ 2) ∧
  ∀ k : Nat, k < 6 → xn k = mt (3 * k) ∧ xl k = mt (3 * k + 1) ∧ xm k = mt (3 * k + 2) ∧ 0 ≤ (mt (3 * k)).toInt ∧ (mt (3 * k)).toInt ≤ 100 ∧ 0 ≤ (mt (3 * k + 1)).toInt ∧ (mt (3 * k + 1)).toInt ≤ 100 ∧ 0 ≤ (mt (3 * k + 2)).toInt ∧ (mt (3 * k + 2)).toInt ≤ 60
def Rkp (n hk km xk : Int32) (xc xv xn xl xm mc mv mt : Nat → Int32) : Prop := (hk = 0 ∧ xk = zNONE) ∨ (hk = 1 ∧ xk = km ∧ 0 ≤ km.toInt ∧ km.toInt ≤ n.toInt ∧ Rpl km xc xv xn xl xm mc mv mt)
def Rsh (xb xp mp mn : Nat → Int32) : Prop := (∀ s : Nat, s < 2 → xp s = enc (mp s) ∧ -1 ≤ (mp s).toInt ∧ (mp s).toInt ≤ 24) ∧ ∀ i : Nat, i < 48 → xb i = mn i ∧ -128 ≤ (mn i).toInt ∧ (mn i).toInt < 128
def Rwt (n : Int32) (xw mw : Nat → Int32) : Prop := ∀ i : Nat, (i : Int) < n.toInt → xw i = mw i
def Rtp (n : Int32) (xb mt : Nat → Int32) : Prop := ∀ i : Nat, (i : Int) < n.toInt → xb i &&& 255 = mt i ∧ 0 ≤ (mt i).toInt ∧ (mt i).toInt ≤ 255
