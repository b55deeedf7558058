/-- the relation, but for the numbers that wait -/
def Rany (σ : zMem) : Prop :=
  (Rcnt (σ 0 15) (σ 72 1) 6 ∧ Rcnt (σ 14 5) (σ 72 2) 16 ∧ Rcnt (σ 1 6) (σ 72 8) 24 ∧ Rcnt (σ 0 16) (σ 72 0) 400 ∧ Rcnt (σ 55 7) (σ 72 22) (σ 72 0).toInt ∧ Rcnt (σ 14 6) (σ 72 23) 4 ∧ Rcnt (σ 0 17) (σ 72 24) 20 ∧ True ∧ Rcnt (σ 46 1) (σ 72 28) 96) ∧
  Ras (σ 72 1) (σ 72 2) (σ 72 8) (σ 15) (σ 16) (σ 17) (σ 18) (σ 19) (σ 73) (σ 74) (σ 75) (σ 76) (σ 77) ∧
  Rcl (σ 72 1) (σ 72 8) (σ 2) (σ 3) (σ 4) (σ 5) (σ 78) (σ 79) (σ 80) (σ 81) ∧
  Rdi (σ 72 8) 100000 (σ 7) (σ 8) (σ 9) (σ 86) (σ 85) (σ 84) ∧
  Rdi (σ 72 8) (9 + (σ 72 1).toInt) (σ 11) (σ 12) (σ 13) (σ 89) (σ 88) (σ 87) ∧
  Rpl (σ 72 8) (σ 35) (σ 36) (σ 37) (σ 38) (σ 39) (σ 82) (σ 83) (σ 90) ∧
  Rkp (σ 72 8) (σ 72 29) (σ 72 30) (σ 0 14) (σ 41) (σ 42) (σ 43) (σ 44) (σ 45) (σ 93) (σ 94) (σ 95) ∧
  Rsh (σ 70) (σ 71) (σ 96) (σ 97) ∧ True ∧ Rtp (σ 72 28) (σ 47) (σ 92) ∧
  Rlw (σ 72 46) (σ 72 47) (σ 72 48) (σ 72 49) (σ 55 6) (σ 56 2) (σ 59 2) (σ 57) (σ 60) (σ 106) (σ 107) ∧
  (σ 20 2 = 0 ∧ σ 27 2 = 1) ∧
  Rwx (σ 72 8) (σ 72 0) (σ 20 11) (σ 20 9) (σ 20 10) (σ 21) (σ 22) (σ 23) (σ 24) (σ 25) (σ 26) (σ 87) (σ 88) (σ 89) (wnd 0 (σ 72 1) (σ 72 8) (σ 72 2) (σ 72 0) (σ 72 23) (σ 73) (σ 74) (σ 75) (σ 76) (σ 77) (σ 78) (σ 79) (σ 80) (σ 84) (σ 85) (σ 86) (σ 87) (σ 88) (σ 89)) ∧
  Rwx (σ 72 8) (σ 72 0) (σ 27 11) (σ 27 9) (σ 27 10) (σ 28) (σ 29) (σ 30) (σ 31) (σ 32) (σ 33) (σ 87) (σ 88) (σ 89) (wnd 1 (σ 72 1) (σ 72 8) (σ 72 2) (σ 72 0) (σ 72 23) (σ 73) (σ 74) (σ 75) (σ 76) (σ 77) (σ 78) (σ 79) (σ 80) (σ 84) (σ 85) (σ 86) (σ 87) (σ 88) (σ 89))
theorem Rall.any {σ : zMem} (h : Rall σ) : Rany σ := by
  obtain ⟨⟨k1, k2, k3, k4, k5, k6, k7, k8, k9⟩, kas, kcl, kda, kdh, kpl, kkp, ksh, kwt, r⟩ := h
  exact ⟨⟨k1, k2, k3, k4, k5, k6, k7, trivial, k9⟩, kas, kcl, kda, kdh, kpl, kkp, ksh, trivial, r⟩
theorem Rany.all {σ : zMem} (h : Rany σ) (k8 : Rcnt (σ 0 13) (σ 72 25) 200) (kwt : Rwt (σ 72 25) (σ 69) (σ 91)) : Rall σ := by
  obtain ⟨⟨k1, k2, k3, k4, k5, k6, k7, -, k9⟩, kas, kcl, kda, kdh, kpl, kkp, ksh, -, r⟩ := h
  exact ⟨⟨k1, k2, k3, k4, k5, k6, k7, k8, k9⟩, kas, kcl, kda, kdh, kpl, kkp, ksh, kwt, r⟩
-- winding up: the two memories and the state
/-- the cells that show a state -/
def DR (n : Nat) (S : zWS) (o p cs : Nat → Int32) (md : Int32) (zz : Nat → Nat → Int32) : Prop :=
  (∀ c : Nat, c < n → (o c).toInt = S.1 c ∧ (p c).toInt = S.2.1 c) ∧ (∀ f : Nat, f < 6 → (cs f).toInt = S.2.2.1 f) ∧ md.toInt = (S.2.2.2.1 : Int) ∧
  ∀ k : Nat, k < S.2.2.2.1 → k < 600 → ∀ j : Nat, j < 4 → (zz k j).toInt = S.2.2.2.2 k j
def rowOf (rd f c : Nat) (v : Int) (j : Nat) : Int := if j = 0 then (rd : Int) else if j = 1 then (f : Int) else if j = 2 then (c : Int) else v
/-- a row is told, a claim gets it, and this is the firms' cash then -/
def wsPut (rd f c : Nat) (v : Int) (cash : Nat → Int) (S : zWS) : zWS :=
  (fun i => if i = c then S.1 i - v else S.1 i, fun i => if i = c then S.2.1 i + v else S.2.1 i, cash, S.2.2.2.1 + 1,
   fun k j => if k = S.2.2.2.1 then (if j = 0 then (rd : Int) else if j = 1 then (f : Int) else if j = 2 then (c : Int) else v) else S.2.2.2.2 k j)
/-- as wsPay, but what the firm gives is not taken off -/
def wsPayM (hd : Nat → Int) (rd f c : Nat) (v : Int) (S : zWS) : zWS := if v ≤ 0 then S else wsPut rd f c v (fun g => S.2.2.1 g + (if hd c = 10 + (g : Int) then v else 0)) S
theorem wsPay_M1 {hd : Nat → Int} {rd f c : Nat} {v : Int} {S : zWS} (h : 0 < v) : wsPay hd rd f c v S = wsPayM hd rd f c v (wsCash S f (-v)) := by
  unfold wsPay wsPayM wsPut wsCash
  rw [if_neg (by omega), if_neg (by omega)]
  refine Prod.ext rfl (Prod.ext rfl (Prod.ext (funext fun g => ?_) rfl))
  show S.2.2.1 g - (if g = f then v else 0) + _ = S.2.2.1 g + (if g = f then -v else 0) + _
  by_cases e : g = f
  · rw [if_pos e, if_pos e]; omega
  · rw [if_neg e, if_neg e]; omega
theorem wsPay_M2 {hd : Nat → Int} {rd f c : Nat} {v b : Int} {S : zWS} (h : 0 ≤ v) : wsPay hd rd f c v (wsCash S f b) = wsCash (wsPayM hd rd f c v S) f (b - v) := by
  unfold wsPay wsPayM
  by_cases g0 : v ≤ 0
  · have : v = 0 := by omega
    subst this
    rw [if_pos g0, if_pos g0, Int.sub_zero]
  rw [if_neg g0, if_neg g0]
  unfold wsPut wsCash
  refine Prod.ext rfl (Prod.ext rfl (Prod.ext (funext fun g => ?_) rfl))
  show S.2.2.1 g + (if g = f then b else 0) - (if g = f then v else 0) + (if hd c = 10 + (g : Int) then v else 0) = S.2.2.1 g + (if hd c = 10 + (g : Int) then v else 0) + (if g = f then b - v else 0)
  by_cases e : g = f
  · simp only [if_pos e]; omega
  · simp only [if_neg e]; omega
theorem DR.put {n : Nat} {S : zWS} {o p cs cs' : Nat → Int32} {md md' V : Int32} {zz zz' : Nat → Nat → Int32} {rd f c : Nat} {cash : Nat → Int} (h : DR n S o p cs md zz) (hc : c < n) (h0 : 0 < V.toInt) (h1 : V.toInt ≤ S.1 c) (h2 : S.1 c ≤ 100000) (h3 : 0 ≤ S.2.1 c) (h4 : S.2.1 c ≤ 100000) (h5 : S.2.2.2.1 ≤ 2400000)
    (hcs : ∀ g : Nat, g < 6 → (cs' g).toInt = cash g) (hm : md' = md + 1)
    (hz : ∀ k : Nat, k < S.2.2.2.1 → k < 600 → ∀ j : Nat, j < 4 → zz' k j = zz k j) (hz2 : S.2.2.2.1 < 600 → ∀ j : Nat, j < 4 → (zz' S.2.2.2.1 j).toInt = rowOf rd f c V.toInt j) :
    DR n (wsPut rd f c V.toInt cash S) (upd o c (o c - V)) (upd p c (p c + V)) cs' md' zz' := by
  obtain ⟨a1, a2, a3, a4⟩ := h
  obtain ⟨b1, b2⟩ := a1 c hc
  refine ⟨fun i hi => ?_, fun g hg => hcs g hg, ?_, fun k hk hk6 j hj => ?_⟩
  · show (upd o c (o c - V) i).toInt = (if i = c then S.1 i - V.toInt else S.1 i) ∧ (upd p c (p c + V) i).toInt = (if i = c then S.2.1 i + V.toInt else S.2.1 i)
    by_cases e : i = c
    · subst e
      rw [upd_eq, upd_eq, if_pos rfl, if_pos rfl, fb_subI (by omega) (by omega), fb_addI (by omega) (by omega), b1, b2]
      exact ⟨rfl, rfl⟩
    · rw [upd_ne e, upd_ne e, if_neg e, if_neg e]
      exact a1 i hi
  · show md'.toInt = ((S.2.2.2.1 + 1 : Nat) : Int)
    rw [hm, fb_addI (by rw [ti1]; omega) (by rw [ti1]; omega), ti1]; omega
  · show (zz' k j).toInt = if k = S.2.2.2.1 then (if j = 0 then (rd : Int) else if j = 1 then (f : Int) else if j = 2 then (c : Int) else V.toInt) else S.2.2.2.2 k j
    have hk : k < S.2.2.2.1 + 1 := hk
    by_cases e : k = S.2.2.2.1
    · rw [if_pos e]
      subst e
      exact hz2 hk6 j hj
    · rw [if_neg e, hz k (by omega) hk6 j hj]
      exact a4 k (by omega) hk6 j hj
theorem DR.cash {n : Nat} {S : zWS} {o p cs : Nat → Int32} {md V : Int32} {zz : Nat → Nat → Int32} {f : Nat} (h : DR n S o p cs md zz) (hf : f < 6) (h1 : -2147483648 ≤ S.2.2.1 f + V.toInt) (h2 : S.2.2.1 f + V.toInt < 2147483648) : DR n (wsCash S f V.toInt) o p (upd cs f (cs f + V)) md zz := by
  obtain ⟨a1, a2, a3, a4⟩ := h
  refine ⟨a1, fun g hg => ?_, a3, a4⟩
  have b := a2 f hf
  show (upd cs f (cs f + V) g).toInt = S.2.2.1 g + (if g = f then V.toInt else 0)
  by_cases e : g = f
  · subst e
    rw [upd_eq, if_pos rfl, fb_addI (by omega) (by omega), b]
  · rw [upd_ne e, if_neg e, a2 g hg]; omega
-- the words of a base memory
def bN (β : zMem) : Nat := (β 72 8).toInt.toNat
def bH (β : zMem) (c : Nat) : Int := (hldS (β 72 0) (β 87) (β 88) (β 89) c).toInt
def bA (β : zMem) (c : Nat) : Int := (amtS (β 72 0) (β 84) (β 85) (β 86) c).toInt
def bR (β : zMem) (c f r : Nat) : Bool := inR (β 78) (β 79) (β 80) c f r
def bB (β : zMem) (s a : Nat) : Int := wsBr s (β 72 23) (β 74) (β 75) (β 76) a
def rkOf (k : Int32) : Int32 := if k.toInt = 4 then 0 else if k.toInt = 2 then 1 else if k.toInt = 3 then 3 else 2
theorem bN_c {β : zMem} (h : Rany β) {c : Nat} : c < bN β ↔ (c : Int) < (β 72 8).toInt := by
  have := h.1.2.2.1.2.1
  unfold bN; omega
theorem bN_24 {β : zMem} (h : Rany β) : bN β ≤ 24 := by
  have := h.1.2.2.1.2.2
  unfold bN; omega
theorem bH_rng {β : zMem} (h : Rany β) {c : Nat} (hc : c < bN β) : 0 ≤ bH β c ∧ bH β c < 16 := by
  obtain ⟨⟨k1, k2, k3, k4, k5, k6, k7, k8, k9⟩, kas, kcl, kda, kdh, -⟩ := id h
  obtain ⟨q1, q2, q3, q4⟩ := kdh.1 c ((bN_c h).1 hc)
  have u1 := k1.2.2
  have := zlo_rng (dd := β 89) (vv := β 88) (b := 9 * c) (day := β 72 0) (o := β 88 (9 * c)) (lo := 0) (hi := 9 + (β 72 1).toInt) ((q4 0 (by omega)).2.2) ((β 87 c).toInt.toNat + 1) (fun i hi => (q4 i (by omega)).2.2)
  unfold bH hldS
  omega
theorem bA_rng {β : zMem} (h : Rany β) {c : Nat} (hc : c < bN β) : 0 ≤ bA β c ∧ bA β c ≤ 100000 := by
  obtain ⟨⟨k1, k2, k3, k4, k5, k6, k7, k8, k9⟩, kas, kcl, kda, kdh, -⟩ := id h
  obtain ⟨q1, q2, q3, q4⟩ := kda.1 c ((bN_c h).1 hc)
  exact zlo_rng (dd := β 86) (vv := β 85) (b := 9 * c) (day := β 72 0) (o := 0) (lo := 0) (hi := 100000) (by decide) ((β 84 c).toInt.toNat + 1) (fun i hi => (q4 i (by omega)).2.2)
/-- the memories that differ from a base only where the reference winds up -/
def MF (β σ : zMem) : Prop := (∀ a : Nat, ¬ (98 ≤ a ∧ a ≤ 105) → a ≠ 72 → σ a = β a) ∧ ∀ j : Nat, j ≠ 39 → j ≠ 40 → σ 72 j = β 72 j
def mzz (σ : zMem) (k j : Nat) : Int32 := if j = 0 then σ 101 k else if j = 1 then σ 102 k else if j = 2 then σ 103 k else σ 104 k
def MS (β : zMem) (q : Nat → Int32) (rd : Nat) (S : zWS) (σ : zMem) : Prop := MF β σ ∧ σ 105 = q ∧ σ 72 39 = nI rd ∧ DR (bN β) S (σ 98) (σ 99) (σ 100) (σ 72 40) (mzz σ)
theorem MF.refl (β : zMem) : MF β β := ⟨fun _ _ _ => rfl, fun _ _ _ => rfl⟩
theorem MF.wr {β σ : zMem} (h : MF β σ) {k j : Nat} {v : Int32} (hk : (98 ≤ k ∧ k ≤ 105) ∨ k = 72 ∧ (j = 39 ∨ j = 40)) : MF β (zwr σ k j v) := by
  refine ⟨fun a h1 h2 => ?_, fun i h1 h2 => ?_⟩
  · rw [zwr_rne (by omega)]; exact h.1 a h1 h2
  · by_cases e : k = 72
    · subst e
      rw [zwr_req, upd_ne (by omega)]; exact h.2 i h1 h2
    · rw [zwr_rne (by omega)]; exact h.2 i h1 h2
/-- a claim's holder, where it is a firm -/
theorem hd_of {x : Int32} (h1 : 0 ≤ x.toInt) (h2 : x.toInt < 16) (h : 10 ≤ x.toInt) : ∃ g : Nat, g < 6 ∧ x - 10 = nI g ∧ x.toInt = 10 + (g : Int) := by
  have t : (x - 10).toInt = x.toInt - 10 := by rw [fb_subI (by rw [ti10]; omega) (by rw [ti10]; omega), ti10]
  refine ⟨(x - 10).toInt.toNat, by omega, nI_of_toInt (by omega) (by omega), by omega⟩
/-- the reference pays: what the firm gives is taken off elsewhere -/
theorem m_pay {G : zGT} {d : Nat} {β : zMem} {q : Nat → Int32} {rd : Nat} {S : zWS} {σ : zMem} {Φ : zMem → Prop} {f c : Nat} {V : Int32} (hβ : Rany β) (h : MS β q rd S σ) (hf : f < 6) (hc : c < bN β) (h1 : V.toInt ≤ S.1 c) (h2 : S.1 c ≤ 100000) (h3 : 0 ≤ S.2.1 c) (h4 : S.2.1 c ≤ 100000) (h5 : S.2.2.2.1 ≤ 2400000) (h6 : ∀ g : Nat, g < 6 → -2000000 ≤ S.2.2.1 g ∧ S.2.2.1 g ≤ 2000000) (hrd : rd ≤ 60)
    (hp : ∀ σ' : zMem, MS β q rd (wsPayM (bH β) rd f c V.toInt S) σ' → Φ σ') : CTV G (d + 2) Y_X12_pay [.inr (.inr 72), .inl (nI f), .inl (nI c), .inl V] σ Φ := by
  have hh := h
  obtain ⟨m1, m0, m2, m3⟩ := h
  have hc' := (bN_c hβ).1 hc
  have n24 := bN_24 hβ
  refine en_X12_pay ?_
  unfold wsPayM at hp
  by_cases g0 : V.toInt ≤ 0
  · rw [if_neg (by rw [fa_lt, ti0]; omega)]
    rw [if_pos g0] at hp
    exact hp σ hh
  rw [if_neg g0] at hp
  rw [if_pos (by rw [fa_lt, ti0]; omega)]
  have cc : (nI c).toNatClampNeg = c := cln (by omega)
  have vc : vp_in (nI c) 24 := vin (by omega)
  obtain ⟨a1, a2, a3, a4⟩ := id m3
  have kdh := hβ.2.2.2.2.1
  obtain ⟨q1, q2, q3, -⟩ := kdh.1 c hc'
  have hu3 := hβ.1.2.2.1.2.2
  obtain ⟨hr1, hr2⟩ := bH_rng hβ hc
  have fin : ∀ τ : zMem, MF β τ → τ 105 = q → τ 72 39 = nI rd → τ 98 = upd (σ 98) c (σ 98 c - V) → τ 99 = upd (σ 99) c (σ 99 c + V) → τ 100 = σ 100 → τ 72 40 = σ 72 40 + 1 →
      (∀ k : Nat, k < S.2.2.2.1 → k < 600 → ∀ j : Nat, j < 4 → mzz τ k j = mzz σ k j) → (S.2.2.2.1 < 600 → ∀ j : Nat, j < 4 → (mzz τ S.2.2.2.1 j).toInt = rowOf rd f c V.toInt j) →
      CTI G (d + 1) Y_X12_holderOn [.inr (.inr 72), .inl (nI c), .inl (τ 72 0)] τ (fun (r5 : Int32) (s4 : zMem) => if r5 < 10 then (Φ s4) else (vp_in (r5 - 10) 6 ∧ (vp_in (r5 - 10) 6 ∧ ∀ s6 : zMem, s6 = zwr s4 100 (r5 - 10).toNatClampNeg ((s4 100 (r5 - 10).toNatClampNeg) + V) → (Φ s6)))) := by
    intro τ t1 t0 t2 t3 t4 t5 t6 t7 t8
    have e0 : τ 72 0 = β 72 0 := t1.2 0 (by decide) (by decide)
    have e8 : τ 72 8 = β 72 8 := t1.2 8 (by decide) (by decide)
    have e87 : τ 87 = β 87 := t1.1 87 (by decide) (by decide)
    have e88 : τ 88 = β 88 := t1.1 88 (by decide) (by decide)
    have e89 : τ 89 = β 89 := t1.1 89 (by decide) (by decide)
    refine mr_holderOn (by rw [e8]; exact hc') (by rw [e8]; exact hu3) (by rw [e87]; exact q2) (by rw [e87]; exact q3) ?_
    rw [e0, e87, e88, e89]
    have hb : (hldS (β 72 0) (β 87) (β 88) (β 89) c).toInt = bH β c := rfl
    by_cases g : bH β c < 10
    · rw [if_pos (by rw [fa_lt, ti10, hb]; exact g)]
      refine hp τ ⟨t1, t0, t2, ?_⟩
      rw [t3, t4, t5]
      refine DR.put m3 hc (by omega) h1 h2 h3 h4 h5 (fun g' hg' => ?_) t6 t7 t8
      rw [a2 g' hg', if_neg (by omega)]; omega
    · rw [if_neg (by rw [fa_lt, ti10, hb]; exact g)]
      obtain ⟨k, hk, hk2, hk3⟩ := hd_of hr1 hr2 (by omega)
      rw [hk2, cln (by omega)]
      have v6 : vp_in (nI k) 6 := vin hk
      refine ⟨v6, v6, ?_⟩
      rintro _ rfl
      rw [hb] at hk3
      refine hp _ ⟨t1.wr (by omega), ?_, ?_, ?_⟩
      · rw [zwr_rne (by decide)]; exact t0
      · rw [zwr_rne (by decide)]; exact t2
      · have z : mzz (zwr τ 100 k (τ 100 k + V)) = mzz τ := by
          funext a b
          simp only [mzz, zwr_rne, ne_eq, Nat.reduceEqDiff, not_false_eq_true]
        simp only [zwr_rne, zwr_req, ne_eq, Nat.reduceEqDiff, not_false_eq_true, z]
        rw [t3, t4, t5]
        refine DR.put m3 hc (by omega) h1 h2 h3 h4 h5 (fun g' hg' => ?_) t6 t7 t8
        have qa := a2 g' hg'
        have q6 := h6 g' hg'
        by_cases e : g' = k
        · subst e
          rw [upd_eq, fb_addI (by omega) (by omega), qa, if_pos hk3]
        · rw [upd_ne e, qa, if_neg (by omega)]; omega
  by_cases g6 : S.2.2.2.1 < 600
  · rw [if_neg (by rw [fa_le, ti600]; omega)]
    have em : σ 72 40 = nI S.2.2.2.1 := nI_of_toInt (by omega) a3
    have v6 : vp_in (nI S.2.2.2.1) 600 := vin g6
    have c6 : (nI S.2.2.2.1).toNatClampNeg = S.2.2.2.1 := cln (by omega)
    rw [em, c6]
    refine ⟨v6, ?_⟩
    rintro _ rfl
    simp only [zwr_rne, ne_eq, Nat.reduceEqDiff, not_false_eq_true, em, c6]
    refine ⟨v6, ?_⟩
    rintro _ rfl
    simp only [zwr_rne, ne_eq, Nat.reduceEqDiff, not_false_eq_true, em, c6]
    refine ⟨v6, ?_⟩
    rintro _ rfl
    simp only [zwr_rne, ne_eq, Nat.reduceEqDiff, not_false_eq_true, em, c6]
    refine ⟨v6, ?_⟩
    rintro _ rfl
    simp only [zwr_rne, ne_eq, Nat.reduceEqDiff, not_false_eq_true, em, c6]
    rintro _ rfl
    simp only [zwr_rne, zwr_req, upd_ne, upd_eq, ne_eq, Nat.reduceEqDiff, not_false_eq_true, cc]
    refine ⟨vc, vc, ?_⟩
    rintro _ rfl
    simp only [zwr_rne, zwr_req, upd_ne, upd_eq, ne_eq, Nat.reduceEqDiff, not_false_eq_true, cc]
    refine ⟨vc, vc, ?_⟩
    rintro _ rfl
    refine fin _ ?_ ?_ ?_ ?_ ?_ ?_ ?_ ?_ ?_
    · exact (((((((m1.wr (by omega)).wr (by omega)).wr (by omega)).wr (by omega)).wr (by omega)).wr (by omega)).wr (by omega))
    · simp only [zwr_rne, zwr_req, upd_ne, upd_eq, ne_eq, Nat.reduceEqDiff, not_false_eq_true]; exact m0
    · simp only [zwr_rne, zwr_req, upd_ne, upd_eq, ne_eq, Nat.reduceEqDiff, not_false_eq_true]; exact m2
    · simp only [zwr_rne, zwr_req, upd_ne, upd_eq, ne_eq, Nat.reduceEqDiff, not_false_eq_true]
    · simp only [zwr_rne, zwr_req, upd_ne, upd_eq, ne_eq, Nat.reduceEqDiff, not_false_eq_true]
    · simp only [zwr_rne, zwr_req, upd_ne, upd_eq, ne_eq, Nat.reduceEqDiff, not_false_eq_true]
    · simp only [zwr_rne, zwr_req, upd_ne, upd_eq, ne_eq, Nat.reduceEqDiff, not_false_eq_true, em]
    · intro k hk hk6 j hj
      have ne : k ≠ S.2.2.2.1 := by omega
      simp only [mzz, zwr_rne, zwr_req, upd_ne, upd_eq, ne_eq, Nat.reduceEqDiff, not_false_eq_true, upd_ne ne]
    · intro _ j hj
      simp only [mzz, zwr_rne, zwr_req, upd_ne, upd_eq, ne_eq, Nat.reduceEqDiff, not_false_eq_true, upd_eq]
      unfold rowOf
      rw [m2]
      by_cases j0 : j = 0
      · rw [if_pos j0, if_pos j0, tin (by omega)]
      rw [if_neg j0, if_neg j0]
      by_cases j1 : j = 1
      · rw [if_pos j1, if_pos j1, tin (by omega)]
      rw [if_neg j1, if_neg j1]
      by_cases j2 : j = 2
      · rw [if_pos j2, if_pos j2, tin (by omega)]
      rw [if_neg j2, if_neg j2]
  · rw [if_pos (by rw [fa_le, ti600]; omega)]
    rintro _ rfl
    simp only [zwr_rne, zwr_req, upd_ne, upd_eq, ne_eq, Nat.reduceEqDiff, not_false_eq_true, cc]
    refine ⟨vc, vc, ?_⟩
    rintro _ rfl
    simp only [zwr_rne, zwr_req, upd_ne, upd_eq, ne_eq, Nat.reduceEqDiff, not_false_eq_true, cc]
    refine ⟨vc, vc, ?_⟩
    rintro _ rfl
    refine fin _ ?_ ?_ ?_ ?_ ?_ ?_ ?_ ?_ ?_
    · exact ((m1.wr (by omega)).wr (by omega)).wr (by omega)
    · simp only [zwr_rne, zwr_req, upd_ne, upd_eq, ne_eq, Nat.reduceEqDiff, not_false_eq_true]; exact m0
    · simp only [zwr_rne, zwr_req, upd_ne, upd_eq, ne_eq, Nat.reduceEqDiff, not_false_eq_true]; exact m2
    · simp only [zwr_rne, zwr_req, upd_ne, upd_eq, ne_eq, Nat.reduceEqDiff, not_false_eq_true]
    · simp only [zwr_rne, zwr_req, upd_ne, upd_eq, ne_eq, Nat.reduceEqDiff, not_false_eq_true]
    · simp only [zwr_rne, zwr_req, upd_ne, upd_eq, ne_eq, Nat.reduceEqDiff, not_false_eq_true]
    · simp only [zwr_rne, zwr_req, upd_ne, upd_eq, ne_eq, Nat.reduceEqDiff, not_false_eq_true]
    · intro k hk hk6 j hj
      simp only [mzz, zwr_rne, zwr_req, upd_ne, upd_eq, ne_eq, Nat.reduceEqDiff, not_false_eq_true]
    · intro q
      omega
