def hfOf (β : zMem) (c : Nat) : Int32 := if bH β c < 10 then zNONE else hldS (β 72 0) (β 87) (β 88) (β 89) c - 10
theorem nI_3 (k : Nat) : nI k + 3 = nI (k + 3) := by rw [show (3 : Int32) = nI 3 from rfl, nI_add]
/-- the memories that differ from a base only where this winding lies -/
def XF20 (β σ : zMem) : Prop := (∀ a : Nat, ¬ (20 ≤ a ∧ a ≤ 26) → σ a = β a) ∧ ∀ j : Nat, j ≠ 9 → j ≠ 10 → j ≠ 11 → σ 20 j = β 20 j
def XS20 (β : zMem) (rd : Nat) (S : zWS) (σ : zMem) : Prop := XF20 β σ ∧ σ 20 9 = nI rd ∧ (∀ c : Nat, c < bN β → σ 23 c = rkOf (β 78 c) ∧ σ 24 c = hfOf β c) ∧ DR (bN β) S (σ 21) (σ 22) (σ 25) (σ 20 10) (fun k j => σ 26 (4 * k + j))
theorem XF20.refl (β : zMem) : XF20 β β := ⟨fun _ _ => rfl, fun _ _ _ _ => rfl⟩
theorem XF20.wr {β σ : zMem} (h : XF20 β σ) {k j : Nat} {v : Int32} (hk : (21 ≤ k ∧ k ≤ 26) ∨ k = 20 ∧ (j = 9 ∨ j = 10 ∨ j = 11)) : XF20 β (zwr σ k j v) := by
  refine ⟨fun a h1 => ?_, fun i h1 h2 h3 => ?_⟩
  · rw [zwr_rne (by omega)]; exact h.1 a h1
  · by_cases e : k = 20
    · subst e
      rw [zwr_req, upd_ne (by omega)]; exact h.2 i h1 h2 h3
    · rw [zwr_rne (by omega)]; exact h.2 i h1 h2 h3
theorem XS20.cash {β : zMem} {rd : Nat} {S : zWS} {σ : zMem} {f : Nat} {V : Int32} (h : XS20 β rd S σ) (hf : f < 6) (h1 : -2147483648 ≤ S.2.2.1 f + V.toInt) (h2 : S.2.2.1 f + V.toInt < 2147483648) : XS20 β rd (wsCash S f V.toInt) (zwr σ 25 f (σ 25 f + V)) := by
  obtain ⟨m1, m2, m0, m3⟩ := h
  refine ⟨m1.wr (by omega), by rw [zwr_rne (by decide)]; exact m2, ?_, ?_⟩
  · simp only [zwr_rne, zwr_req, upd_ne, upd_eq, ne_eq, Nat.reduceEqDiff, not_false_eq_true]; exact m0
  simp only [zwr_rne, zwr_req, upd_ne, upd_eq, ne_eq, Nat.reduceEqDiff, not_false_eq_true]
  exact m3.cash hf h1 h2
theorem c_pay20 {G : zGT} {d : Nat} {β : zMem} {rd : Nat} {S : zWS} {σ : zMem} {Φ : zMem → Prop} {f c : Nat} {V : Int32} (hβ : Rany β) (h : XS20 β rd S σ) (hf : f < 6) (hc : c < bN β) (h1 : V.toInt ≤ S.1 c) (h2 : S.1 c ≤ 100000) (h3 : 0 ≤ S.2.1 c) (h4 : S.2.1 c ≤ 100000) (h5 : S.2.2.2.1 ≤ 2400000) (h6 : ∀ g : Nat, g < 6 → -2000000 ≤ S.2.2.1 g ∧ S.2.2.1 g ≤ 2000000) (hrd : rd ≤ 60)
    (hp : ∀ σ' : zMem, XS20 β rd (wsPay (bH β) rd f c V.toInt S) σ' → Φ σ') : CTV G (d + 1) Y_X10_pay [.inr (.inr 20), .inl (nI f), .inl (nI c), .inl V] σ Φ := by
  have hh := h
  obtain ⟨m1, m2, m0, m3⟩ := h
  have n24 := bN_24 hβ
  refine en_X10_pay_i20 ?_
  unfold wsPay at hp
  by_cases g0 : V.toInt ≤ 0
  · rw [if_neg (by rw [fa_lt, ti0]; omega)]
    rw [if_pos g0] at hp
    exact hp σ hh
  rw [if_neg g0] at hp
  rw [if_pos (by rw [fa_lt, ti0]; omega)]
  have cc : (nI c).toNatClampNeg = c := cln (by omega)
  have vc : vp_in (nI c) 24 := vin (by omega)
  have cf : (nI f).toNatClampNeg = f := cln (by omega)
  have vf : vp_in (nI f) 6 := vin (by omega)
  obtain ⟨a1, a2, a3, a4⟩ := id m3
  obtain ⟨hr1, hr2⟩ := bH_rng hβ hc
  have hfc := (m0 c hc).2
  -- the end: a row is told
  have fin : ∀ τ : zMem, XF20 β τ → τ 20 9 = nI rd → (∀ c : Nat, c < bN β → τ 23 c = rkOf (β 78 c) ∧ τ 24 c = hfOf β c) → τ 21 = upd (σ 21) c (σ 21 c - V) → τ 22 = upd (σ 22) c (σ 22 c + V) → τ 20 10 = σ 20 10 → τ 26 = σ 26 →
      (∀ g : Nat, g < 6 → (τ 25 g).toInt = S.2.2.1 g - (if g = f then V.toInt else 0) + (if bH β c = 10 + (g : Int) then V.toInt else 0)) →
      (if 600 ≤ (τ 20 10) then (∀ s4 : zMem, s4 = zwr τ 20 10 ((τ 20 10) + 1) → (Φ s4)) else (vp_in ((τ 20 10) * 4) 2400 ∧ ∀ s5 : zMem, s5 = zwr τ 26 ((τ 20 10) * 4).toNatClampNeg (τ 20 9) → (vp_in (((τ 20 10) * 4) + 1) 2400 ∧ ∀ s6 : zMem, s6 = zwr s5 26 (((τ 20 10) * 4) + 1).toNatClampNeg (nI f) → (vp_in (((τ 20 10) * 4) + 2) 2400 ∧ ∀ s7 : zMem, s7 = zwr s6 26 (((τ 20 10) * 4) + 2).toNatClampNeg (nI c) → (vp_in (((τ 20 10) * 4) + 3) 2400 ∧ ∀ s8 : zMem, s8 = zwr s7 26 (((τ 20 10) * 4) + 3).toNatClampNeg V → (∀ s9 : zMem, s9 = zwr s8 20 10 ((s8 20 10) + 1) → (Φ s9))))))) := by
    intro τ t1 t2 t0 t3 t4 t5 t6 t7
    by_cases g6 : S.2.2.2.1 < 600
    · have em : τ 20 10 = nI S.2.2.2.1 := by rw [t5]; exact nI_of_toInt (by omega) a3
      have e4 : nI S.2.2.2.1 * 4 = nI (4 * S.2.2.2.1) := by rw [show (4 : Int32) = nI 4 from rfl, pk_mul, Nat.mul_comm]
      rw [if_neg (by rw [fa_le, ti600, t5]; omega), em, e4, nI_1, nI_2, nI_3, cln (by omega), cln (by omega), cln (by omega), cln (by omega)]
      refine ⟨vin (by omega), ?_⟩
      rintro _ rfl
      refine ⟨vin (by omega), ?_⟩
      rintro _ rfl
      refine ⟨vin (by omega), ?_⟩
      rintro _ rfl
      refine ⟨vin (by omega), ?_⟩
      rintro _ rfl
      rintro _ rfl
      refine hp _ ⟨((((t1.wr (by omega)).wr (by omega)).wr (by omega)).wr (by omega)).wr (by omega), ?_, ?_, ?_⟩
      · simp only [zwr_rne, zwr_req, upd_ne, upd_eq, ne_eq, Nat.reduceEqDiff, not_false_eq_true]; exact t2
      · simp only [zwr_rne, zwr_req, upd_ne, upd_eq, ne_eq, Nat.reduceEqDiff, not_false_eq_true]; exact t0
      · simp only [zwr_rne, zwr_req, upd_ne, upd_eq, ne_eq, Nat.reduceEqDiff, not_false_eq_true]
        rw [t3, t4]
        refine DR.put m3 hc (by omega) h1 h2 h3 h4 h5 t7 ?_ (fun k hk hk6 j hj => ?_) (fun _ j hj => ?_)
        · rw [t5]
        · rw [upd_ne (by omega), upd_ne (by omega), upd_ne (by omega), upd_ne (by omega), t6]
        · unfold rowOf
          have j4 : j = 0 ∨ j = 1 ∨ j = 2 ∨ j = 3 := by omega
          rcases j4 with rfl | rfl | rfl | rfl
          · rw [upd_ne (by omega), upd_ne (by omega), upd_ne (by omega), Nat.add_zero, upd_eq, if_pos rfl, t2, tin (by omega)]
          · rw [upd_ne (by omega), upd_ne (by omega), upd_eq, if_neg (by decide), if_pos rfl, tin (by omega)]
          · rw [upd_ne (by omega), upd_eq, if_neg (by decide), if_neg (by decide), if_pos rfl, tin (by omega)]
          · rw [upd_eq, if_neg (by decide), if_neg (by decide), if_neg (by decide)]
    · rw [if_pos (by rw [fa_le, ti600, t5]; omega)]
      rintro _ rfl
      refine hp _ ⟨t1.wr (by omega), ?_, ?_, ?_⟩
      · simp only [zwr_rne, zwr_req, upd_ne, upd_eq, ne_eq, Nat.reduceEqDiff, not_false_eq_true]; exact t2
      · simp only [zwr_rne, zwr_req, upd_ne, upd_eq, ne_eq, Nat.reduceEqDiff, not_false_eq_true]; exact t0
      · simp only [zwr_rne, zwr_req, upd_ne, upd_eq, ne_eq, Nat.reduceEqDiff, not_false_eq_true]
        rw [t3, t4]
        refine DR.put m3 hc (by omega) h1 h2 h3 h4 h5 t7 ?_ (fun k hk hk6 j hj => ?_) (fun q => by omega)
        · rw [t5]
        · rw [t6]
  rw [cc, cf]
  refine ⟨vc, vf, vf, ?_⟩
  rintro _ rfl
  simp only [zwr_rne, zwr_req, upd_ne, upd_eq, ne_eq, Nat.reduceEqDiff, not_false_eq_true]
  refine ⟨vc, vc, ?_⟩
  rintro _ rfl
  simp only [zwr_rne, zwr_req, upd_ne, upd_eq, ne_eq, Nat.reduceEqDiff, not_false_eq_true]
  refine ⟨vc, vc, ?_⟩
  rintro _ rfl
  rw [hfc]
  have cash1 : ∀ g : Nat, g < 6 → (upd (σ 25) f (σ 25 f - V) g).toInt = S.2.2.1 g - (if g = f then V.toInt else 0) := by
    intro g hg
    have q := a2 g hg
    have q6 := h6 g hg
    by_cases e : g = f
    · subst e
      rw [upd_eq, if_pos rfl, fb_subI (by omega) (by omega), q]
    · rw [upd_ne e, if_neg e, q]; omega
  by_cases g : bH β c < 10
  · have e : hfOf β c = zNONE := if_pos g
    rw [e, if_pos (by decide)]
    refine fin _ (((m1.wr (by omega)).wr (by omega)).wr (by omega)) ?_ ?_ ?_ ?_ ?_ ?_ (fun g' hg' => ?_)
    · simp only [zwr_rne, zwr_req, upd_ne, upd_eq, ne_eq, Nat.reduceEqDiff, not_false_eq_true]; exact m2
    · simp only [zwr_rne, zwr_req, upd_ne, upd_eq, ne_eq, Nat.reduceEqDiff, not_false_eq_true]; exact m0
    · simp only [zwr_rne, zwr_req, upd_ne, upd_eq, ne_eq, Nat.reduceEqDiff, not_false_eq_true]
    · simp only [zwr_rne, zwr_req, upd_ne, upd_eq, ne_eq, Nat.reduceEqDiff, not_false_eq_true]
    · simp only [zwr_rne, zwr_req, upd_ne, upd_eq, ne_eq, Nat.reduceEqDiff, not_false_eq_true]
    · simp only [zwr_rne, zwr_req, upd_ne, upd_eq, ne_eq, Nat.reduceEqDiff, not_false_eq_true]
    · simp only [zwr_rne, zwr_req, upd_ne, upd_eq, ne_eq, Nat.reduceEqDiff, not_false_eq_true]
      rw [cash1 g' hg', if_neg (show ¬ bH β c = 10 + (g' : Int) by omega)]; omega
  · have hb : (hldS (β 72 0) (β 87) (β 88) (β 89) c).toInt = bH β c := rfl
    obtain ⟨k, hk, hk2, hk3⟩ := hd_of hr1 hr2 (by omega)
    rw [hb] at hk3
    have e : hfOf β c = nI k := by
      unfold hfOf
      rw [if_neg g]; exact hk2
    have q6 : ¬ (nI 6 ≤ nI k) := nI_ge (by omega) (by omega)
    rw [e, if_neg (by rw [fa_lt, ti0, tin (by omega)]; omega), if_neg (show ¬ ((6 : Int32) ≤ nI k) from q6), cln (show k < 2147483648 by omega)]
    have v6 : vp_in (nI k) 6 := vin hk
    refine ⟨v6, v6, ?_⟩
    rintro _ rfl
    refine fin _ ((((m1.wr (by omega)).wr (by omega)).wr (by omega)).wr (by omega)) ?_ ?_ ?_ ?_ ?_ ?_ (fun g' hg' => ?_)
    · simp only [zwr_rne, zwr_req, upd_ne, upd_eq, ne_eq, Nat.reduceEqDiff, not_false_eq_true]; exact m2
    · simp only [zwr_rne, zwr_req, upd_ne, upd_eq, ne_eq, Nat.reduceEqDiff, not_false_eq_true]; exact m0
    · simp only [zwr_rne, zwr_req, upd_ne, upd_eq, ne_eq, Nat.reduceEqDiff, not_false_eq_true]
    · simp only [zwr_rne, zwr_req, upd_ne, upd_eq, ne_eq, Nat.reduceEqDiff, not_false_eq_true]
    · simp only [zwr_rne, zwr_req, upd_ne, upd_eq, ne_eq, Nat.reduceEqDiff, not_false_eq_true]
    · simp only [zwr_rne, zwr_req, upd_ne, upd_eq, ne_eq, Nat.reduceEqDiff, not_false_eq_true]
    · simp only [zwr_rne, zwr_req, upd_ne, upd_eq, ne_eq, Nat.reduceEqDiff, not_false_eq_true]
      have q := cash1 g' hg'
      have q6 := h6 g' hg'
      by_cases ee : g' = k
      · subst ee
        rw [upd_eq, if_pos hk3]
        have : 0 ≤ (if g' = f then V.toInt else 0) ∧ (if g' = f then V.toInt else 0) ≤ 100000 := by split <;> omega
        rw [fb_addI (by omega) (by omega), q]
      · rw [upd_ne ee, q, if_neg (show ¬ bH β c = 10 + (g' : Int) by omega)]; omega
theorem c_isInRank20 {G : zGT} {d : Nat} {β σ : zMem} {Φ : Int32 → zMem → Prop} {c f r : Nat} (hβ : Rany β) (e3 : σ 3 = β 3) (e4 : σ 4 = β 4) (e23 : σ 23 c = rkOf (β 78 c)) (hc : c < bN β) (hf : f < 6) (hr : r < 4) (h1 : bR β c f r = true → Φ 1 σ) (h0 : ¬ bR β c f r = true → Φ 0 σ) : CTI G (d + 1) Y_X10_isInRank [.inr (.inr 20), .inl (nI c), .inl (nI f), .inl (nI r)] σ Φ := by
  have n24 := bN_24 hβ
  have hc' := (bN_c hβ).1 hc
  obtain ⟨p1, p2, p3, p4, p5, p6, p7, p8, p9, p10, -⟩ := hβ.2.2.1.1 c hc'
  have vc : vp_in (nI c) 24 := vin (by omega)
  refine en_X10_isInRank_i20 ?_
  rw [cln (by omega), e3, e4, e23, p2, p3]
  refine ⟨vc, ?_⟩
  unfold bR inR at h1 h0
  by_cases g : β 79 c = nI f
  · rw [if_pos g]
    have g' : (β 79 c).toInt = (f : Int) := by rw [g, tin (by omega)]
    rw [if_pos g', decide_eq_true_iff] at h1 h0
    have er : rkOf (β 78 c) = nI r ↔ (r = 0 ∧ (β 78 c).toInt = 4 ∨ r = 1 ∧ (β 78 c).toInt = 2 ∨ r = 2 ∧ (β 78 c).toInt ≤ 1 ∨ r = 3 ∧ (β 78 c).toInt = 3) := by
      have e := tin (n := r) (by omega)
      unfold rkOf
      split
      · rw [fa_eq, e, ti0]; omega
      · split
        · rw [fa_eq, e, ti1]; omega
        · split
          · rw [fa_eq, e, ti3]; omega
          · rw [fa_eq, e, ti2]; omega
    refine ⟨vc, ?_⟩
    by_cases b : rkOf (β 78 c) = nI r
    · rw [if_pos b]; exact h1 (er.1 b)
    · rw [if_neg b]; exact h0 (fun q => b (er.2 q))
  · rw [if_neg g]
    have g' : ¬ (β 79 c).toInt = (f : Int) := fun q => g (nI_of_toInt (by omega) q)
    rw [if_neg g', decide_eq_true_iff] at h1 h0
    by_cases r2 : r = 2
    · subst r2
      rw [if_pos (by decide)]
      refine ⟨vc, ?_⟩
      by_cases b : ((β 80 c) >>> (nI f &&& 31)) &&& 1 = 1
      · rw [if_pos b]
        exact h1 ⟨rfl, (gbit' p9 p10 hf).1 b⟩
      · rw [if_neg b]
        exact h0 (fun q => b ((gbit' p9 p10 hf).2 q.2))
    · rw [if_neg (by rw [fa_eq, tin (by omega), ti2]; omega)]
      exact h0 (fun q => r2 q.1)
theorem c_payRank20 {G : zGT} {d : Nat} {β : zMem} {rd : Nat} {B : Int} {S : zWS} {σ : zMem} {Φ : Int32 → zMem → Prop} {f r : Nat} (hβ : Rany β) (hw : WI (bN β) B S) (hB : B ≤ 1600000) (hf : f < 6) (hr : r < 4) (hrd : rd ≤ 60) (h : XS20 β rd S σ)
    (hp : ∀ σ', XS20 β rd (wsRank (fun c => bR β c f r) (bH β) (bN β) f rd S) σ' → Φ (if wsTot (fun c => bR β c f r) S.1 (bN β) ≤ S.2.2.1 f then 1 else 0) σ') : CTI G (d + 2) Y_X10_payRank [.inr (.inr 20), .inl (nI f), .inl (nI r)] σ Φ := by
  have n24 := bN_24 hβ
  have en8 : ∀ τ : zMem, XF20 β τ → τ 1 6 = nI (bN β) := by
    intro τ ht
    rw [ht.1 1 (by decide), hβ.1.2.2.1.1]
    have := hβ.1.2.2.1.2.1
    exact nI_of_toInt (by omega) (by unfold bN; omega)
  have vf : vp_in (nI f) 6 := vin hf
  have cf : (nI f).toNatClampNeg = f := cln (by omega)
  refine en_X10_payRank_i20 ?_
  have hp0 := hw.2.1 f hf
  have hpB := hw.cash hf
  obtain ⟨T0, T1⟩ := tot_rng (ir := fun c => bR β c f r) hw n24 (Nat.le_refl _)
  have L2 : ∀ (v3 v4 : Int32), v3.toInt = wsTot (fun c => bR β c f r) S.1 (bN β) → ¬ v3.toInt = 0 → v4.toInt = S.2.2.1 f → ∀ m i : Nat, i + m = bN β → ∀ τ, XS20 β rd (wsRk (fun c => bR β c f r) (bH β) (bN β) f rd S i) τ →
      WJ G M_X10_payRank (d + 2) (RI Φ) 65 [some (.inr (.inr 20)), some (.inl (nI f)), some (.inl (nI r)), some (.inl v3), some (.inl v4), some (.inl (nI i)), none] [] τ := by
    intro v3 v4 hv3 hv30 hv4 m
    induction m with
    | zero =>
      intro i hi τ hτ
      refine rg_X10_payRank_i20_65 ?_
      have : i = bN β := by omega
      subst this
      rw [en8 τ hτ.1, if_pos (nI_le (by omega) (by omega))]
      have HH := hp τ hτ
      refine zlt (fun g => ?_) (fun g => ?_)
      · rw [if_neg (by omega)] at HH; exact HH
      · rw [if_pos (by omega)] at HH; exact HH
    | succ m ih =>
      intro i hi τ hτ
      refine rg_X10_payRank_i20_65 ?_
      rw [en8 τ hτ.1, if_neg (nI_ge (by omega) (by omega)), cln (show i < 2147483648 by omega), nI_1]
      have vi : vp_in (nI i) 24 := vin (by omega)
      have ih' := ih (i + 1) (by omega)
      rw [wsRk_s] at ih'
      obtain ⟨m1, m2, m0, m3⟩ := id hτ
      refine c_isInRank20 hβ (m1.1 3 (by decide)) (m1.1 4 (by decide)) (m0 i (by omega)).1 (by omega) hf hr (fun g => ?_) (fun g => ?_)
      · rw [if_neg (by decide)]
        have g' : (fun c => bR β c f r) i = true := g
        simp only [if_pos g] at ih'
        obtain ⟨w1, w2, w3⟩ := WI.rk (rd := rd) (hd := bH β) (ir := fun c => bR β c f r) hw hf i (by omega)
        obtain ⟨c1, c2, c3⟩ := WI.coin (rd := rd) (hd := bH β) (ir := fun c => bR β c f r) hw hf (show i < bN β by omega) g'
        have o1 := w2 i (Nat.le_refl _)
        have ei := w1.1 i (by omega)
        have oi : (τ 21 i).toInt = S.1 i := by rw [(m3.1 i (by omega)).1]; exact o1
        have rr := w1.rows n24
        have oT : S.1 i ≤ wsTot (fun c => bR β c f r) S.1 (bN β) := by
          have nn : ∀ j, j < bN β → 0 ≤ (fun c => if bR β c f r = true then S.1 c else 0) j := by
            intro j hj
            have := hw.1 j hj
            show 0 ≤ if bR β j f r = true then S.1 j else 0
            split <;> omega
          have := isum_ge (bN β) nn i (by omega)
          have e : (if bR β i f r = true then S.1 i else 0) = S.1 i := if_pos g
          have this : (if bR β i f r = true then S.1 i else 0) ≤ isum (fun c => if bR β c f r = true then S.1 c else 0) (bN β) := this
          rw [e] at this
          exact this
        have hO := (hw.1 i (by omega)).1
        have hO2 := (hw.1 i (by omega))
        refine ⟨vi, ?_, vi, ?_⟩
        · intro z
          have : v3.toInt64.toInt = 0 := by rw [z]; rfl
          rw [fb_I2L] at this
          exact hv30 this
        have pr0 : 0 ≤ S.2.2.1 f * S.1 i := Int.mul_nonneg hp0 hO
        have pr1 : S.2.2.1 f * S.1 i ≤ 1600000 * 100000 := Int.mul_le_mul (by omega) (by omega) hO (by omega)
        have e1 : (v4.toInt64 * (τ 21 i).toInt64).toInt = S.2.2.1 f * S.1 i := by
          rw [fb_mulL (by rw [fb_I2L, fb_I2L, hv4, oi]; omega) (by rw [fb_I2L, fb_I2L, hv4, oi]; omega), fb_I2L, fb_I2L, hv4, oi]
        have e2 : (v4.toInt64 * (τ 21 i).toInt64 / v3.toInt64).toInt = S.2.2.1 f * S.1 i / wsTot (fun c => bR β c f r) S.1 (bN β) := by
          rw [fb_divL (by omega) (by rw [fb_I2L]; omega), e1, fb_I2L, hv3]
        have d0 : 0 ≤ S.2.2.1 f * S.1 i / wsTot (fun c => bR β c f r) S.1 (bN β) := Int.ediv_nonneg pr0 (by omega)
        have d1 : S.2.2.1 f * S.1 i / wsTot (fun c => bR β c f r) S.1 (bN β) ≤ S.2.2.1 f := by
          refine Int.ediv_le_of_le_mul (by omega) ?_
          exact Int.mul_le_mul_of_nonneg_left oT hp0
        have e3 : ((v4.toInt64 * (τ 21 i).toInt64) / v3.toInt64).toInt32.toInt = S.2.2.1 f * S.1 i / wsTot (fun c => bR β c f r) S.1 (bN β) := by
          rw [fb_L2I (by omega) (by omega), e2]
        have eV : ∀ w : Int32, w.toInt = S.2.2.1 f * S.1 i / wsTot (fun c => bR β c f r) S.1 (bN β) → (if τ 21 i < w then τ 21 i else w).toInt = wsCoin (wsTot (fun c => bR β c f r) S.1 (bN β)) (S.2.2.1 f) (S.1 i) := by
          intro w hw'
          unfold wsCoin
          by_cases q : wsTot (fun c => bR β c f r) S.1 (bN β) ≤ S.2.2.1 f
          · have : S.1 i ≤ S.2.2.1 f * S.1 i / wsTot (fun c => bR β c f r) S.1 (bN β) := by
              refine Int.le_ediv_of_mul_le (by omega) ?_
              rw [Int.mul_comm (S.2.2.1 f)]
              exact Int.mul_le_mul_of_nonneg_left q hO
            rw [if_pos q]
            split
            · exact oi
            · rename_i q2
              rw [fa_lt] at q2
              omega
          · have : S.2.2.1 f * S.1 i / wsTot (fun c => bR β c f r) S.1 (bN β) ≤ S.1 i := by
              refine Int.ediv_le_of_le_mul (by omega) ?_
              rw [Int.mul_comm (S.1 i)]
              exact Int.mul_le_mul_of_nonneg_right (by omega) hO
            rw [if_neg q]
            split
            · rename_i q2
              rw [fa_lt] at q2
              omega
            · exact hw'
        have eV' := eV _ e3
        generalize (if τ 21 i < ((v4.toInt64 * (τ 21 i).toInt64) / v3.toInt64).toInt32 then τ 21 i else ((v4.toInt64 * (τ 21 i).toInt64) / v3.toInt64).toInt32) = V at eV' ⊢
        rw [← eV'] at ih' c1 c2 c3
        refine c_pay20 hβ hτ hf (by omega) (by omega) (by omega) ei.2.1 (by omega) (by omega) (fun g hg => ?_) hrd ih'
        have := w1.2.1 g hg
        have := w1.cash hg
        omega
      · rw [if_pos rfl]
        simp only [if_neg g] at ih'
        exact ih' τ hτ
  have L1 : ∀ m i : Nat, i + m = bN β → ∀ (v3 : Int32), v3.toInt = wsTot (fun c => bR β c f r) S.1 i →
      WJ G M_X10_payRank (d + 2) (RI Φ) 5 [some (.inr (.inr 20)), some (.inl (nI f)), some (.inl (nI r)), some (.inl v3), some (.inl (nI i)), none, none] [] σ := by
    intro m
    induction m with
    | zero =>
      intro i hi v3 hv3
      refine rg_X10_payRank_i20_5 ?_
      have : i = bN β := by omega
      subst this
      rw [en8 σ h.1, if_pos (nI_le (by omega) (by omega)), cf]
      refine zeq (fun g => ?_) (fun g => ?_)
      · rw [ti0] at g
        have HH := hp σ
        rw [wsRank_tot0 hw hf (by omega), if_pos (by omega)] at HH
        exact HH h
      · refine ⟨vf, ?_⟩
        rw [ti0] at g
        exact L2 v3 (σ 25 f) hv3 g (h.2.2.2.2.1 f hf) (bN β) 0 (by omega) σ h
    | succ m ih =>
      intro i hi v3 hv3
      refine rg_X10_payRank_i20_5 ?_
      rw [en8 σ h.1, if_neg (nI_ge (by omega) (by omega)), cln (show i < 2147483648 by omega), nI_1]
      have vi : vp_in (nI i) 24 := vin (by omega)
      obtain ⟨m1, m2, m0, m3⟩ := id h
      obtain ⟨t0, t1⟩ := tot_rng (ir := fun c => bR β c f r) (i := i) hw n24 (by omega)
      have oi := hw.1 i (by omega)
      refine c_isInRank20 hβ (m1.1 3 (by decide)) (m1.1 4 (by decide)) (m0 i (by omega)).1 (by omega) hf hr (fun g => ?_) (fun g => ?_)
      · rw [if_neg (by decide)]
        refine ⟨vi, ?_⟩
        have o := (m3.1 i (by omega)).1
        refine ih (i + 1) (by omega) _ ?_
        rw [fb_addI (by omega) (by omega), hv3, tot_s, if_pos g, o]
      · rw [if_pos rfl]
        refine ih (i + 1) (by omega) _ ?_
        rw [Int32.add_zero, hv3, tot_s, if_neg g]; omega
  exact L1 (bN β) 0 (by omega) 0 (by rfl)
/-- the memories that differ from a base only where this winding lies -/
def XF27 (β σ : zMem) : Prop := (∀ a : Nat, ¬ (27 ≤ a ∧ a ≤ 33) → σ a = β a) ∧ ∀ j : Nat, j ≠ 9 → j ≠ 10 → j ≠ 11 → σ 27 j = β 27 j
def XS27 (β : zMem) (rd : Nat) (S : zWS) (σ : zMem) : Prop := XF27 β σ ∧ σ 27 9 = nI rd ∧ (∀ c : Nat, c < bN β → σ 30 c = rkOf (β 78 c) ∧ σ 31 c = hfOf β c) ∧ DR (bN β) S (σ 28) (σ 29) (σ 32) (σ 27 10) (fun k j => σ 33 (4 * k + j))
theorem XF27.refl (β : zMem) : XF27 β β := ⟨fun _ _ => rfl, fun _ _ _ _ => rfl⟩
theorem XF27.wr {β σ : zMem} (h : XF27 β σ) {k j : Nat} {v : Int32} (hk : (28 ≤ k ∧ k ≤ 33) ∨ k = 27 ∧ (j = 9 ∨ j = 10 ∨ j = 11)) : XF27 β (zwr σ k j v) := by
  refine ⟨fun a h1 => ?_, fun i h1 h2 h3 => ?_⟩
  · rw [zwr_rne (by omega)]; exact h.1 a h1
  · by_cases e : k = 27
    · subst e
      rw [zwr_req, upd_ne (by omega)]; exact h.2 i h1 h2 h3
    · rw [zwr_rne (by omega)]; exact h.2 i h1 h2 h3
theorem XS27.cash {β : zMem} {rd : Nat} {S : zWS} {σ : zMem} {f : Nat} {V : Int32} (h : XS27 β rd S σ) (hf : f < 6) (h1 : -2147483648 ≤ S.2.2.1 f + V.toInt) (h2 : S.2.2.1 f + V.toInt < 2147483648) : XS27 β rd (wsCash S f V.toInt) (zwr σ 32 f (σ 32 f + V)) := by
  obtain ⟨m1, m2, m0, m3⟩ := h
  refine ⟨m1.wr (by omega), by rw [zwr_rne (by decide)]; exact m2, ?_, ?_⟩
  · simp only [zwr_rne, zwr_req, upd_ne, upd_eq, ne_eq, Nat.reduceEqDiff, not_false_eq_true]; exact m0
  simp only [zwr_rne, zwr_req, upd_ne, upd_eq, ne_eq, Nat.reduceEqDiff, not_false_eq_true]
  exact m3.cash hf h1 h2
theorem c_pay27 {G : zGT} {d : Nat} {β : zMem} {rd : Nat} {S : zWS} {σ : zMem} {Φ : zMem → Prop} {f c : Nat} {V : Int32} (hβ : Rany β) (h : XS27 β rd S σ) (hf : f < 6) (hc : c < bN β) (h1 : V.toInt ≤ S.1 c) (h2 : S.1 c ≤ 100000) (h3 : 0 ≤ S.2.1 c) (h4 : S.2.1 c ≤ 100000) (h5 : S.2.2.2.1 ≤ 2400000) (h6 : ∀ g : Nat, g < 6 → -2000000 ≤ S.2.2.1 g ∧ S.2.2.1 g ≤ 2000000) (hrd : rd ≤ 60)
    (hp : ∀ σ' : zMem, XS27 β rd (wsPay (bH β) rd f c V.toInt S) σ' → Φ σ') : CTV G (d + 1) Y_X10_pay [.inr (.inr 27), .inl (nI f), .inl (nI c), .inl V] σ Φ := by
  have hh := h
  obtain ⟨m1, m2, m0, m3⟩ := h
  have n24 := bN_24 hβ
  refine en_X10_pay_i27 ?_
  unfold wsPay at hp
  by_cases g0 : V.toInt ≤ 0
  · rw [if_neg (by rw [fa_lt, ti0]; omega)]
    rw [if_pos g0] at hp
    exact hp σ hh
  rw [if_neg g0] at hp
  rw [if_pos (by rw [fa_lt, ti0]; omega)]
  have cc : (nI c).toNatClampNeg = c := cln (by omega)
  have vc : vp_in (nI c) 24 := vin (by omega)
  have cf : (nI f).toNatClampNeg = f := cln (by omega)
  have vf : vp_in (nI f) 6 := vin (by omega)
  obtain ⟨a1, a2, a3, a4⟩ := id m3
  obtain ⟨hr1, hr2⟩ := bH_rng hβ hc
  have hfc := (m0 c hc).2
  -- the end: a row is told
  have fin : ∀ τ : zMem, XF27 β τ → τ 27 9 = nI rd → (∀ c : Nat, c < bN β → τ 30 c = rkOf (β 78 c) ∧ τ 31 c = hfOf β c) → τ 28 = upd (σ 28) c (σ 28 c - V) → τ 29 = upd (σ 29) c (σ 29 c + V) → τ 27 10 = σ 27 10 → τ 33 = σ 33 →
      (∀ g : Nat, g < 6 → (τ 32 g).toInt = S.2.2.1 g - (if g = f then V.toInt else 0) + (if bH β c = 10 + (g : Int) then V.toInt else 0)) →
      (if 600 ≤ (τ 27 10) then (∀ s4 : zMem, s4 = zwr τ 27 10 ((τ 27 10) + 1) → (Φ s4)) else (vp_in ((τ 27 10) * 4) 2400 ∧ ∀ s5 : zMem, s5 = zwr τ 33 ((τ 27 10) * 4).toNatClampNeg (τ 27 9) → (vp_in (((τ 27 10) * 4) + 1) 2400 ∧ ∀ s6 : zMem, s6 = zwr s5 33 (((τ 27 10) * 4) + 1).toNatClampNeg (nI f) → (vp_in (((τ 27 10) * 4) + 2) 2400 ∧ ∀ s7 : zMem, s7 = zwr s6 33 (((τ 27 10) * 4) + 2).toNatClampNeg (nI c) → (vp_in (((τ 27 10) * 4) + 3) 2400 ∧ ∀ s8 : zMem, s8 = zwr s7 33 (((τ 27 10) * 4) + 3).toNatClampNeg V → (∀ s9 : zMem, s9 = zwr s8 27 10 ((s8 27 10) + 1) → (Φ s9))))))) := by
    intro τ t1 t2 t0 t3 t4 t5 t6 t7
    by_cases g6 : S.2.2.2.1 < 600
    · have em : τ 27 10 = nI S.2.2.2.1 := by rw [t5]; exact nI_of_toInt (by omega) a3
      have e4 : nI S.2.2.2.1 * 4 = nI (4 * S.2.2.2.1) := by rw [show (4 : Int32) = nI 4 from rfl, pk_mul, Nat.mul_comm]
      rw [if_neg (by rw [fa_le, ti600, t5]; omega), em, e4, nI_1, nI_2, nI_3, cln (by omega), cln (by omega), cln (by omega), cln (by omega)]
      refine ⟨vin (by omega), ?_⟩
      rintro _ rfl
      refine ⟨vin (by omega), ?_⟩
      rintro _ rfl
      refine ⟨vin (by omega), ?_⟩
      rintro _ rfl
      refine ⟨vin (by omega), ?_⟩
      rintro _ rfl
      rintro _ rfl
      refine hp _ ⟨((((t1.wr (by omega)).wr (by omega)).wr (by omega)).wr (by omega)).wr (by omega), ?_, ?_, ?_⟩
      · simp only [zwr_rne, zwr_req, upd_ne, upd_eq, ne_eq, Nat.reduceEqDiff, not_false_eq_true]; exact t2
      · simp only [zwr_rne, zwr_req, upd_ne, upd_eq, ne_eq, Nat.reduceEqDiff, not_false_eq_true]; exact t0
      · simp only [zwr_rne, zwr_req, upd_ne, upd_eq, ne_eq, Nat.reduceEqDiff, not_false_eq_true]
        rw [t3, t4]
        refine DR.put m3 hc (by omega) h1 h2 h3 h4 h5 t7 ?_ (fun k hk hk6 j hj => ?_) (fun _ j hj => ?_)
        · rw [t5]
        · rw [upd_ne (by omega), upd_ne (by omega), upd_ne (by omega), upd_ne (by omega), t6]
        · unfold rowOf
          have j4 : j = 0 ∨ j = 1 ∨ j = 2 ∨ j = 3 := by omega
          rcases j4 with rfl | rfl | rfl | rfl
          · rw [upd_ne (by omega), upd_ne (by omega), upd_ne (by omega), Nat.add_zero, upd_eq, if_pos rfl, t2, tin (by omega)]
          · rw [upd_ne (by omega), upd_ne (by omega), upd_eq, if_neg (by decide), if_pos rfl, tin (by omega)]
          · rw [upd_ne (by omega), upd_eq, if_neg (by decide), if_neg (by decide), if_pos rfl, tin (by omega)]
          · rw [upd_eq, if_neg (by decide), if_neg (by decide), if_neg (by decide)]
    · rw [if_pos (by rw [fa_le, ti600, t5]; omega)]
      rintro _ rfl
      refine hp _ ⟨t1.wr (by omega), ?_, ?_, ?_⟩
      · simp only [zwr_rne, zwr_req, upd_ne, upd_eq, ne_eq, Nat.reduceEqDiff, not_false_eq_true]; exact t2
      · simp only [zwr_rne, zwr_req, upd_ne, upd_eq, ne_eq, Nat.reduceEqDiff, not_false_eq_true]; exact t0
      · simp only [zwr_rne, zwr_req, upd_ne, upd_eq, ne_eq, Nat.reduceEqDiff, not_false_eq_true]
        rw [t3, t4]
        refine DR.put m3 hc (by omega) h1 h2 h3 h4 h5 t7 ?_ (fun k hk hk6 j hj => ?_) (fun q => by omega)
        · rw [t5]
        · rw [t6]
  rw [cc, cf]
  refine ⟨vc, vf, vf, ?_⟩
  rintro _ rfl
  simp only [zwr_rne, zwr_req, upd_ne, upd_eq, ne_eq, Nat.reduceEqDiff, not_false_eq_true]
  refine ⟨vc, vc, ?_⟩
  rintro _ rfl
  simp only [zwr_rne, zwr_req, upd_ne, upd_eq, ne_eq, Nat.reduceEqDiff, not_false_eq_true]
  refine ⟨vc, vc, ?_⟩
  rintro _ rfl
  rw [hfc]
  have cash1 : ∀ g : Nat, g < 6 → (upd (σ 32) f (σ 32 f - V) g).toInt = S.2.2.1 g - (if g = f then V.toInt else 0) := by
    intro g hg
    have q := a2 g hg
    have q6 := h6 g hg
    by_cases e : g = f
    · subst e
      rw [upd_eq, if_pos rfl, fb_subI (by omega) (by omega), q]
    · rw [upd_ne e, if_neg e, q]; omega
  by_cases g : bH β c < 10
  · have e : hfOf β c = zNONE := if_pos g
    rw [e, if_pos (by decide)]
    refine fin _ (((m1.wr (by omega)).wr (by omega)).wr (by omega)) ?_ ?_ ?_ ?_ ?_ ?_ (fun g' hg' => ?_)
    · simp only [zwr_rne, zwr_req, upd_ne, upd_eq, ne_eq, Nat.reduceEqDiff, not_false_eq_true]; exact m2
    · simp only [zwr_rne, zwr_req, upd_ne, upd_eq, ne_eq, Nat.reduceEqDiff, not_false_eq_true]; exact m0
    · simp only [zwr_rne, zwr_req, upd_ne, upd_eq, ne_eq, Nat.reduceEqDiff, not_false_eq_true]
    · simp only [zwr_rne, zwr_req, upd_ne, upd_eq, ne_eq, Nat.reduceEqDiff, not_false_eq_true]
    · simp only [zwr_rne, zwr_req, upd_ne, upd_eq, ne_eq, Nat.reduceEqDiff, not_false_eq_true]
    · simp only [zwr_rne, zwr_req, upd_ne, upd_eq, ne_eq, Nat.reduceEqDiff, not_false_eq_true]
    · simp only [zwr_rne, zwr_req, upd_ne, upd_eq, ne_eq, Nat.reduceEqDiff, not_false_eq_true]
      rw [cash1 g' hg', if_neg (show ¬ bH β c = 10 + (g' : Int) by omega)]; omega
  · have hb : (hldS (β 72 0) (β 87) (β 88) (β 89) c).toInt = bH β c := rfl
    obtain ⟨k, hk, hk2, hk3⟩ := hd_of hr1 hr2 (by omega)
    rw [hb] at hk3
    have e : hfOf β c = nI k := by
      unfold hfOf
      rw [if_neg g]; exact hk2
    have q6 : ¬ (nI 6 ≤ nI k) := nI_ge (by omega) (by omega)
    rw [e, if_neg (by rw [fa_lt, ti0, tin (by omega)]; omega), if_neg (show ¬ ((6 : Int32) ≤ nI k) from q6), cln (show k < 2147483648 by omega)]
    have v6 : vp_in (nI k) 6 := vin hk
    refine ⟨v6, v6, ?_⟩
    rintro _ rfl
    refine fin _ ((((m1.wr (by omega)).wr (by omega)).wr (by omega)).wr (by omega)) ?_ ?_ ?_ ?_ ?_ ?_ (fun g' hg' => ?_)
    · simp only [zwr_rne, zwr_req, upd_ne, upd_eq, ne_eq, Nat.reduceEqDiff, not_false_eq_true]; exact m2
    · simp only [zwr_rne, zwr_req, upd_ne, upd_eq, ne_eq, Nat.reduceEqDiff, not_false_eq_true]; exact m0
    · simp only [zwr_rne, zwr_req, upd_ne, upd_eq, ne_eq, Nat.reduceEqDiff, not_false_eq_true]
    · simp only [zwr_rne, zwr_req, upd_ne, upd_eq, ne_eq, Nat.reduceEqDiff, not_false_eq_true]
    · simp only [zwr_rne, zwr_req, upd_ne, upd_eq, ne_eq, Nat.reduceEqDiff, not_false_eq_true]
    · simp only [zwr_rne, zwr_req, upd_ne, upd_eq, ne_eq, Nat.reduceEqDiff, not_false_eq_true]
    · simp only [zwr_rne, zwr_req, upd_ne, upd_eq, ne_eq, Nat.reduceEqDiff, not_false_eq_true]
      have q := cash1 g' hg'
      have q6 := h6 g' hg'
      by_cases ee : g' = k
      · subst ee
        rw [upd_eq, if_pos hk3]
        have : 0 ≤ (if g' = f then V.toInt else 0) ∧ (if g' = f then V.toInt else 0) ≤ 100000 := by split <;> omega
        rw [fb_addI (by omega) (by omega), q]
      · rw [upd_ne ee, q, if_neg (show ¬ bH β c = 10 + (g' : Int) by omega)]; omega
theorem c_isInRank27 {G : zGT} {d : Nat} {β σ : zMem} {Φ : Int32 → zMem → Prop} {c f r : Nat} (hβ : Rany β) (e3 : σ 3 = β 3) (e4 : σ 4 = β 4) (e23 : σ 30 c = rkOf (β 78 c)) (hc : c < bN β) (hf : f < 6) (hr : r < 4) (h1 : bR β c f r = true → Φ 1 σ) (h0 : ¬ bR β c f r = true → Φ 0 σ) : CTI G (d + 1) Y_X10_isInRank [.inr (.inr 27), .inl (nI c), .inl (nI f), .inl (nI r)] σ Φ := by
  have n24 := bN_24 hβ
  have hc' := (bN_c hβ).1 hc
  obtain ⟨p1, p2, p3, p4, p5, p6, p7, p8, p9, p10, -⟩ := hβ.2.2.1.1 c hc'
  have vc : vp_in (nI c) 24 := vin (by omega)
  refine en_X10_isInRank_i27 ?_
  rw [cln (by omega), e3, e4, e23, p2, p3]
  refine ⟨vc, ?_⟩
  unfold bR inR at h1 h0
  by_cases g : β 79 c = nI f
  · rw [if_pos g]
    have g' : (β 79 c).toInt = (f : Int) := by rw [g, tin (by omega)]
    rw [if_pos g', decide_eq_true_iff] at h1 h0
    have er : rkOf (β 78 c) = nI r ↔ (r = 0 ∧ (β 78 c).toInt = 4 ∨ r = 1 ∧ (β 78 c).toInt = 2 ∨ r = 2 ∧ (β 78 c).toInt ≤ 1 ∨ r = 3 ∧ (β 78 c).toInt = 3) := by
      have e := tin (n := r) (by omega)
      unfold rkOf
      split
      · rw [fa_eq, e, ti0]; omega
      · split
        · rw [fa_eq, e, ti1]; omega
        · split
          · rw [fa_eq, e, ti3]; omega
          · rw [fa_eq, e, ti2]; omega
    refine ⟨vc, ?_⟩
    by_cases b : rkOf (β 78 c) = nI r
    · rw [if_pos b]; exact h1 (er.1 b)
    · rw [if_neg b]; exact h0 (fun q => b (er.2 q))
  · rw [if_neg g]
    have g' : ¬ (β 79 c).toInt = (f : Int) := fun q => g (nI_of_toInt (by omega) q)
    rw [if_neg g', decide_eq_true_iff] at h1 h0
    by_cases r2 : r = 2
    · subst r2
      rw [if_pos (by decide)]
      refine ⟨vc, ?_⟩
      by_cases b : ((β 80 c) >>> (nI f &&& 31)) &&& 1 = 1
      · rw [if_pos b]
        exact h1 ⟨rfl, (gbit' p9 p10 hf).1 b⟩
      · rw [if_neg b]
        exact h0 (fun q => b ((gbit' p9 p10 hf).2 q.2))
    · rw [if_neg (by rw [fa_eq, tin (by omega), ti2]; omega)]
      exact h0 (fun q => r2 q.1)
theorem c_payRank27 {G : zGT} {d : Nat} {β : zMem} {rd : Nat} {B : Int} {S : zWS} {σ : zMem} {Φ : Int32 → zMem → Prop} {f r : Nat} (hβ : Rany β) (hw : WI (bN β) B S) (hB : B ≤ 1600000) (hf : f < 6) (hr : r < 4) (hrd : rd ≤ 60) (h : XS27 β rd S σ)
    (hp : ∀ σ', XS27 β rd (wsRank (fun c => bR β c f r) (bH β) (bN β) f rd S) σ' → Φ (if wsTot (fun c => bR β c f r) S.1 (bN β) ≤ S.2.2.1 f then 1 else 0) σ') : CTI G (d + 2) Y_X10_payRank [.inr (.inr 27), .inl (nI f), .inl (nI r)] σ Φ := by
  have n24 := bN_24 hβ
  have en8 : ∀ τ : zMem, XF27 β τ → τ 1 6 = nI (bN β) := by
    intro τ ht
    rw [ht.1 1 (by decide), hβ.1.2.2.1.1]
    have := hβ.1.2.2.1.2.1
    exact nI_of_toInt (by omega) (by unfold bN; omega)
  have vf : vp_in (nI f) 6 := vin hf
  have cf : (nI f).toNatClampNeg = f := cln (by omega)
  refine en_X10_payRank_i27 ?_
  have hp0 := hw.2.1 f hf
  have hpB := hw.cash hf
  obtain ⟨T0, T1⟩ := tot_rng (ir := fun c => bR β c f r) hw n24 (Nat.le_refl _)
  have L2 : ∀ (v3 v4 : Int32), v3.toInt = wsTot (fun c => bR β c f r) S.1 (bN β) → ¬ v3.toInt = 0 → v4.toInt = S.2.2.1 f → ∀ m i : Nat, i + m = bN β → ∀ τ, XS27 β rd (wsRk (fun c => bR β c f r) (bH β) (bN β) f rd S i) τ →
      WJ G M_X10_payRank (d + 2) (RI Φ) 65 [some (.inr (.inr 27)), some (.inl (nI f)), some (.inl (nI r)), some (.inl v3), some (.inl v4), some (.inl (nI i)), none] [] τ := by
    intro v3 v4 hv3 hv30 hv4 m
    induction m with
    | zero =>
      intro i hi τ hτ
      refine rg_X10_payRank_i27_65 ?_
      have : i = bN β := by omega
      subst this
      rw [en8 τ hτ.1, if_pos (nI_le (by omega) (by omega))]
      have HH := hp τ hτ
      refine zlt (fun g => ?_) (fun g => ?_)
      · rw [if_neg (by omega)] at HH; exact HH
      · rw [if_pos (by omega)] at HH; exact HH
    | succ m ih =>
      intro i hi τ hτ
      refine rg_X10_payRank_i27_65 ?_
      rw [en8 τ hτ.1, if_neg (nI_ge (by omega) (by omega)), cln (show i < 2147483648 by omega), nI_1]
      have vi : vp_in (nI i) 24 := vin (by omega)
      have ih' := ih (i + 1) (by omega)
      rw [wsRk_s] at ih'
      obtain ⟨m1, m2, m0, m3⟩ := id hτ
      refine c_isInRank27 hβ (m1.1 3 (by decide)) (m1.1 4 (by decide)) (m0 i (by omega)).1 (by omega) hf hr (fun g => ?_) (fun g => ?_)
      · rw [if_neg (by decide)]
        have g' : (fun c => bR β c f r) i = true := g
        simp only [if_pos g] at ih'
        obtain ⟨w1, w2, w3⟩ := WI.rk (rd := rd) (hd := bH β) (ir := fun c => bR β c f r) hw hf i (by omega)
        obtain ⟨c1, c2, c3⟩ := WI.coin (rd := rd) (hd := bH β) (ir := fun c => bR β c f r) hw hf (show i < bN β by omega) g'
        have o1 := w2 i (Nat.le_refl _)
        have ei := w1.1 i (by omega)
        have oi : (τ 28 i).toInt = S.1 i := by rw [(m3.1 i (by omega)).1]; exact o1
        have rr := w1.rows n24
        have oT : S.1 i ≤ wsTot (fun c => bR β c f r) S.1 (bN β) := by
          have nn : ∀ j, j < bN β → 0 ≤ (fun c => if bR β c f r = true then S.1 c else 0) j := by
            intro j hj
            have := hw.1 j hj
            show 0 ≤ if bR β j f r = true then S.1 j else 0
            split <;> omega
          have := isum_ge (bN β) nn i (by omega)
          have e : (if bR β i f r = true then S.1 i else 0) = S.1 i := if_pos g
          have this : (if bR β i f r = true then S.1 i else 0) ≤ isum (fun c => if bR β c f r = true then S.1 c else 0) (bN β) := this
          rw [e] at this
          exact this
        have hO := (hw.1 i (by omega)).1
        have hO2 := (hw.1 i (by omega))
        refine ⟨vi, ?_, vi, ?_⟩
        · intro z
          have : v3.toInt64.toInt = 0 := by rw [z]; rfl
          rw [fb_I2L] at this
          exact hv30 this
        have pr0 : 0 ≤ S.2.2.1 f * S.1 i := Int.mul_nonneg hp0 hO
        have pr1 : S.2.2.1 f * S.1 i ≤ 1600000 * 100000 := Int.mul_le_mul (by omega) (by omega) hO (by omega)
        have e1 : (v4.toInt64 * (τ 28 i).toInt64).toInt = S.2.2.1 f * S.1 i := by
          rw [fb_mulL (by rw [fb_I2L, fb_I2L, hv4, oi]; omega) (by rw [fb_I2L, fb_I2L, hv4, oi]; omega), fb_I2L, fb_I2L, hv4, oi]
        have e2 : (v4.toInt64 * (τ 28 i).toInt64 / v3.toInt64).toInt = S.2.2.1 f * S.1 i / wsTot (fun c => bR β c f r) S.1 (bN β) := by
          rw [fb_divL (by omega) (by rw [fb_I2L]; omega), e1, fb_I2L, hv3]
        have d0 : 0 ≤ S.2.2.1 f * S.1 i / wsTot (fun c => bR β c f r) S.1 (bN β) := Int.ediv_nonneg pr0 (by omega)
        have d1 : S.2.2.1 f * S.1 i / wsTot (fun c => bR β c f r) S.1 (bN β) ≤ S.2.2.1 f := by
          refine Int.ediv_le_of_le_mul (by omega) ?_
          exact Int.mul_le_mul_of_nonneg_left oT hp0
        have e3 : ((v4.toInt64 * (τ 28 i).toInt64) / v3.toInt64).toInt32.toInt = S.2.2.1 f * S.1 i / wsTot (fun c => bR β c f r) S.1 (bN β) := by
          rw [fb_L2I (by omega) (by omega), e2]
        have eV : ∀ w : Int32, w.toInt = S.2.2.1 f * S.1 i / wsTot (fun c => bR β c f r) S.1 (bN β) → (if τ 28 i < w then τ 28 i else w).toInt = wsCoin (wsTot (fun c => bR β c f r) S.1 (bN β)) (S.2.2.1 f) (S.1 i) := by
          intro w hw'
          unfold wsCoin
          by_cases q : wsTot (fun c => bR β c f r) S.1 (bN β) ≤ S.2.2.1 f
          · have : S.1 i ≤ S.2.2.1 f * S.1 i / wsTot (fun c => bR β c f r) S.1 (bN β) := by
              refine Int.le_ediv_of_mul_le (by omega) ?_
              rw [Int.mul_comm (S.2.2.1 f)]
              exact Int.mul_le_mul_of_nonneg_left q hO
            rw [if_pos q]
            split
            · exact oi
            · rename_i q2
              rw [fa_lt] at q2
              omega
          · have : S.2.2.1 f * S.1 i / wsTot (fun c => bR β c f r) S.1 (bN β) ≤ S.1 i := by
              refine Int.ediv_le_of_le_mul (by omega) ?_
              rw [Int.mul_comm (S.1 i)]
              exact Int.mul_le_mul_of_nonneg_right (by omega) hO
            rw [if_neg q]
            split
            · rename_i q2
              rw [fa_lt] at q2
              omega
            · exact hw'
        have eV' := eV _ e3
        generalize (if τ 28 i < ((v4.toInt64 * (τ 28 i).toInt64) / v3.toInt64).toInt32 then τ 28 i else ((v4.toInt64 * (τ 28 i).toInt64) / v3.toInt64).toInt32) = V at eV' ⊢
        rw [← eV'] at ih' c1 c2 c3
        refine c_pay27 hβ hτ hf (by omega) (by omega) (by omega) ei.2.1 (by omega) (by omega) (fun g hg => ?_) hrd ih'
        have := w1.2.1 g hg
        have := w1.cash hg
        omega
      · rw [if_pos rfl]
        simp only [if_neg g] at ih'
        exact ih' τ hτ
  have L1 : ∀ m i : Nat, i + m = bN β → ∀ (v3 : Int32), v3.toInt = wsTot (fun c => bR β c f r) S.1 i →
      WJ G M_X10_payRank (d + 2) (RI Φ) 5 [some (.inr (.inr 27)), some (.inl (nI f)), some (.inl (nI r)), some (.inl v3), some (.inl (nI i)), none, none] [] σ := by
    intro m
    induction m with
    | zero =>
      intro i hi v3 hv3
      refine rg_X10_payRank_i27_5 ?_
      have : i = bN β := by omega
      subst this
      rw [en8 σ h.1, if_pos (nI_le (by omega) (by omega)), cf]
      refine zeq (fun g => ?_) (fun g => ?_)
      · rw [ti0] at g
        have HH := hp σ
        rw [wsRank_tot0 hw hf (by omega), if_pos (by omega)] at HH
        exact HH h
      · refine ⟨vf, ?_⟩
        rw [ti0] at g
        exact L2 v3 (σ 32 f) hv3 g (h.2.2.2.2.1 f hf) (bN β) 0 (by omega) σ h
    | succ m ih =>
      intro i hi v3 hv3
      refine rg_X10_payRank_i27_5 ?_
      rw [en8 σ h.1, if_neg (nI_ge (by omega) (by omega)), cln (show i < 2147483648 by omega), nI_1]
      have vi : vp_in (nI i) 24 := vin (by omega)
      obtain ⟨m1, m2, m0, m3⟩ := id h
      obtain ⟨t0, t1⟩ := tot_rng (ir := fun c => bR β c f r) (i := i) hw n24 (by omega)
      have oi := hw.1 i (by omega)
      refine c_isInRank27 hβ (m1.1 3 (by decide)) (m1.1 4 (by decide)) (m0 i (by omega)).1 (by omega) hf hr (fun g => ?_) (fun g => ?_)
      · rw [if_neg (by decide)]
        refine ⟨vi, ?_⟩
        have o := (m3.1 i (by omega)).1
        refine ih (i + 1) (by omega) _ ?_
        rw [fb_addI (by omega) (by omega), hv3, tot_s, if_pos g, o]
      · rw [if_pos rfl]
        refine ih (i + 1) (by omega) _ ?_
        rw [Int32.add_zero, hv3, tot_s, if_neg g]; omega
  exact L1 (bN β) 0 (by omega) 0 (by rfl)
