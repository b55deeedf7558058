-- numbers of places
theorem ix9 (c i : Nat) : nI c * 9 + nI i = nI (9 * c + i) := by
  rw [show (9 : Int32) = nI 9 from rfl, pk_mul, nI_add, Nat.mul_comm]
theorem ix9' (c i : Nat) : 9 * nI c + nI i = nI (9 * c + i) := by
  rw [show (9 : Int32) = nI 9 from rfl, pk_mul, nI_add]
theorem ix9a (c : Nat) : nI c * 9 = nI (9 * c) := by
  rw [show (9 : Int32) = nI 9 from rfl, pk_mul, Nat.mul_comm]
theorem ix9b (c : Nat) : 9 * nI c = nI (9 * c) := by
  rw [show (9 : Int32) = nI 9 from rfl, pk_mul]
theorem nI_m1 (n : Nat) : nI n + (-1) = nI n - 1 := by
  rw [Int32.sub_eq_add_neg]
theorem nI_zero_sub : nI 0 - 1 < 0 := by decide
theorem vin {n N : Nat} (h : n < N) (hN : N < 2 ^ 31 := by decide) : vp_in (nI n) N := vp_in_nI h hN
theorem cln {n : Nat} (h : n < 2147483648) : (nI n).toNatClampNeg = n := nI_clamp h
theorem tin {n : Nat} (h : n < 2147483648) : (nI n).toInt = (n : Int) := nI_toInt h
theorem nlt_le {a b : Int32} (h : ¬ a < b) : b ≤ a := by rw [fa_lt] at h; rw [fa_le]; omega
theorem c_asOfL6 {G : zGT} {d : Nat} {Φ : Int32 → zMem → Prop} {σ : zMem} {day o : Int32} {c : Nat} (hc : c < 24) : ∀ n : Nat, n ≤ 9 → Φ (zlo (σ 7) (σ 8) (9 * c) day o n) σ →
    WJ G M_X3_asOf d (RI Φ) 10 [some (.inr (.inr 6)), some (.inl (nI c)), some (.inl day), some (.inl o), some (.inl (nI n - 1))] [] σ := by
  intro n
  induction n with
  | zero =>
    intro _ h
    refine rg_X3_asOf_i6_10 ?_
    rw [if_pos nI_zero_sub]
    exact h
  | succ n ih =>
    intro hn h
    refine rg_X3_asOf_i6_10 ?_
    rw [nI_pred, if_neg (nI_pos (by omega)), ix9, cln (by omega)]
    refine ⟨vin (by omega), ?_⟩
    unfold zlo at h
    split
    · rename_i q
      rw [nI_m1]
      rw [if_neg (by rw [fa_le]; rw [fa_lt] at q; omega)] at h
      exact ih (by omega) h
    · rename_i q
      rw [if_pos (nlt_le q)] at h
      exact ⟨vin (by omega), h⟩
theorem c_asOf6 {G : zGT} {d : Nat} {Φ : Int32 → zMem → Prop} {σ : zMem} {day o : Int32} {c w : Nat} (hc : c < 24) (hw : σ 9 c = nI w) (hw9 : w ≤ 9) (h : Φ (zlo (σ 7) (σ 8) (9 * c) day o w) σ) : CTI G d Y_X3_asOf [.inr (.inr 6), .inl (nI c), .inl day, .inl o] σ Φ := by
  refine en_X3_asOf_i6 ⟨vin hc, ?_⟩
  rw [cln (by omega), hw]
  exact c_asOfL6 hc w hw9 h
theorem c_asOfL10 {G : zGT} {d : Nat} {Φ : Int32 → zMem → Prop} {σ : zMem} {day o : Int32} {c : Nat} (hc : c < 24) : ∀ n : Nat, n ≤ 9 → Φ (zlo (σ 11) (σ 12) (9 * c) day o n) σ →
    WJ G M_X3_asOf d (RI Φ) 10 [some (.inr (.inr 10)), some (.inl (nI c)), some (.inl day), some (.inl o), some (.inl (nI n - 1))] [] σ := by
  intro n
  induction n with
  | zero =>
    intro _ h
    refine rg_X3_asOf_i10_10 ?_
    rw [if_pos nI_zero_sub]
    exact h
  | succ n ih =>
    intro hn h
    refine rg_X3_asOf_i10_10 ?_
    rw [nI_pred, if_neg (nI_pos (by omega)), ix9, cln (by omega)]
    refine ⟨vin (by omega), ?_⟩
    unfold zlo at h
    split
    · rename_i q
      rw [nI_m1]
      rw [if_neg (by rw [fa_le]; rw [fa_lt] at q; omega)] at h
      exact ih (by omega) h
    · rename_i q
      rw [if_pos (nlt_le q)] at h
      exact ⟨vin (by omega), h⟩
theorem c_asOf10 {G : zGT} {d : Nat} {Φ : Int32 → zMem → Prop} {σ : zMem} {day o : Int32} {c w : Nat} (hc : c < 24) (hw : σ 13 c = nI w) (hw9 : w ≤ 9) (h : Φ (zlo (σ 11) (σ 12) (9 * c) day o w) σ) : CTI G d Y_X3_asOf [.inr (.inr 10), .inl (nI c), .inl day, .inl o] σ Φ := by
  refine en_X3_asOf_i10 ⟨vin hc, ?_⟩
  rw [cln (by omega), hw]
  exact c_asOfL10 hc w hw9 h
theorem c_amountOn {G : zGT} {d : Nat} {Φ : Int32 → zMem → Prop} {σ : zMem} {day : Int32} {c w : Nat} (hc : c < 24) (hw : σ 9 c = nI w) (hw9 : w ≤ 9) (h : Φ (zlo (σ 7) (σ 8) (9 * c) day 0 w) σ) : CTI G (d + 1) Y_X1_amountOn [.inr (.inr 1), .inl (nI c), .inl day] σ Φ :=
  en_X1_amountOn (c_asOf6 hc hw hw9 h)
theorem c_holderOn {G : zGT} {d : Nat} {Φ : Int32 → zMem → Prop} {σ : zMem} {day : Int32} {c w : Nat} (hc : c < 24) (hw : σ 13 c = nI w) (hw9 : w ≤ 9) (h : Φ (zlo (σ 11) (σ 12) (9 * c) day (σ 12 (9 * c)) w) σ) : CTI G (d + 1) Y_X1_holderOn [.inr (.inr 1), .inl (nI c), .inl day] σ Φ := by
  refine en_X1_holderOn (en_X3_first_i10 ?_)
  rw [ix9a, cln (by omega)]
  exact ⟨vin (by omega), c_asOf10 hc hw hw9 h⟩
-- the reference's
theorem m_amountOnL {G : zGT} {d : Nat} {Φ : Int32 → zMem → Prop} {σ : zMem} {day : Int32} {c w : Nat} (hc : c < 24) (hw : σ 84 c = nI w) (hw8 : w ≤ 8) (h : Φ (zlo (σ 86) (σ 85) (9 * c) day 0 (w + 1)) σ) : ∀ n i : Nat, i + n = w + 1 →
    WJ G M_X12_amountOn d (RI Φ) 5 [some (.inr (.inr 72)), some (.inl (nI c)), some (.inl day), some (.inl (zlo (σ 86) (σ 85) (9 * c) day 0 i)), some (.inl (nI i))] [] σ := by
  intro n
  induction n with
  | zero =>
    intro i hi
    refine rg_X12_amountOn_5 ?_
    rw [cln (by omega), hw, if_pos (nI_lt (by omega) (by omega))]
    have : i = w + 1 := by omega
    subst this
    exact ⟨vin hc, h⟩
  | succ n ih =>
    intro i hi
    refine rg_X12_amountOn_5 ?_
    rw [cln (by omega), hw, if_neg (nI_nlt (by omega) (by omega)), ix9', cln (by omega)]
    have ih' := ih (i + 1) (by omega)
    unfold zlo at ih'
    refine ⟨vin hc, vin (by omega), ?_⟩
    rw [nI_succ] at ih'
    split
    · rename_i q
      rw [if_neg (by rw [fa_le]; rw [fa_lt] at q; omega)] at ih'
      exact ih'
    · rename_i q
      rw [if_pos (nlt_le q)] at ih'
      exact ⟨vin (by omega), ih'⟩
theorem m_amountOn {G : zGT} {d : Nat} {Φ : Int32 → zMem → Prop} {σ : zMem} {day : Int32} {c w : Nat} (hc : c < 24) (hw : σ 84 c = nI w) (hw8 : w ≤ 8) (h : Φ (zlo (σ 86) (σ 85) (9 * c) day 0 (w + 1)) σ) : CTI G d Y_X12_amountOn [.inr (.inr 72), .inl (nI c), .inl day] σ Φ :=
  en_X12_amountOn (m_amountOnL hc hw hw8 h (w + 1) 0 (by omega))
theorem m_holderOnL {G : zGT} {d : Nat} {Φ : Int32 → zMem → Prop} {σ : zMem} {day : Int32} {c w : Nat} (hc : c < 24) (hw : σ 87 c = nI w) (hw8 : w ≤ 8) (h : Φ (zlo (σ 89) (σ 88) (9 * c) day (σ 88 (9 * c)) (w + 1)) σ) : ∀ n i : Nat, i + n = w → 
    WJ G M_X12_holderOn d (RI Φ) 13 [some (.inr (.inr 72)), some (.inl (nI c)), some (.inl day), some (.inl (zlo (σ 89) (σ 88) (9 * c) day (σ 88 (9 * c)) (i + 1))), some (.inl (nI (i + 1)))] [] σ := by
  intro n
  induction n with
  | zero =>
    intro i hi
    refine rg_X12_holderOn_13 ?_
    rw [cln (by omega), hw, if_pos (nI_lt (by omega) (by omega))]
    have : i = w := by omega
    subst this
    exact ⟨vin hc, h⟩
  | succ n ih =>
    intro i hi
    refine rg_X12_holderOn_13 ?_
    rw [cln (by omega), hw, if_neg (nI_nlt (by omega) (by omega)), ix9', cln (by omega)]
    have ih' := ih (i + 1) (by omega)
    rw [zlo] at ih'
    refine ⟨vin hc, vin (by omega), ?_⟩
    rw [nI_succ (i + 1)] at ih'
    split
    · rename_i q
      rw [if_neg (by rw [fa_le]; rw [fa_lt] at q; omega)] at ih'
      exact ih'
    · rename_i q
      rw [if_pos (nlt_le q)] at ih'
      exact ⟨vin (by omega), ih'⟩
theorem m_holderOn {G : zGT} {d : Nat} {Φ : Int32 → zMem → Prop} {σ : zMem} {day : Int32} {c w : Nat} (hc : c < 24) (hw : σ 87 c = nI w) (hw8 : w ≤ 8) (h : Φ (zlo (σ 89) (σ 88) (9 * c) day (σ 88 (9 * c)) (w + 1)) σ) : CTI G d Y_X12_holderOn [.inr (.inr 72), .inl (nI c), .inl day] σ Φ := by
  refine en_X12_holderOn ?_
  rw [ix9b, cln (by omega)]
  refine ⟨vin (by omega), ?_⟩
  have := m_holderOnL (G := G) (d := d) (Φ := Φ) hc hw hw8 h w 0 (by omega)
  have e : zlo (σ 89) (σ 88) (9 * c) day (σ 88 (9 * c)) 1 = σ 88 (9 * c) := by
    simp [zlo]
  rw [e] at this
  exact this
