/-- the first n places of a row become f's -/
def zfl (σ : zMem) (k : Nat) (f : Nat → Int32) (n : Nat) : zMem := fun a b => if a = k ∧ b < n then f b else σ a b
def ffl (g f : Nat → Int32) (n : Nat) : Nat → Int32 := fun b => if b < n then f b else g b
theorem zfl_rne {σ : zMem} {k : Nat} {f : Nat → Int32} {n a : Nat} (h : a ≠ k) : zfl σ k f n a = σ a := by
  funext b; simp [zfl, h]
theorem zfl_req {σ : zMem} {k : Nat} {f : Nat → Int32} {n : Nat} : zfl σ k f n k = ffl (σ k) f n := by
  funext b; simp [zfl, ffl]
theorem zfl_0 {σ : zMem} {k : Nat} {f : Nat → Int32} : zfl σ k f 0 = σ := by
  funext a b; simp [zfl]
theorem ffl_in {g f : Nat → Int32} {n i : Nat} (h : i < n) : ffl g f n i = f i := by simp [ffl, h]
theorem ffl_out {g f : Nat → Int32} {n i : Nat} (h : n ≤ i) : ffl g f n i = g i := by simp [ffl, Nat.not_lt.mpr h]
theorem zfl_s1 {σ : zMem} {k : Nat} {f : Nat → Int32} {n : Nat} : zwr (zfl σ k f n) k n (f n) = zfl σ k f (n + 1) := by
  funext a b
  simp only [zwr, zfl]
  by_cases h1 : a = k <;> by_cases h2 : b = n <;> by_cases h3 : b < n <;> simp [h1, h2, h3] <;> omega
theorem zfl_s2 {σ : zMem} {k l : Nat} {f g : Nat → Int32} {n : Nat} (hkl : k ≠ l) : zwr (zwr (zfl (zfl σ k f n) l g n) k n (f n)) l n (g n) = zfl (zfl σ k f (n + 1)) l g (n + 1) := by
  have e : zwr (zfl (zfl σ k f n) l g n) k n (f n) = zfl (zwr (zfl σ k f n) k n (f n)) l g n := by
    funext a b
    simp only [zwr, zfl]
    by_cases h1 : a = k
    · have h4 : a ≠ l := by omega
      simp [h1, hkl]
    · simp [h1]
  rw [e, zfl_s1, zfl_s1]
theorem zfl_s3 {σ : zMem} {k l m : Nat} {f g h : Nat → Int32} {n : Nat} (h1 : k ≠ l) (h2 : k ≠ m) (h3 : l ≠ m) : zwr (zwr (zwr (zfl (zfl (zfl σ k f n) l g n) m h n) k n (f n)) l n (g n)) m n (h n) = zfl (zfl (zfl σ k f (n + 1)) l g (n + 1)) m h (n + 1) := by
  have e : ∀ (τ : zMem) (j : Nat) (v : Int32), j ≠ m → zwr (zfl τ m h n) j n v = zfl (zwr τ j n v) m h n := by
    intro τ j v hj
    funext a b
    simp only [zwr, zfl]
    by_cases q : a = j
    · simp [q, hj]
    · simp [q]
  rw [e _ k _ h2, e _ l _ h3, zfl_s2 h1, zfl_s1]
theorem c_take40 {G : zGT} {d : Nat} {Φ : zMem → Prop} {σ : zMem} {n : Nat} (hn : n ≤ 24) (h : Φ (zfl (zfl (zfl (zfl (zfl σ 41 (σ 35) n) 42 (σ 36) n) 43 (σ 37) 6) 44 (σ 38) 6) 45 (σ 39) 6)) : CTV G d Y_X5_take [.inr (.inr 40), .inr (.inr 34), .inl (nI n)] σ Φ := by
  refine en_X5_take_i40_34 ?_
  have L2 : ∀ (τ : zMem), Φ (zfl (zfl (zfl τ 43 (τ 37) 6) 44 (τ 38) 6) 45 (τ 39) 6) → ∀ m i : Nat, i + m = 6 → WJ G M_X5_take d (RV Φ) 39 [some (.inr (.inr 40)), some (.inr (.inr 34)), none, some (.inl (nI i))] [] (zfl (zfl (zfl τ 43 (τ 37) i) 44 (τ 38) i) 45 (τ 39) i) := by
    intro τ hτ m
    induction m with
    | zero =>
      intro i hi
      refine rg_X5_take_i40_34_39 ?_
      have : i = 6 := by omega
      subst this
      rw [if_pos (by decide)]
      exact hτ
    | succ m ih =>
      intro i hi
      refine rg_X5_take_i40_34_39 ?_
      have q6 : ¬ (nI 6 ≤ nI i) := nI_ge (by omega) (by omega)
      rw [if_neg (show ¬ ((6 : Int32) ≤ nI i) from q6), cln (by omega)]
      have v6 : vp_in (nI i) 6 := vin (by omega)
      refine ⟨v6, v6, ?_⟩
      rintro _ rfl
      refine ⟨v6, v6, ?_⟩
      rintro _ rfl
      refine ⟨v6, v6, ?_⟩
      rintro _ rfl
      simp only [zwr_rne, zfl_rne, ne_eq, Nat.reduceEqDiff, not_false_eq_true, nI_1]
      rw [zfl_s3 (by decide) (by decide) (by decide)]
      exact ih (i + 1) (by omega)
  have L1 : ∀ m i : Nat, i + m = n → WJ G M_X5_take d (RV Φ) 2 [some (.inr (.inr 40)), some (.inr (.inr 34)), some (.inl (nI n)), some (.inl (nI i))] [] (zfl (zfl σ 41 (σ 35) i) 42 (σ 36) i) := by
    intro m
    induction m with
    | zero =>
      intro i hi
      refine rg_X5_take_i40_34_2 ?_
      have : i = n := by omega
      subst this
      rw [if_pos (nI_le (by omega) (by omega))]
      have := L2 (zfl (zfl σ 41 (σ 35) i) 42 (σ 36) i) (by simpa only [zfl_rne, ne_eq, Nat.reduceEqDiff, not_false_eq_true] using h) 6 0 rfl
      rw [zfl_0, zfl_0, zfl_0] at this
      exact this
    | succ m ih =>
      intro i hi
      refine rg_X5_take_i40_34_2 ?_
      rw [if_neg (nI_ge (by omega) (by omega)), cln (by omega)]
      have v6 : vp_in (nI i) 24 := vin (by omega)
      refine ⟨v6, v6, ?_⟩
      rintro _ rfl
      refine ⟨v6, v6, ?_⟩
      rintro _ rfl
      simp only [zwr_rne, zfl_rne, ne_eq, Nat.reduceEqDiff, not_false_eq_true, nI_1]
      rw [zfl_s2 (by decide)]
      exact ih (i + 1) (by omega)
  have := L1 n 0 (by omega)
  rw [zfl_0, zfl_0] at this
  exact this
theorem c_take34 {G : zGT} {d : Nat} {Φ : zMem → Prop} {σ : zMem} {n : Nat} (hn : n ≤ 24) (h : Φ (zfl (zfl (zfl (zfl (zfl σ 35 (σ 41) n) 36 (σ 42) n) 37 (σ 43) 6) 38 (σ 44) 6) 39 (σ 45) 6)) : CTV G d Y_X5_take [.inr (.inr 34), .inr (.inr 40), .inl (nI n)] σ Φ := by
  refine en_X5_take_i34_40 ?_
  have L2 : ∀ (τ : zMem), Φ (zfl (zfl (zfl τ 37 (τ 43) 6) 38 (τ 44) 6) 39 (τ 45) 6) → ∀ m i : Nat, i + m = 6 → WJ G M_X5_take d (RV Φ) 39 [some (.inr (.inr 34)), some (.inr (.inr 40)), none, some (.inl (nI i))] [] (zfl (zfl (zfl τ 37 (τ 43) i) 38 (τ 44) i) 39 (τ 45) i) := by
    intro τ hτ m
    induction m with
    | zero =>
      intro i hi
      refine rg_X5_take_i34_40_39 ?_
      have : i = 6 := by omega
      subst this
      rw [if_pos (by decide)]
      exact hτ
    | succ m ih =>
      intro i hi
      refine rg_X5_take_i34_40_39 ?_
      have q6 : ¬ (nI 6 ≤ nI i) := nI_ge (by omega) (by omega)
      rw [if_neg (show ¬ ((6 : Int32) ≤ nI i) from q6), cln (by omega)]
      have v6 : vp_in (nI i) 6 := vin (by omega)
      refine ⟨v6, v6, ?_⟩
      rintro _ rfl
      refine ⟨v6, v6, ?_⟩
      rintro _ rfl
      refine ⟨v6, v6, ?_⟩
      rintro _ rfl
      simp only [zwr_rne, zfl_rne, ne_eq, Nat.reduceEqDiff, not_false_eq_true, nI_1]
      rw [zfl_s3 (by decide) (by decide) (by decide)]
      exact ih (i + 1) (by omega)
  have L1 : ∀ m i : Nat, i + m = n → WJ G M_X5_take d (RV Φ) 2 [some (.inr (.inr 34)), some (.inr (.inr 40)), some (.inl (nI n)), some (.inl (nI i))] [] (zfl (zfl σ 35 (σ 41) i) 36 (σ 42) i) := by
    intro m
    induction m with
    | zero =>
      intro i hi
      refine rg_X5_take_i34_40_2 ?_
      have : i = n := by omega
      subst this
      rw [if_pos (nI_le (by omega) (by omega))]
      have := L2 (zfl (zfl σ 35 (σ 41) i) 36 (σ 42) i) (by simpa only [zfl_rne, ne_eq, Nat.reduceEqDiff, not_false_eq_true] using h) 6 0 rfl
      rw [zfl_0, zfl_0, zfl_0] at this
      exact this
    | succ m ih =>
      intro i hi
      refine rg_X5_take_i34_40_2 ?_
      rw [if_neg (nI_ge (by omega) (by omega)), cln (by omega)]
      have v6 : vp_in (nI i) 24 := vin (by omega)
      refine ⟨v6, v6, ?_⟩
      rintro _ rfl
      refine ⟨v6, v6, ?_⟩
      rintro _ rfl
      simp only [zwr_rne, zfl_rne, ne_eq, Nat.reduceEqDiff, not_false_eq_true, nI_1]
      rw [zfl_s2 (by decide)]
      exact ih (i + 1) (by omega)
  have := L1 n 0 (by omega)
  rw [zfl_0, zfl_0] at this
  exact this
