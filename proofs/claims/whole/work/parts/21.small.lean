theorem ti0 : (0 : Int32).toInt = 0 := rfl
theorem ti1 : (1 : Int32).toInt = 1 := rfl
theorem tim1 : (-1 : Int32).toInt = -1 := rfl
theorem one_ne : ((1 : Int32) = 0) = False := by decide
theorem zero_eq : ((0 : Int32) = 0) = True := by decide
-- the class's small questions
theorem c_isWithin {G : zGT} {d : Nat} {Φ : Int32 → zMem → Prop} {σ : zMem} {a b : Int32} (h1 : 0 ≤ a.toInt → a.toInt ≤ b.toInt → Φ 1 σ) (h0 : a.toInt < 0 ∨ b.toInt < a.toInt → Φ 0 σ) : CTI G d Y_X11_isWithin [.inl a, .inl b] σ Φ := by
  refine en_X11_isWithin ?_
  simp only [fa_lt, ti0]
  split
  · exact h0 (by omega)
  · split
    · exact h0 (by omega)
    · exact h1 (by omega) (by omega)
theorem c_isSide {G : zGT} {d : Nat} {Φ : Int32 → zMem → Prop} {σ : zMem} {a : Int32} (h1 : 0 ≤ a.toInt → a.toInt ≤ 1 → Φ 1 σ) (h0 : a.toInt < 0 ∨ 1 < a.toInt → Φ 0 σ) : CTI G (d + 1) Y_X11_isSide [.inl a] σ Φ := by
  refine en_X11_isSide ?_
  refine c_isWithin (fun p q => ?_) (fun p => ?_)
  · simpa using h1 p q
  · simpa using h0 p
theorem c_isClass {G : zGT} {d : Nat} {Φ : Int32 → zMem → Prop} {σ : zMem} {a : Int32} (h1 : 0 ≤ a.toInt → a.toInt ≤ 5 → Φ 1 σ) (h0 : a.toInt < 0 ∨ 5 < a.toInt → Φ 0 σ) : CTI G (d + 1) Y_X11_isClass [.inl a] σ Φ := by
  refine en_X11_isClass ?_
  refine c_isWithin (fun p q => ?_) (fun p => ?_)
  · simpa using h1 p q
  · simpa using h0 p
theorem c_isSheet {G : zGT} {d : Nat} {Φ : Int32 → zMem → Prop} {σ : zMem} {a : Int32} (h1 : 0 ≤ a.toInt → a.toInt ≤ 1 → Φ 1 σ) (h0 : a.toInt < 0 ∨ 1 < a.toInt → Φ 0 σ) : CTI G (d + 1) Y_X11_isSheet [.inl a] σ Φ := by
  refine en_X11_isSheet ?_
  refine c_isWithin (fun p q => ?_) (fun p => ?_)
  · simpa using h1 p q
  · simpa using h0 p
theorem c_isPrice {G : zGT} {d : Nat} {Φ : Int32 → zMem → Prop} {σ : zMem} {a : Int32} (h1 : 1 ≤ a.toInt → a.toInt ≤ 200 → Φ 1 σ) (h0 : a.toInt < 1 ∨ 200 < a.toInt → Φ 0 σ) : CTI G d Y_X11_isPrice [.inl a] σ Φ := by
  refine en_X11_isPrice ?_
  simp only [fa_lt, ti1, show (200 : Int32).toInt = 200 from rfl]
  split
  · exact h0 (by omega)
  · split
    · exact h0 (by omega)
    · exact h1 (by omega) (by omega)
theorem c_isFirm {G : zGT} {d : Nat} {Φ : Int32 → zMem → Prop} {σ : zMem} {a : Int32} (h1 : 0 ≤ a.toInt → a.toInt < (σ 0 15).toInt → Φ 1 σ) (h0 : a.toInt < 0 ∨ (σ 0 15).toInt ≤ a.toInt → Φ 0 σ) : CTI G d Y_X11_isFirm [.inr (.inr 0), .inl a] σ Φ := by
  refine en_X11_isFirm ?_
  simp only [fa_lt, fa_le, ti0]
  split
  · exact h0 (by omega)
  · split
    · exact h0 (by omega)
    · exact h1 (by omega) (by omega)
theorem c_hasC {G : zGT} {d : Nat} {Φ : Int32 → zMem → Prop} {σ : zMem} {a : Int32} (h1 : 0 ≤ a.toInt → a.toInt < (σ 1 6).toInt → Φ 1 σ) (h0 : a.toInt < 0 ∨ (σ 1 6).toInt ≤ a.toInt → Φ 0 σ) : CTI G d Y_X1_has [.inr (.inr 1), .inl a] σ Φ := by
  refine en_X1_has ?_
  simp only [fa_lt, fa_le, ti0]
  split
  · exact h0 (by omega)
  · split
    · exact h0 (by omega)
    · exact h1 (by omega) (by omega)
theorem c_hasA {G : zGT} {d : Nat} {Φ : Int32 → zMem → Prop} {σ : zMem} {a : Int32} (h1 : 0 ≤ a.toInt → a.toInt < (σ 14 5).toInt → Φ 1 σ) (h0 : a.toInt < 0 ∨ (σ 14 5).toInt ≤ a.toInt → Φ 0 σ) : CTI G d Y_X0_has [.inr (.inr 14), .inl a] σ Φ := by
  refine en_X0_has ?_
  simp only [fa_lt, fa_le, ti0]
  split
  · exact h0 (by omega)
  · split
    · exact h0 (by omega)
    · exact h1 (by omega) (by omega)
theorem c_truth {G : zGT} {d : Nat} {Φ : Int32 → zMem → Prop} {σ : zMem} {a : Int32} (h1 : a ≠ 0 → Φ 1 σ) (h0 : a = 0 → Φ 0 σ) : CTI G d Y_X11_truth [.inl a] σ Φ := by
  refine en_X11_truth ?_
  split
  · exact h0 ‹_›
  · exact h1 ‹_›
-- the reference's small questions
theorem m_isIn {G : zGT} {d : Nat} {Φ : Int32 → zMem → Prop} {σ : zMem} {a b c : Int32} (h1 : b.toInt ≤ a.toInt → a.toInt ≤ c.toInt → Φ 1 σ) (h0 : a.toInt < b.toInt ∨ c.toInt < a.toInt → Φ 0 σ) : CTI G d Y_X12_isIn [.inl a, .inl b, .inl c] σ Φ := by
  refine en_X12_isIn ?_
  simp only [fa_lt]
  split
  · exact h0 (by omega)
  · split
    · exact h0 (by omega)
    · exact h1 (by omega) (by omega)
theorem m_isFirm {G : zGT} {d : Nat} {Φ : Int32 → zMem → Prop} {σ : zMem} {a : Int32} (hn : 0 ≤ (σ 72 1).toInt) (h1 : 0 ≤ a.toInt → a.toInt < (σ 72 1).toInt → Φ 1 σ) (h0 : a.toInt < 0 ∨ (σ 72 1).toInt ≤ a.toInt → Φ 0 σ) : CTI G (d + 1) Y_X12_isFirm [.inr (.inr 72), .inl a] σ Φ := by
  refine en_X12_isFirm ?_
  have e : (σ 72 1 - 1).toInt = (σ 72 1).toInt - 1 := by
    have := fb_rng (σ 72 1)
    rw [fb_subI (by rw [ti1]; omega) (by rw [ti1]; omega), ti1]
  refine m_isIn (fun p q => ?_) (fun p => ?_)
  · rw [e] at q; simpa using h1 p (by omega)
  · rw [e] at p; simpa using h0 (by rw [ti0] at p; omega)
