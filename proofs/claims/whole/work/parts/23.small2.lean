theorem idx_of (v n : Int32) : (v.toInt < 0 ∨ n.toInt ≤ v.toInt) ∨ ∃ c : Nat, v = nI c ∧ (c : Int) < n.toInt ∧ c < 2147483648 := by
  have := fb_rng v
  have := fb_rng n
  by_cases h : v.toInt < 0 ∨ n.toInt ≤ v.toInt
  · exact Or.inl h
  · exact Or.inr ⟨v.toInt.toNat, nI_of_toInt (by omega) (by omega), by omega, by omega⟩
theorem num_of {v : Int32} {n : Int} (h : 0 ≤ v.toInt) (h2 : v.toInt ≤ n) : ∃ c : Nat, v = nI c ∧ (c : Int) ≤ n ∧ c < 2147483648 := by
  have := fb_rng v
  exact ⟨v.toInt.toNat, nI_of_toInt (by omega) (by omega), by omega, by omega⟩
theorem nI_inj {a b : Nat} (ha : a < 2147483648) (hb : b < 2147483648) : nI a = nI b ↔ a = b := nI_eq ha hb
theorem m_isAsset {G : zGT} {d : Nat} {Φ : Int32 → zMem → Prop} {σ : zMem} {a : Int32} (hn : 0 ≤ (σ 72 2).toInt) (h1 : 0 ≤ a.toInt → a.toInt < (σ 72 2).toInt → Φ 1 σ) (h0 : a.toInt < 0 ∨ (σ 72 2).toInt ≤ a.toInt → Φ 0 σ) : CTI G (d + 1) Y_X12_isAsset [.inr (.inr 72), .inl a] σ Φ := by
  refine en_X12_isAsset ?_
  have e : (σ 72 2 - 1).toInt = (σ 72 2).toInt - 1 := by
    have := fb_rng (σ 72 2)
    rw [fb_subI (by rw [ti1]; omega) (by rw [ti1]; omega), ti1]
  refine m_isIn (fun p q => ?_) (fun p => ?_)
  · rw [e] at q; simpa using h1 p (by omega)
  · rw [e] at p; simpa using h0 (by rw [ti0] at p; omega)
theorem m_isClaim {G : zGT} {d : Nat} {Φ : Int32 → zMem → Prop} {σ : zMem} {a : Int32} (hn : 0 ≤ (σ 72 8).toInt) (h1 : 0 ≤ a.toInt → a.toInt < (σ 72 8).toInt → Φ 1 σ) (h0 : a.toInt < 0 ∨ (σ 72 8).toInt ≤ a.toInt → Φ 0 σ) : CTI G (d + 1) Y_X12_isClaim [.inr (.inr 72), .inl a] σ Φ := by
  refine en_X12_isClaim ?_
  have e : (σ 72 8 - 1).toInt = (σ 72 8).toInt - 1 := by
    have := fb_rng (σ 72 8)
    rw [fb_subI (by rw [ti1]; omega) (by rw [ti1]; omega), ti1]
  refine m_isIn (fun p q => ?_) (fun p => ?_)
  · rw [e] at q; simpa using h1 p (by omega)
  · rw [e] at p; simpa using h0 (by rw [ti0] at p; omega)
theorem m_isPast {G : zGT} {d : Nat} {Φ : Int32 → zMem → Prop} {σ : zMem} {a : Int32} (h1 : 0 ≤ a.toInt → a.toInt ≤ (σ 72 0).toInt → Φ 1 σ) (h0 : a.toInt < 0 ∨ (σ 72 0).toInt < a.toInt → Φ 0 σ) : CTI G (d + 1) Y_X12_isPast [.inr (.inr 72), .inl a] σ Φ := by
  refine en_X12_isPast ?_
  refine m_isIn (fun p q => ?_) (fun p => ?_)
  · simpa using h1 p q
  · simpa using h0 p
theorem m_isClass {G : zGT} {d : Nat} {Φ : Int32 → zMem → Prop} {σ : zMem} {a : Int32} (h1 : 0 ≤ a.toInt → a.toInt ≤ 5 → Φ 1 σ) (h0 : a.toInt < 0 ∨ 5 < a.toInt → Φ 0 σ) : CTI G (d + 1) Y_X12_isClass [.inl a] σ Φ := by
  refine en_X12_isClass ?_
  refine m_isIn (fun p q => ?_) (fun p => ?_)
  · simpa using h1 p q
  · simpa using h0 p
theorem m_isSide {G : zGT} {d : Nat} {Φ : Int32 → zMem → Prop} {σ : zMem} {a : Int32} (h1 : 0 ≤ a.toInt → a.toInt ≤ 1 → Φ 1 σ) (h0 : a.toInt < 0 ∨ 1 < a.toInt → Φ 0 σ) : CTI G (d + 1) Y_X12_isSide [.inl a] σ Φ := by
  refine en_X12_isSide ?_
  refine m_isIn (fun p q => ?_) (fun p => ?_)
  · simpa using h1 p q
  · simpa using h0 p
theorem m_isSheet {G : zGT} {d : Nat} {Φ : Int32 → zMem → Prop} {σ : zMem} {a : Int32} (h1 : 0 ≤ a.toInt → a.toInt ≤ 1 → Φ 1 σ) (h0 : a.toInt < 0 ∨ 1 < a.toInt → Φ 0 σ) : CTI G (d + 1) Y_X12_isSheet [.inl a] σ Φ := by
  refine en_X12_isSheet ?_
  refine m_isIn (fun p q => ?_) (fun p => ?_)
  · simpa using h1 p q
  · simpa using h0 p
theorem m_orNone {G : zGT} {d : Nat} {Φ : Int32 → zMem → Prop} {σ : zMem} {a : Int32} (ha : -1 ≤ a.toInt) (h : Φ (enc a) σ) : CTI G d Y_X12_orNone [.inl a] σ Φ := by
  refine en_X12_orNone ?_
  unfold enc at h
  by_cases q : a = -1
  · subst q
    rw [if_neg (by decide)]
    rwa [if_pos rfl] at h
  · rw [if_neg q] at h
    rw [if_pos]
    · exact h
    · rw [fa_eq, tim1] at q
      rw [fa_le, ti0]; omega
theorem c_changed {G : zGT} {d : Nat} {Φ : zMem → Prop} {σ : zMem} (h : Φ (zwr (zwr σ 20 11 0) 27 11 0)) : CTV G d Y_X11_changed [.inr (.inr 0)] σ Φ := by
  refine en_X11_changed ?_
  rintro _ rfl _ rfl
  exact h
theorem enc_m1 : enc (-1) = zNONE := by decide
theorem enc_nn {v : Int32} (h : 0 ≤ v.toInt) : enc v = v := by
  unfold enc
  rw [if_neg]
  intro q
  rw [q, tim1] at h
  omega
theorem Rwx_stale {n t r m : Int32} {po pg pr ph pc pw hw hv hd : Nat → Int32} {Wd : Nat × zWS} : Rwx n t 0 r m po pg pr ph pc pw hw hv hd Wd := ⟨Or.inl rfl, fun q => absurd q (by decide)⟩
theorem Rcnt.inc {a b : Int32} {n : Int} (h : Rcnt a b n) (hb : b.toInt < n) (hn : n < 1000000) : Rcnt (a + 1) (b + 1) n := by
  obtain ⟨rfl, h1, h2⟩ := h
  refine ⟨rfl, ?_⟩
  rw [fb_addI (by rw [ti1]; omega) (by rw [ti1]; omega), ti1]
  omega
