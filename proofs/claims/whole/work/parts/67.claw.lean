-- the law as a whole
theorem law_rall {σ σ' : zMem} (h : Rall σ) (f1 : ∀ a : Nat, scr a = false → a ≠ 46 → a ≠ 55 → a ≠ 56 → a ≠ 57 → a ≠ 59 → a ≠ 60 → a ≠ 72 → a ≠ 106 → a ≠ 107 → σ' a = σ a) (f2 : ∀ j : Nat, scj j = false → j ≠ 28 → j ≠ 46 → j ≠ 47 → j ≠ 48 → j ≠ 49 → σ' 72 j = σ 72 j)
    (e557 : σ' 55 7 = σ 55 7) (x46 : σ' 46 1 = 0) (x28 : σ' 72 28 = 0) (hl : Rlw (σ' 72 46) (σ' 72 47) (σ' 72 48) (σ' 72 49) (σ' 55 6) (σ' 56 2) (σ' 59 2) (σ' 57) (σ' 60) (σ' 106) (σ' 107)) : Rall σ' := by
  have e0 : σ' 0 = σ 0 := f1 0 (by decide) (by decide) (by decide) (by decide) (by decide) (by decide) (by decide) (by decide) (by decide) (by decide)
  have e1 : σ' 1 = σ 1 := f1 1 (by decide) (by decide) (by decide) (by decide) (by decide) (by decide) (by decide) (by decide) (by decide) (by decide)
  have e2 : σ' 2 = σ 2 := f1 2 (by decide) (by decide) (by decide) (by decide) (by decide) (by decide) (by decide) (by decide) (by decide) (by decide)
  have e3 : σ' 3 = σ 3 := f1 3 (by decide) (by decide) (by decide) (by decide) (by decide) (by decide) (by decide) (by decide) (by decide) (by decide)
  have e4 : σ' 4 = σ 4 := f1 4 (by decide) (by decide) (by decide) (by decide) (by decide) (by decide) (by decide) (by decide) (by decide) (by decide)
  have e5 : σ' 5 = σ 5 := f1 5 (by decide) (by decide) (by decide) (by decide) (by decide) (by decide) (by decide) (by decide) (by decide) (by decide)
  have e7 : σ' 7 = σ 7 := f1 7 (by decide) (by decide) (by decide) (by decide) (by decide) (by decide) (by decide) (by decide) (by decide) (by decide)
  have e8 : σ' 8 = σ 8 := f1 8 (by decide) (by decide) (by decide) (by decide) (by decide) (by decide) (by decide) (by decide) (by decide) (by decide)
  have e9 : σ' 9 = σ 9 := f1 9 (by decide) (by decide) (by decide) (by decide) (by decide) (by decide) (by decide) (by decide) (by decide) (by decide)
  have e11 : σ' 11 = σ 11 := f1 11 (by decide) (by decide) (by decide) (by decide) (by decide) (by decide) (by decide) (by decide) (by decide) (by decide)
  have e12 : σ' 12 = σ 12 := f1 12 (by decide) (by decide) (by decide) (by decide) (by decide) (by decide) (by decide) (by decide) (by decide) (by decide)
  have e13 : σ' 13 = σ 13 := f1 13 (by decide) (by decide) (by decide) (by decide) (by decide) (by decide) (by decide) (by decide) (by decide) (by decide)
  have e14 : σ' 14 = σ 14 := f1 14 (by decide) (by decide) (by decide) (by decide) (by decide) (by decide) (by decide) (by decide) (by decide) (by decide)
  have e15 : σ' 15 = σ 15 := f1 15 (by decide) (by decide) (by decide) (by decide) (by decide) (by decide) (by decide) (by decide) (by decide) (by decide)
  have e16 : σ' 16 = σ 16 := f1 16 (by decide) (by decide) (by decide) (by decide) (by decide) (by decide) (by decide) (by decide) (by decide) (by decide)
  have e17 : σ' 17 = σ 17 := f1 17 (by decide) (by decide) (by decide) (by decide) (by decide) (by decide) (by decide) (by decide) (by decide) (by decide)
  have e18 : σ' 18 = σ 18 := f1 18 (by decide) (by decide) (by decide) (by decide) (by decide) (by decide) (by decide) (by decide) (by decide) (by decide)
  have e19 : σ' 19 = σ 19 := f1 19 (by decide) (by decide) (by decide) (by decide) (by decide) (by decide) (by decide) (by decide) (by decide) (by decide)
  have e20 : σ' 20 = σ 20 := f1 20 (by decide) (by decide) (by decide) (by decide) (by decide) (by decide) (by decide) (by decide) (by decide) (by decide)
  have e21 : σ' 21 = σ 21 := f1 21 (by decide) (by decide) (by decide) (by decide) (by decide) (by decide) (by decide) (by decide) (by decide) (by decide)
  have e22 : σ' 22 = σ 22 := f1 22 (by decide) (by decide) (by decide) (by decide) (by decide) (by decide) (by decide) (by decide) (by decide) (by decide)
  have e23 : σ' 23 = σ 23 := f1 23 (by decide) (by decide) (by decide) (by decide) (by decide) (by decide) (by decide) (by decide) (by decide) (by decide)
  have e24 : σ' 24 = σ 24 := f1 24 (by decide) (by decide) (by decide) (by decide) (by decide) (by decide) (by decide) (by decide) (by decide) (by decide)
  have e25 : σ' 25 = σ 25 := f1 25 (by decide) (by decide) (by decide) (by decide) (by decide) (by decide) (by decide) (by decide) (by decide) (by decide)
  have e26 : σ' 26 = σ 26 := f1 26 (by decide) (by decide) (by decide) (by decide) (by decide) (by decide) (by decide) (by decide) (by decide) (by decide)
  have e27 : σ' 27 = σ 27 := f1 27 (by decide) (by decide) (by decide) (by decide) (by decide) (by decide) (by decide) (by decide) (by decide) (by decide)
  have e28 : σ' 28 = σ 28 := f1 28 (by decide) (by decide) (by decide) (by decide) (by decide) (by decide) (by decide) (by decide) (by decide) (by decide)
  have e29 : σ' 29 = σ 29 := f1 29 (by decide) (by decide) (by decide) (by decide) (by decide) (by decide) (by decide) (by decide) (by decide) (by decide)
  have e30 : σ' 30 = σ 30 := f1 30 (by decide) (by decide) (by decide) (by decide) (by decide) (by decide) (by decide) (by decide) (by decide) (by decide)
  have e31 : σ' 31 = σ 31 := f1 31 (by decide) (by decide) (by decide) (by decide) (by decide) (by decide) (by decide) (by decide) (by decide) (by decide)
  have e32 : σ' 32 = σ 32 := f1 32 (by decide) (by decide) (by decide) (by decide) (by decide) (by decide) (by decide) (by decide) (by decide) (by decide)
  have e33 : σ' 33 = σ 33 := f1 33 (by decide) (by decide) (by decide) (by decide) (by decide) (by decide) (by decide) (by decide) (by decide) (by decide)
  have e35 : σ' 35 = σ 35 := f1 35 (by decide) (by decide) (by decide) (by decide) (by decide) (by decide) (by decide) (by decide) (by decide) (by decide)
  have e36 : σ' 36 = σ 36 := f1 36 (by decide) (by decide) (by decide) (by decide) (by decide) (by decide) (by decide) (by decide) (by decide) (by decide)
  have e37 : σ' 37 = σ 37 := f1 37 (by decide) (by decide) (by decide) (by decide) (by decide) (by decide) (by decide) (by decide) (by decide) (by decide)
  have e38 : σ' 38 = σ 38 := f1 38 (by decide) (by decide) (by decide) (by decide) (by decide) (by decide) (by decide) (by decide) (by decide) (by decide)
  have e39 : σ' 39 = σ 39 := f1 39 (by decide) (by decide) (by decide) (by decide) (by decide) (by decide) (by decide) (by decide) (by decide) (by decide)
  have e41 : σ' 41 = σ 41 := f1 41 (by decide) (by decide) (by decide) (by decide) (by decide) (by decide) (by decide) (by decide) (by decide) (by decide)
  have e42 : σ' 42 = σ 42 := f1 42 (by decide) (by decide) (by decide) (by decide) (by decide) (by decide) (by decide) (by decide) (by decide) (by decide)
  have e43 : σ' 43 = σ 43 := f1 43 (by decide) (by decide) (by decide) (by decide) (by decide) (by decide) (by decide) (by decide) (by decide) (by decide)
  have e44 : σ' 44 = σ 44 := f1 44 (by decide) (by decide) (by decide) (by decide) (by decide) (by decide) (by decide) (by decide) (by decide) (by decide)
  have e45 : σ' 45 = σ 45 := f1 45 (by decide) (by decide) (by decide) (by decide) (by decide) (by decide) (by decide) (by decide) (by decide) (by decide)
  have e47 : σ' 47 = σ 47 := f1 47 (by decide) (by decide) (by decide) (by decide) (by decide) (by decide) (by decide) (by decide) (by decide) (by decide)
  have e69 : σ' 69 = σ 69 := f1 69 (by decide) (by decide) (by decide) (by decide) (by decide) (by decide) (by decide) (by decide) (by decide) (by decide)
  have e70 : σ' 70 = σ 70 := f1 70 (by decide) (by decide) (by decide) (by decide) (by decide) (by decide) (by decide) (by decide) (by decide) (by decide)
  have e71 : σ' 71 = σ 71 := f1 71 (by decide) (by decide) (by decide) (by decide) (by decide) (by decide) (by decide) (by decide) (by decide) (by decide)
  have e73 : σ' 73 = σ 73 := f1 73 (by decide) (by decide) (by decide) (by decide) (by decide) (by decide) (by decide) (by decide) (by decide) (by decide)
  have e74 : σ' 74 = σ 74 := f1 74 (by decide) (by decide) (by decide) (by decide) (by decide) (by decide) (by decide) (by decide) (by decide) (by decide)
  have e75 : σ' 75 = σ 75 := f1 75 (by decide) (by decide) (by decide) (by decide) (by decide) (by decide) (by decide) (by decide) (by decide) (by decide)
  have e76 : σ' 76 = σ 76 := f1 76 (by decide) (by decide) (by decide) (by decide) (by decide) (by decide) (by decide) (by decide) (by decide) (by decide)
  have e77 : σ' 77 = σ 77 := f1 77 (by decide) (by decide) (by decide) (by decide) (by decide) (by decide) (by decide) (by decide) (by decide) (by decide)
  have e78 : σ' 78 = σ 78 := f1 78 (by decide) (by decide) (by decide) (by decide) (by decide) (by decide) (by decide) (by decide) (by decide) (by decide)
  have e79 : σ' 79 = σ 79 := f1 79 (by decide) (by decide) (by decide) (by decide) (by decide) (by decide) (by decide) (by decide) (by decide) (by decide)
  have e80 : σ' 80 = σ 80 := f1 80 (by decide) (by decide) (by decide) (by decide) (by decide) (by decide) (by decide) (by decide) (by decide) (by decide)
  have e81 : σ' 81 = σ 81 := f1 81 (by decide) (by decide) (by decide) (by decide) (by decide) (by decide) (by decide) (by decide) (by decide) (by decide)
  have e82 : σ' 82 = σ 82 := f1 82 (by decide) (by decide) (by decide) (by decide) (by decide) (by decide) (by decide) (by decide) (by decide) (by decide)
  have e83 : σ' 83 = σ 83 := f1 83 (by decide) (by decide) (by decide) (by decide) (by decide) (by decide) (by decide) (by decide) (by decide) (by decide)
  have e84 : σ' 84 = σ 84 := f1 84 (by decide) (by decide) (by decide) (by decide) (by decide) (by decide) (by decide) (by decide) (by decide) (by decide)
  have e85 : σ' 85 = σ 85 := f1 85 (by decide) (by decide) (by decide) (by decide) (by decide) (by decide) (by decide) (by decide) (by decide) (by decide)
  have e86 : σ' 86 = σ 86 := f1 86 (by decide) (by decide) (by decide) (by decide) (by decide) (by decide) (by decide) (by decide) (by decide) (by decide)
  have e87 : σ' 87 = σ 87 := f1 87 (by decide) (by decide) (by decide) (by decide) (by decide) (by decide) (by decide) (by decide) (by decide) (by decide)
  have e88 : σ' 88 = σ 88 := f1 88 (by decide) (by decide) (by decide) (by decide) (by decide) (by decide) (by decide) (by decide) (by decide) (by decide)
  have e89 : σ' 89 = σ 89 := f1 89 (by decide) (by decide) (by decide) (by decide) (by decide) (by decide) (by decide) (by decide) (by decide) (by decide)
  have e90 : σ' 90 = σ 90 := f1 90 (by decide) (by decide) (by decide) (by decide) (by decide) (by decide) (by decide) (by decide) (by decide) (by decide)
  have e91 : σ' 91 = σ 91 := f1 91 (by decide) (by decide) (by decide) (by decide) (by decide) (by decide) (by decide) (by decide) (by decide) (by decide)
  have e92 : σ' 92 = σ 92 := f1 92 (by decide) (by decide) (by decide) (by decide) (by decide) (by decide) (by decide) (by decide) (by decide) (by decide)
  have e93 : σ' 93 = σ 93 := f1 93 (by decide) (by decide) (by decide) (by decide) (by decide) (by decide) (by decide) (by decide) (by decide) (by decide)
  have e94 : σ' 94 = σ 94 := f1 94 (by decide) (by decide) (by decide) (by decide) (by decide) (by decide) (by decide) (by decide) (by decide) (by decide)
  have e95 : σ' 95 = σ 95 := f1 95 (by decide) (by decide) (by decide) (by decide) (by decide) (by decide) (by decide) (by decide) (by decide) (by decide)
  have e96 : σ' 96 = σ 96 := f1 96 (by decide) (by decide) (by decide) (by decide) (by decide) (by decide) (by decide) (by decide) (by decide) (by decide)
  have e97 : σ' 97 = σ 97 := f1 97 (by decide) (by decide) (by decide) (by decide) (by decide) (by decide) (by decide) (by decide) (by decide) (by decide)
  have g0 : σ' 72 0 = σ 72 0 := f2 0 (by decide) (by decide) (by decide) (by decide) (by decide) (by decide)
  have g1 : σ' 72 1 = σ 72 1 := f2 1 (by decide) (by decide) (by decide) (by decide) (by decide) (by decide)
  have g2 : σ' 72 2 = σ 72 2 := f2 2 (by decide) (by decide) (by decide) (by decide) (by decide) (by decide)
  have g8 : σ' 72 8 = σ 72 8 := f2 8 (by decide) (by decide) (by decide) (by decide) (by decide) (by decide)
  have g22 : σ' 72 22 = σ 72 22 := f2 22 (by decide) (by decide) (by decide) (by decide) (by decide) (by decide)
  have g23 : σ' 72 23 = σ 72 23 := f2 23 (by decide) (by decide) (by decide) (by decide) (by decide) (by decide)
  have g24 : σ' 72 24 = σ 72 24 := f2 24 (by decide) (by decide) (by decide) (by decide) (by decide) (by decide)
  have g25 : σ' 72 25 = σ 72 25 := f2 25 (by decide) (by decide) (by decide) (by decide) (by decide) (by decide)
  have g29 : σ' 72 29 = σ 72 29 := f2 29 (by decide) (by decide) (by decide) (by decide) (by decide) (by decide)
  have g30 : σ' 72 30 = σ 72 30 := f2 30 (by decide) (by decide) (by decide) (by decide) (by decide) (by decide)
  obtain ⟨⟨k1, k2, k3, k4, k5, k6, k7, k8, k9⟩, kas, kcl, kda, kdh, kpl, kkp, ksh, kwt, ktp, klw, ksd, kw0, kw1⟩ := h
  unfold Rall
  simp only [e0, e1, e2, e3, e4, e5, e7, e8, e9, e11, e12, e13, e14, e15, e16, e17, e18, e19, e20, e21, e22, e23, e24, e25, e26, e27, e28, e29, e30, e31, e32, e33, e35, e36, e37, e38, e39, e41, e42, e43, e44, e45, e47, e69, e70, e71, e73, e74, e75, e76, e77, e78, e79, e80, e81, e82, e83, e84, e85, e86, e87, e88, e89, e90, e91, e92, e93, e94, e95, e96, e97, g0, g1, g2, g8, g22, g23, g24, g25, g29, g30, e557, x28, x46]
  exact ⟨⟨k1, k2, k3, k4, k5, k6, k7, k8, ⟨rfl, by decide, by decide⟩⟩, kas, kcl, kda, kdh, kpl, kkp, ksh, kwt, fun i hi => absurd hi (by rw [ti0]; omega), hl, ksd, kw0, kw1⟩
noncomputable def wrd (t : Nat → Int32) (n : Nat) (L : Nat → Int32) : Nat → Nat → Bool × Nat
  | 0, p => @ite _ (isL (gtx t n p)) (Classical.propDecidable _) (false, p) (true, p)
  | m + 1, p => if gtx t n p = L (3 - m) then wrd t n L m (p + 1) else (false, p)
theorem wrd_s {t : Nat → Int32} {n : Nat} {L : Nat → Int32} {m p : Nat} : wrd t n L (m + 1) p = if gtx t n p = L (3 - m) then wrd t n L m (p + 1) else (false, p) := rfl
theorem wrd_0y {t : Nat → Int32} {n : Nat} {L : Nat → Int32} {p : Nat} (h : isL (gtx t n p)) : wrd t n L 0 p = (false, p) := by
  show @ite _ _ (Classical.propDecidable _) _ _ = _
  rw [if_pos h]
theorem wrd_0n {t : Nat → Int32} {n : Nat} {L : Nat → Int32} {p : Nat} (h : ¬ isL (gtx t n p)) : wrd t n L 0 p = (true, p) := by
  show @ite _ _ (Classical.propDecidable _) _ _ = _
  rw [if_neg h]
theorem wrd_le {t : Nat → Int32} {n : Nat} {L : Nat → Int32} (hL : ∀ i, i < 4 → ¬ L i = -1) : ∀ m p : Nat, m ≤ 4 → p ≤ n → p ≤ (wrd t n L m p).2 ∧ (wrd t n L m p).2 ≤ n
  | 0, p, _, hp => by
    by_cases g : isL (gtx t n p)
    · rw [wrd_0y g]; exact ⟨Nat.le_refl _, hp⟩
    · rw [wrd_0n g]; exact ⟨Nat.le_refl _, hp⟩
  | m + 1, p, hm, hp => by
    rw [wrd_s]
    by_cases g : gtx t n p = L (3 - m)
    · rw [if_pos g]
      have lt : p < n := gtx_in (by rw [g]; exact hL _ (by omega))
      obtain ⟨a, b⟩ := wrd_le hL (t := t) (n := n) m (p + 1) (by omega) (by omega)
      exact ⟨by omega, b⟩
    · rw [if_neg g]; exact ⟨Nat.le_refl _, hp⟩
noncomputable def evR (t : Nat → Int32) (n : Nat) (N : Int32 → Prop) (S : zPS) : Bool × zPS := @dite _ (∃ R, Ev t n N 0 0 0 S R) (Classical.propDecidable _) (fun h => Classical.choose h) (fun _ => (false, S))
theorem evR_eq {t : Nat → Int32} {n : Nat} {N : Int32 → Prop} {S : zPS} {R : Bool × zPS} (h : Ev t n N 0 0 0 S R) : evR t n N S = R := by
  unfold evR
  rw [dif_pos ⟨R, h⟩]
  exact (Classical.choose_spec (⟨R, h⟩ : ∃ R, Ev t n N 0 0 0 S R)).det h
def bhd (t : Nat → Int32) (p : Nat) : Prop := 0 < p ∧ isL (t (p - 1))
noncomputable def lw1 (t : Nat → Int32) (n : Nat) : Bool × Nat := wrd t n lt1002 4 (BL t n 0)
noncomputable def lwS1 (t : Nat → Int32) (n : Nat) (s v : Nat → Int32) : zPS := ((lw1 t n).2, 1, 0, s, v)
noncomputable def lwR1 (t : Nat → Int32) (n : Nat) (s v : Nat → Int32) : Bool × zPS := evR t n isPn (lwS1 t n s v)
noncomputable def lwP2 (t : Nat → Int32) (n : Nat) (s v : Nat → Int32) : Nat := BL t n (lwR1 t n s v).2.1
noncomputable def lw3 (t : Nat → Int32) (n : Nat) (s v : Nat → Int32) : Bool × Nat := wrd t n lt1003 4 (lwP2 t n s v)
noncomputable def lwS3 (t : Nat → Int32) (n : Nat) (s v : Nat → Int32) : zPS := ((lw3 t n s v).2, (lwR1 t n s v).2.2.1 + 1, (lwR1 t n s v).2.2.2)
noncomputable def lwR2 (t : Nat → Int32) (n : Nat) (s v : Nat → Int32) : Bool × zPS := evR t n isBn (lwS3 t n s v)
def lawOK (t : Nat → Int32) (n : Nat) (s v : Nat → Int32) : Prop := (lw1 t n).1 = true ∧ (lwR1 t n s v).1 = true ∧ ¬ bhd t (lwP2 t n s v) ∧ (lw3 t n s v).1 = true ∧ (lwR2 t n s v).1 = true ∧ gtx t n (BL t n (lwR2 t n s v).2.1) = -1
noncomputable def lawPl (t : Nat → Int32) (n : Nat) (s v : Nat → Int32) : Nat := if (lw1 t n).1 = true then (if (lwR1 t n s v).1 = true then (@ite _ (bhd t (lwP2 t n s v)) (Classical.propDecidable _) (lwP2 t n s v) (if (lw3 t n s v).1 = true then (if (lwR2 t n s v).1 = true then BL t n (lwR2 t n s v).2.1 else (lwR2 t n s v).2.1) else (lw3 t n s v).2)) else (lwR1 t n s v).2.1) else (lw1 t n).2
theorem lt1002_n : ∀ i, i < 4 → ¬ lt1002 i = -1 := by decide
theorem lt1003_n : ∀ i, i < 4 → ¬ lt1003 i = -1 := by decide
-- the class
def WF (σ σ' : zMem) : Prop := (∀ a, a ≠ 46 → a ≠ 48 → σ' a = σ a) ∧ (∀ j, j ≠ 2 → σ' 46 j = σ 46 j) ∧ ∀ j, j ≠ 5 → σ' 48 j = σ 48 j
theorem WF.refl (σ : zMem) : WF σ σ := ⟨fun _ _ _ => rfl, fun _ _ => rfl, fun _ _ => rfl⟩
theorem WF.wr {ρ σ : zMem} (h : WF ρ σ) {k j : Nat} {v : Int32} (hk : (k = 46 ∧ j = 2) ∨ (k = 48 ∧ j = 5)) : WF ρ (zwr σ k j v) := by
  obtain ⟨h1, h2, h3⟩ := h
  refine ⟨fun a a1 a2 => ?_, fun i hi => ?_, fun i hi => ?_⟩
  · rw [zwr_rne (by omega)]; exact h1 a a1 a2
  · by_cases e : k = 46
    · subst e
      rw [zwr_req, upd_ne (by omega)]; exact h2 i hi
    · rw [zwr_rne (by omega)]; exact h2 i hi
  · by_cases e : k = 48
    · subst e
      rw [zwr_req, upd_ne (by omega)]; exact h3 i hi
    · rw [zwr_rne (by omega)]; exact h3 i hi
def LF (ρ σ : zMem) : Prop := (∀ a, a ≠ 46 → a ≠ 48 → a ≠ 49 → a ≠ 50 → a ≠ 52 → a ≠ 53 → σ a = ρ a) ∧ ∀ j, j ≠ 2 → σ 46 j = ρ 46 j
theorem LF.wf {ρ σ σ' : zMem} (h : LF ρ σ) (f : WF σ σ') : LF ρ σ' := ⟨fun a a1 a2 a3 a4 a5 a6 => (f.1 a a1 a2).trans (h.1 a a1 a2 a3 a4 a5 a6), fun j hj => (f.2.1 j hj).trans (h.2 j hj)⟩
theorem LF.c49 {ρ σ σ' : zMem} (h : LF ρ σ) (f : CF49 σ σ') : LF ρ σ' := ⟨fun a a1 a2 a3 a4 a5 a6 => (f.1 a a1 a2 a3 a4).trans (h.1 a a1 a2 a3 a4 a5 a6), fun j hj => (f.2.1 j hj).trans (h.2 j hj)⟩
theorem LF.c52 {ρ σ σ' : zMem} (h : LF ρ σ) (f : CF52 σ σ') : LF ρ σ' := ⟨fun a a1 a2 a3 a4 a5 a6 => (f.1 a a1 a2 a5 a6).trans (h.1 a a1 a2 a3 a4 a5 a6), fun j hj => (f.2.1 j hj).trans (h.2 j hj)⟩
theorem LF.wr {ρ σ : zMem} (h : LF ρ σ) {k j : Nat} {v : Int32} (hk : (k = 46 ∧ j = 2) ∨ k = 48 ∨ k = 49 ∨ k = 50 ∨ k = 52 ∨ k = 53) : LF ρ (zwr σ k j v) := by
  obtain ⟨h1, h2⟩ := h
  refine ⟨fun a a1 a2 a3 a4 a5 a6 => ?_, fun i hi => ?_⟩
  · rw [zwr_rne (by omega)]; exact h1 a a1 a2 a3 a4 a5 a6
  · by_cases e : k = 46
    · subst e
      rw [zwr_req, upd_ne (by omega)]; exact h2 i hi
    · rw [zwr_rne (by omega)]; exact h2 i hi
theorem LF.ct {t : Nat → Int32} {n : Nat} {ρ σ : zMem} (f : LF ρ σ) (h : CT t n ρ) : CT t n σ := h.mv (f.2 1 (by decide)) (f.1 47 (by decide) (by decide) (by decide) (by decide) (by decide) (by decide))
theorem c_word1002 {G : zGT} {d : Nat} {Φ : Int32 → zMem → Prop} {t : Nat → Int32} {n p : Nat} {σ : zMem} (hc : CT t n σ) (h2 : σ 46 2 = nI p) (hp : p ≤ n)
    (h1 : (wrd t n lt1002 4 p).1 = true → ∀ σ', WF σ σ' → σ' 46 2 = nI (wrd t n lt1002 4 p).2 → σ' 48 5 = σ 48 5 + 1 → Φ 1 σ') (h0 : ¬ (wrd t n lt1002 4 p).1 = true → ∀ σ', WF σ σ' → σ' 46 2 = nI (wrd t n lt1002 4 p).2 → Φ 0 σ') : CTI G (d + 4) Y_X6_readsWord [.inr (.inr 48), .inr (.inr 1002)] σ Φ := by
  have n96 := hc.1
  refine en_X6_readsWord_i48_1002 ?_
  have L : ∀ m i p' : Nat, i + m = 4 → wrd t n lt1002 4 p = wrd t n lt1002 m p' → p' ≤ n → ∀ τ : zMem, WF σ τ → τ 48 5 = σ 48 5 → τ 46 2 = nI p' → WJ G M_X6_readsWord (d + 4) (RI Φ) 2 [some (.inr (.inr 48)), some (.inr (.inr 1002)), some (.inl (nI i))] [] τ := by
    intro m
    induction m with
    | zero =>
      intro i p' hi hw hp' τ f t5 t2
      refine rg_X6_readsWord_i48_1002_2 ?_
      have : i = 4 := by omega
      subst this
      have ct : CT t n τ := hc.mv (f.2.1 1 (by decide)) (f.1 47 (by decide) (by decide))
      refine c_len1002 ?_
      rw [if_pos (by decide)]
      rintro _ rfl
      have f' : WF σ (zwr τ 48 5 ((τ 48 5) + 1)) := f.wr (Or.inr ⟨rfl, rfl⟩)
      refine c_next (p := p') (ct.mv (by simp only [zwr_rne, zwr_req, upd_ne, upd_eq, ne_eq, Nat.reduceEqDiff, not_false_eq_true]) (by simp only [zwr_rne, zwr_req, upd_ne, upd_eq, ne_eq, Nat.reduceEqDiff, not_false_eq_true])) (by simp only [zwr_rne, zwr_req, upd_ne, upd_eq, ne_eq, Nat.reduceEqDiff, not_false_eq_true]; exact t2) hp' ?_
      refine c_isLetter (fun q => ?_) (fun q => ?_)
      · rw [if_neg (by decide)]
        rw [wrd_0y q] at hw
        rw [hw] at h0
        exact h0 (show ¬ ((false : Bool) = true) by decide) _ f' (by simp only [zwr_rne, zwr_req, upd_ne, upd_eq, ne_eq, Nat.reduceEqDiff, not_false_eq_true]; exact t2)
      · rw [if_pos rfl]
        rw [wrd_0n q] at hw
        rw [hw] at h1
        exact h1 rfl _ f' (by simp only [zwr_rne, zwr_req, upd_ne, upd_eq, ne_eq, Nat.reduceEqDiff, not_false_eq_true]; exact t2) (by rw [zwr_same, t5])
    | succ m ih =>
      intro i p' hi hw hp' τ f t5 t2
      refine rg_X6_readsWord_i48_1002_2 ?_
      have ct : CT t n τ := hc.mv (f.2.1 1 (by decide)) (f.1 47 (by decide) (by decide))
      refine c_len1002 ?_
      rw [if_neg (nI_ge (by omega) (by omega))]
      refine c_next ct t2 hp' ?_
      refine c_chr1002 (by omega) ?_
      have hw : wrd t n lt1002 4 p = if gtx t n p' = lt1002 (3 - m) then wrd t n lt1002 m (p' + 1) else (false, p') := hw
      rw [show 3 - m = i by omega] at hw
      by_cases g : gtx t n p' = lt1002 i
      · rw [if_pos g]
        rintro _ rfl
        rw [if_pos g] at hw
        have lt : p' < n := gtx_in (by rw [g]; exact lt1002_n i (by omega))
        rw [nI_1]
        refine ih (i + 1) (p' + 1) (by omega) hw (by omega) _ (f.wr (Or.inl ⟨rfl, rfl⟩)) (by simp only [zwr_rne, zwr_req, upd_ne, upd_eq, ne_eq, Nat.reduceEqDiff, not_false_eq_true]; exact t5) (by rw [zwr_same, t2, nI_1])
      · rw [if_neg g]
        rw [if_neg g] at hw
        rw [hw] at h0
        exact h0 (show ¬ ((false : Bool) = true) by decide) τ f t2
  exact L 4 0 p rfl rfl hp σ (WF.refl σ) rfl h2
theorem c_word1003 {G : zGT} {d : Nat} {Φ : Int32 → zMem → Prop} {t : Nat → Int32} {n p : Nat} {σ : zMem} (hc : CT t n σ) (h2 : σ 46 2 = nI p) (hp : p ≤ n)
    (h1 : (wrd t n lt1003 4 p).1 = true → ∀ σ', WF σ σ' → σ' 46 2 = nI (wrd t n lt1003 4 p).2 → σ' 48 5 = σ 48 5 + 1 → Φ 1 σ') (h0 : ¬ (wrd t n lt1003 4 p).1 = true → ∀ σ', WF σ σ' → σ' 46 2 = nI (wrd t n lt1003 4 p).2 → Φ 0 σ') : CTI G (d + 4) Y_X6_readsWord [.inr (.inr 48), .inr (.inr 1003)] σ Φ := by
  have n96 := hc.1
  refine en_X6_readsWord_i48_1003 ?_
  have L : ∀ m i p' : Nat, i + m = 4 → wrd t n lt1003 4 p = wrd t n lt1003 m p' → p' ≤ n → ∀ τ : zMem, WF σ τ → τ 48 5 = σ 48 5 → τ 46 2 = nI p' → WJ G M_X6_readsWord (d + 4) (RI Φ) 2 [some (.inr (.inr 48)), some (.inr (.inr 1003)), some (.inl (nI i))] [] τ := by
    intro m
    induction m with
    | zero =>
      intro i p' hi hw hp' τ f t5 t2
      refine rg_X6_readsWord_i48_1003_2 ?_
      have : i = 4 := by omega
      subst this
      have ct : CT t n τ := hc.mv (f.2.1 1 (by decide)) (f.1 47 (by decide) (by decide))
      refine c_len1003 ?_
      rw [if_pos (by decide)]
      rintro _ rfl
      have f' : WF σ (zwr τ 48 5 ((τ 48 5) + 1)) := f.wr (Or.inr ⟨rfl, rfl⟩)
      refine c_next (p := p') (ct.mv (by simp only [zwr_rne, zwr_req, upd_ne, upd_eq, ne_eq, Nat.reduceEqDiff, not_false_eq_true]) (by simp only [zwr_rne, zwr_req, upd_ne, upd_eq, ne_eq, Nat.reduceEqDiff, not_false_eq_true])) (by simp only [zwr_rne, zwr_req, upd_ne, upd_eq, ne_eq, Nat.reduceEqDiff, not_false_eq_true]; exact t2) hp' ?_
      refine c_isLetter (fun q => ?_) (fun q => ?_)
      · rw [if_neg (by decide)]
        rw [wrd_0y q] at hw
        rw [hw] at h0
        exact h0 (show ¬ ((false : Bool) = true) by decide) _ f' (by simp only [zwr_rne, zwr_req, upd_ne, upd_eq, ne_eq, Nat.reduceEqDiff, not_false_eq_true]; exact t2)
      · rw [if_pos rfl]
        rw [wrd_0n q] at hw
        rw [hw] at h1
        exact h1 rfl _ f' (by simp only [zwr_rne, zwr_req, upd_ne, upd_eq, ne_eq, Nat.reduceEqDiff, not_false_eq_true]; exact t2) (by rw [zwr_same, t5])
    | succ m ih =>
      intro i p' hi hw hp' τ f t5 t2
      refine rg_X6_readsWord_i48_1003_2 ?_
      have ct : CT t n τ := hc.mv (f.2.1 1 (by decide)) (f.1 47 (by decide) (by decide))
      refine c_len1003 ?_
      rw [if_neg (nI_ge (by omega) (by omega))]
      refine c_next ct t2 hp' ?_
      refine c_chr1003 (by omega) ?_
      have hw : wrd t n lt1003 4 p = if gtx t n p' = lt1003 (3 - m) then wrd t n lt1003 m (p' + 1) else (false, p') := hw
      rw [show 3 - m = i by omega] at hw
      by_cases g : gtx t n p' = lt1003 i
      · rw [if_pos g]
        rintro _ rfl
        rw [if_pos g] at hw
        have lt : p' < n := gtx_in (by rw [g]; exact lt1003_n i (by omega))
        rw [nI_1]
        refine ih (i + 1) (p' + 1) (by omega) hw (by omega) _ (f.wr (Or.inl ⟨rfl, rfl⟩)) (by simp only [zwr_rne, zwr_req, upd_ne, upd_eq, ne_eq, Nat.reduceEqDiff, not_false_eq_true]; exact t5) (by rw [zwr_same, t2, nI_1])
      · rw [if_neg g]
        rw [if_neg g] at hw
        rw [hw] at h0
        exact h0 (show ¬ ((false : Bool) = true) by decide) τ f t2
  exact L 4 0 p rfl rfl hp σ (WF.refl σ) rfl h2
theorem c_behind {G : zGT} {d : Nat} {Φ : Int32 → zMem → Prop} {t : Nat → Int32} {n p : Nat} {σ : zMem} (hc : CT t n σ) (h2 : σ 46 2 = nI p) (hp : p ≤ n) (h1 : bhd t p → Φ 1 σ) (h0 : ¬ bhd t p → Φ 0 σ) : CTI G (d + 2) Y_X9_isBehindLetterOrDigit [.inr (.inr 46)] σ Φ := by
  obtain ⟨c1, c2, c3⟩ := hc
  refine en_X9_isBehindLetterOrDigit ?_
  rw [h2, c2]
  by_cases z : p = 0
  · rw [if_pos (by rw [z]; decide)]
    exact h0 (fun q => by have := q.1; omega)
  rw [if_neg (nI_nle (by omega) (by omega)), if_neg (nI_nlt hp (by omega)), nI_p2 (by omega), cln (by omega), c3 (p - 1) (by omega)]
  refine ⟨vin (by omega), ?_⟩
  refine c_isLetter (fun q => ?_) (fun q => ?_)
  · rw [if_neg (by decide)]; exact h1 ⟨by omega, q⟩
  · rw [if_pos rfl]; exact h0 (fun w => q w.2)
theorem pn1 : ¬ isPn (-1) := by unfold isPn; decide
theorem bn1 : ¬ isBn (-1) := by unfold isBn; decide
theorem c_readsLaw {G : zGT} {d : Nat} {Φ : Int32 → zMem → Prop} {t : Nat → Int32} {n : Nat} {s v : Nat → Int32} {σ : zMem} (hc : CT t n σ)
    (h1 : lawOK t n s v → ∀ σ', LF σ σ' → σ' 46 2 = nI (lawPl t n s v) → σ' 48 5 = nI (lwR2 t n s v).2.2.1 → σ' 49 2 = nI (lwR1 t n s v).2.2.2.1 → (∀ i, i < (lwR1 t n s v).2.2.2.1 → σ' 50 i = cod ((lwR1 t n s v).2.2.2.2.1 i) ((lwR1 t n s v).2.2.2.2.2 i)) →
      σ' 52 2 = nI ((lwR2 t n s v).2.2.2.1 - (lwR1 t n s v).2.2.2.1) → (∀ i, i < (lwR2 t n s v).2.2.2.1 - (lwR1 t n s v).2.2.2.1 → σ' 53 i = cod ((lwR2 t n s v).2.2.2.2.1 ((lwR1 t n s v).2.2.2.1 + i)) ((lwR2 t n s v).2.2.2.2.2 ((lwR1 t n s v).2.2.2.1 + i))) → Φ 1 σ')
    (h0 : ¬ lawOK t n s v → ∀ σ', LF σ σ' → σ' 46 2 = nI (lawPl t n s v) → Φ 0 σ') : CTI G (d + 120) Y_X6_readsLaw [.inr (.inr 48)] σ Φ := by
  have n96 := hc.1
  refine en_X6_readsLaw ?_
  rintro _ rfl _ rfl
  have l0 : LF σ (zwr (zwr σ 46 2 0) 48 5 0) := (LF.wr (ρ := σ) ⟨fun _ _ _ _ _ _ _ => rfl, fun _ _ => rfl⟩ (by omega)).wr (by omega)
  have z0 : zwr (zwr σ 46 2 0) 48 5 0 46 2 = nI 0 := by simp only [zwr_rne, zwr_req, upd_ne, upd_eq, ne_eq, Nat.reduceEqDiff, not_false_eq_true]; rfl
  have w0 : zwr (zwr σ 46 2 0) 48 5 0 48 5 = 0 := zwr_same _ _ _ _
  generalize zwr (zwr σ 46 2 0) 48 5 0 = σ2 at l0 z0 w0
  refine c_nextWord (l0.ct hc) z0 (Nat.zero_le n) (fun σ3 f1 f2 f3 => ?_)
  have l3 : LF σ σ3 := l0.wf ⟨fun a a1 a2 => f1 a a1, f2, fun j _ => by rw [f1 48 (by decide)]⟩
  have hp1 := wrd_le (t := t) (n := n) lt1002_n 4 (BL t n 0) (by decide) (BL_le (Nat.zero_le n))
  refine c_word1002 (l3.ct hc) f3 (BL_le (Nat.zero_le n)) (fun e1 σ4 f4 p4 w4 => ?_) (fun e1 σ4 f4 p4 => ?_)
  rotate_left
  · rw [if_pos rfl]
    have e1 : ¬ (lw1 t n).1 = true := e1
    refine h0 (fun q => e1 q.1) σ4 (l3.wf f4) ?_
    unfold lawPl
    rw [if_neg e1]
    exact p4
  rw [if_neg (by decide)]
  have e1 : (lw1 t n).1 = true := e1
  have l4 := l3.wf f4
  have w4 : σ4 48 5 = nI 1 := by rw [w4, f1 48 (by decide), w0]; rfl
  refine en_X6_turnTo_i48_49_1000 ?_
  rintro _ rfl _ rfl _ rfl
  have l5 : LF σ (zwr (zwr (zwr σ4 49 2 0) 48 3 (Int32.ofNat 49)) 48 4 (Int32.ofNat 1000)) := ((l4.wr (by omega)).wr (by omega)).wr (by omega)
  have c5 : CC49 t n (zwr (zwr (zwr σ4 49 2 0) 48 3 (Int32.ofNat 49)) 48 4 (Int32.ofNat 1000)) := ⟨l5.ct hc, by simp only [zwr_rne, zwr_req, upd_ne, upd_eq, ne_eq, Nat.reduceEqDiff, not_false_eq_true]; rfl, by simp only [zwr_rne, zwr_req, upd_ne, upd_eq, ne_eq, Nat.reduceEqDiff, not_false_eq_true]; rfl⟩
  have x5 : CX49 n (zwr (zwr (zwr σ4 49 2 0) 48 3 (Int32.ofNat 49)) 48 4 (Int32.ofNat 1000)) 0 (lwS1 t n s v) (zwr (zwr (zwr σ4 49 2 0) 48 3 (Int32.ofNat 49)) 48 4 (Int32.ofNat 1000)) := by
    refine ⟨⟨fun _ _ _ _ _ => rfl, fun _ _ => rfl, fun _ _ => rfl⟩, ⟨hp1.2, Nat.zero_le _, Nat.le_refl _⟩, ?_, ?_, ?_, fun i hi => absurd hi (Nat.not_lt_zero i)⟩
    · simp only [zwr_rne, zwr_req, upd_ne, upd_eq, ne_eq, Nat.reduceEqDiff, not_false_eq_true]; exact p4
    · simp only [zwr_rne, zwr_req, upd_ne, upd_eq, ne_eq, Nat.reduceEqDiff, not_false_eq_true]; exact w4
    · simp only [zwr_rne, zwr_req, upd_ne, upd_eq, ne_eq, Nat.reduceEqDiff, not_false_eq_true]; rfl
  generalize zwr (zwr (zwr σ4 49 2 0) 48 3 (Int32.ofNat 49)) 48 4 (Int32.ofNat 1000) = ρ1 at l5 c5 x5
  refine c_level49 pn1 c5 (40 * n + 30) 0 0 (d + 119) (lwS1 t n s v) ρ1 _ (by omega) (by decide) (by decide) (by omega) x5 (Nat.zero_le _) (fun R1 σ6 ev1 r1 => ?_)
  have er1 : lwR1 t n s v = R1 := evR_eq ev1
  obtain ⟨y1, y2, y3⟩ := ev1.good pn1 (by decide) hp1.2
  have l6 := l5.c49 r1.1
  by_cases e2 : R1.1 = true
  rotate_left
  · have eb : bI R1.1 = 0 := by unfold bI; rw [if_neg e2]
    rw [eb, if_pos rfl]
    refine h0 (fun q => e2 (by rw [← er1]; exact q.2.1)) σ6 l6 ?_
    unfold lawPl
    rw [if_pos e1, if_neg (by rw [er1]; exact e2), er1]
    exact r1.2.2.1
  have eb : bI R1.1 = 1 := by unfold bI; rw [if_pos e2]
  rw [eb, if_neg (by decide)]
  have x6 := r1.y e2
  obtain ⟨y4, y5, y6, y7, y8⟩ := y3 e2
  have y4 : R1.2.2.2.1 + (lw1 t n).2 ≤ 0 + R1.2.1 := y4
  refine c_nw49 c5 x6 (fun σ7 x7 => ?_)
  have l7 : LF σ σ7 := l5.c49 x7.1
  have eP2 : lwP2 t n s v = BL t n R1.2.1 := by unfold lwP2; rw [er1]
  have hP2 : BL t n R1.2.1 ≤ n := BL_le y2
  have gP2 := BL_ge t n R1.2.1
  refine c_behind (l7.ct hc) x7.2.2.1 hP2 (fun e3 => ?_) (fun e3 => ?_)
  · rw [if_neg (by decide)]
    have e3' : bhd t (lwP2 t n s v) := by rw [eP2]; exact e3
    refine h0 (fun q => q.2.2.1 e3') σ7 l7 ?_
    unfold lawPl
    rw [if_pos e1, if_pos (by rw [er1]; exact e2), if_pos e3', eP2]
    exact x7.2.2.1
  rw [if_pos rfl]
  have e3' : ¬ bhd t (lwP2 t n s v) := by rw [eP2]; exact e3
  have e33 : lw3 t n s v = wrd t n lt1003 4 (BL t n R1.2.1) := by unfold lw3; rw [eP2]
  have hp3 := wrd_le (t := t) (n := n) lt1003_n 4 (BL t n R1.2.1) (by decide) hP2
  refine c_word1003 (l7.ct hc) x7.2.2.1 hP2 (fun e4 σ8 f8 p8 w8 => ?_) (fun e4 σ8 f8 p8 => ?_)
  rotate_left
  · rw [if_pos rfl]
    have e4' : ¬ (lw3 t n s v).1 = true := by rw [e33]; exact e4
    refine h0 (fun q => e4' q.2.2.2.1) σ8 (l7.wf f8) ?_
    unfold lawPl
    rw [if_pos e1, if_pos (by rw [er1]; exact e2), if_neg e3', if_neg e4', e33]
    exact p8
  rw [if_neg (by decide)]
  have e4' : (lw3 t n s v).1 = true := by rw [e33]; exact e4
  have l8 := l7.wf f8
  obtain ⟨x71, ⟨x72, x73, x74⟩, x75, x76, x77, x78⟩ := x7
  have w8 : σ8 48 5 = nI (R1.2.2.1 + 1) := by rw [w8, x76, nI_1]; rfl
  have k8 : σ8 49 2 = nI R1.2.2.2.1 := by rw [f8.1 49 (by decide) (by decide), x77]; rfl
  have k9 : ∀ i, i < R1.2.2.2.1 → σ8 50 i = cod (R1.2.2.2.2.1 i) (R1.2.2.2.2.2 i) := by
    intro i hi
    rw [f8.1 50 (by decide) (by decide)]
    have := x78 i (by show i < R1.2.2.2.1 - 0; omega)
    rw [Nat.zero_add] at this
    exact this
  have eS3 : lwS3 t n s v = ((lw3 t n s v).2, R1.2.2.1 + 1, R1.2.2.2) := by unfold lwS3; rw [er1]
  have hS3 : (lwS3 t n s v).1 ≤ n := by rw [eS3, e33]; exact hp3.2
  have kS3 : (lwS3 t n s v).2.2.1 = R1.2.2.2.1 := by rw [eS3]
  have gS3 : R1.2.2.2.1 ≤ (lwS3 t n s v).1 := by
    rw [eS3, e33]
    show R1.2.2.2.1 ≤ (wrd t n lt1003 4 (BL t n R1.2.1)).2
    omega
  refine en_X6_turnTo_i48_52_1001 ?_
  rintro _ rfl _ rfl _ rfl
  have l9 : LF σ (zwr (zwr (zwr σ8 52 2 0) 48 3 (Int32.ofNat 52)) 48 4 (Int32.ofNat 1001)) := ((l8.wr (by omega)).wr (by omega)).wr (by omega)
  have c9 : CC52 t n (zwr (zwr (zwr σ8 52 2 0) 48 3 (Int32.ofNat 52)) 48 4 (Int32.ofNat 1001)) := ⟨l9.ct hc, by simp only [zwr_rne, zwr_req, upd_ne, upd_eq, ne_eq, Nat.reduceEqDiff, not_false_eq_true]; rfl, by simp only [zwr_rne, zwr_req, upd_ne, upd_eq, ne_eq, Nat.reduceEqDiff, not_false_eq_true]; rfl⟩
  have k8' : zwr (zwr (zwr σ8 52 2 0) 48 3 (Int32.ofNat 52)) 48 4 (Int32.ofNat 1001) 49 2 = nI R1.2.2.2.1 := by simp only [zwr_rne, zwr_req, upd_ne, upd_eq, ne_eq, Nat.reduceEqDiff, not_false_eq_true]; exact k8
  have k9' : ∀ i, i < R1.2.2.2.1 → zwr (zwr (zwr σ8 52 2 0) 48 3 (Int32.ofNat 52)) 48 4 (Int32.ofNat 1001) 50 i = cod (R1.2.2.2.2.1 i) (R1.2.2.2.2.2 i) := by
    intro i hi
    simp only [zwr_rne, zwr_req, upd_ne, upd_eq, ne_eq, Nat.reduceEqDiff, not_false_eq_true]; exact k9 i hi
  have x9 : CX52 n (zwr (zwr (zwr σ8 52 2 0) 48 3 (Int32.ofNat 52)) 48 4 (Int32.ofNat 1001)) R1.2.2.2.1 (lwS3 t n s v) (zwr (zwr (zwr σ8 52 2 0) 48 3 (Int32.ofNat 52)) 48 4 (Int32.ofNat 1001)) := by
    refine ⟨⟨fun _ _ _ _ _ => rfl, fun _ _ => rfl, fun _ _ => rfl⟩, ⟨hS3, by omega, by rw [kS3]; exact Nat.le_refl _⟩, ?_, ?_, ?_, fun i hi => absurd hi (by rw [kS3]; omega)⟩
    · simp only [zwr_rne, zwr_req, upd_ne, upd_eq, ne_eq, Nat.reduceEqDiff, not_false_eq_true]; rw [p8, eS3, e33]; rfl
    · simp only [zwr_rne, zwr_req, upd_ne, upd_eq, ne_eq, Nat.reduceEqDiff, not_false_eq_true]; rw [w8, eS3]
    · simp only [zwr_rne, zwr_req, upd_ne, upd_eq, ne_eq, Nat.reduceEqDiff, not_false_eq_true]; rw [kS3, Nat.sub_self]; rfl
  generalize zwr (zwr (zwr σ8 52 2 0) 48 3 (Int32.ofNat 52)) 48 4 (Int32.ofNat 1001) = ρ2 at l9 c9 x9 k8' k9'
  refine c_level52 bn1 c9 (40 * n + 30) 0 0 (d + 119) (lwS3 t n s v) ρ2 _ (by omega) (by decide) (by decide) (by omega) x9 (by rw [kS3]; exact gS3) (fun R2 σ10 ev2 r2 => ?_)
  have er2 : lwR2 t n s v = R2 := evR_eq ev2
  obtain ⟨u1, u2, u3⟩ := ev2.good bn1 (by decide) hS3
  have l10 := l9.c52 r2.1
  by_cases e5 : R2.1 = true
  rotate_left
  · have eb : bI R2.1 = 0 := by unfold bI; rw [if_neg e5]
    rw [eb, if_pos rfl]
    refine h0 (fun q => e5 (by rw [← er2]; exact q.2.2.2.2.1)) σ10 l10 ?_
    unfold lawPl
    rw [if_pos e1, if_pos (by rw [er1]; exact e2), if_neg e3', if_pos e4', if_neg (by rw [er2]; exact e5), er2]
    exact r2.2.2.1
  have eb : bI R2.1 = 1 := by unfold bI; rw [if_pos e5]
  rw [eb, if_neg (by decide)]
  have x10 := r2.y e5
  refine c_nw52 c9 x10 (fun σ11 x11 => ?_)
  have l11 : LF σ σ11 := l9.c52 x11.1
  obtain ⟨z1, ⟨z2, z3, z4⟩, z5, z6, z7, z8⟩ := x11
  have pl : lawPl t n s v = BL t n R2.2.1 := by
    unfold lawPl
    rw [if_pos e1, if_pos (by rw [er1]; exact e2), if_neg e3', if_pos e4', if_pos (by rw [er2]; exact e5), er2]
  by_cases e6 : gtx t n (BL t n R2.2.1) = -1
  · rw [if_pos e6]
    have ok : lawOK t n s v := ⟨e1, by rw [er1]; exact e2, e3', e4', by rw [er2]; exact e5, by rw [er2]; exact e6⟩
    rw [pl] at h1
    rw [er1, er2] at h1
    refine h1 ok σ11 l11 z5 z6 ?_ ?_ z7 z8
    · rw [z1.1 49 (by decide) (by decide) (by decide) (by decide)]; exact k8'
    · intro i hi
      rw [z1.1 50 (by decide) (by decide) (by decide) (by decide)]; exact k9' i hi
  · rw [if_neg e6]
    rw [pl] at h0
    exact h0 (fun q => e6 (by rw [← er2]; exact q.2.2.2.2.2)) σ11 l11 z5
theorem c_take56 {G : zGT} {d : Nat} {Φ : zMem → Prop} {k : Nat} {σ : zMem} (hk : k ≤ 96) (h4 : σ 49 2 = nI k) (h : ∀ σ', (∀ a, a ≠ 56 → a ≠ 57 → σ' a = σ a) → σ' 56 2 = nI k → (∀ i, i < k → σ' 57 i = σ 50 i) → Φ σ') : CTV G (d + 1) Y_X4_take [.inr (.inr 56), .inr (.inr 49)] σ Φ := by
  refine en_X4_take_i56_49 ?_
  rintro _ rfl
  have L : ∀ m i : Nat, i + m = k → ∀ τ : zMem, (∀ a, a ≠ 56 → a ≠ 57 → τ a = σ a) → τ 56 2 = nI i → (∀ j, j < i → τ 57 j = σ 50 j) → WJ G M_X4_take (d + 1) (RV Φ) 7 [some (.inr (.inr 56)), some (.inr (.inr 49)), some (.inl (nI i))] [] τ := by
    intro m
    induction m with
    | zero =>
      intro i hi τ f t2 tr
      refine rg_X4_take_i56_49_7 ?_
      have : i = k := by omega
      subst this
      rw [f 49 (by decide) (by decide), h4, if_pos (nI_le (by omega) (by omega))]
      exact h τ f t2 tr
    | succ m ih =>
      intro i hi τ f t2 tr
      refine rg_X4_take_i56_49_7 ?_
      rw [f 49 (by decide) (by decide), h4, if_neg (nI_ge (by omega) (by omega)), cln (by omega), f 50 (by decide) (by decide)]
      refine ⟨vin (by omega), ?_⟩
      refine en_X4_add_i56 ?_
      rw [t2, if_neg (show ¬ Int32.ofNat 96 ≤ nI i from nI_ge (b := 96) (by omega) (by omega)), cln (by omega)]
      refine ⟨vin (by omega), ?_⟩
      rintro _ rfl _ rfl
      rw [nI_1]
      refine ih (i + 1) (by omega) _ (fun a a1 a2 => by rw [zwr_rne a1, zwr_rne a2]; exact f a a1 a2) ?_ (fun j hj => ?_)
      · simp only [zwr_rne, zwr_req, upd_ne, upd_eq, ne_eq, Nat.reduceEqDiff, not_false_eq_true]; rw [t2, nI_1]
      · simp only [zwr_rne, zwr_req, upd_ne, upd_eq, ne_eq, Nat.reduceEqDiff, not_false_eq_true]
        by_cases e : j = i
        · subst e; rw [upd_eq]
        · rw [upd_ne e]; exact tr j (by omega)
  exact L k 0 (by omega) _ (fun a a1 _ => zwr_rne a1) (by rw [zwr_same]; rfl) (fun j hj => absurd hj (Nat.not_lt_zero j))
theorem c_take59 {G : zGT} {d : Nat} {Φ : zMem → Prop} {k : Nat} {σ : zMem} (hk : k ≤ 96) (h4 : σ 52 2 = nI k) (h : ∀ σ', (∀ a, a ≠ 59 → a ≠ 60 → σ' a = σ a) → σ' 59 2 = nI k → (∀ i, i < k → σ' 60 i = σ 53 i) → Φ σ') : CTV G (d + 1) Y_X4_take [.inr (.inr 59), .inr (.inr 52)] σ Φ := by
  refine en_X4_take_i59_52 ?_
  rintro _ rfl
  have L : ∀ m i : Nat, i + m = k → ∀ τ : zMem, (∀ a, a ≠ 59 → a ≠ 60 → τ a = σ a) → τ 59 2 = nI i → (∀ j, j < i → τ 60 j = σ 53 j) → WJ G M_X4_take (d + 1) (RV Φ) 7 [some (.inr (.inr 59)), some (.inr (.inr 52)), some (.inl (nI i))] [] τ := by
    intro m
    induction m with
    | zero =>
      intro i hi τ f t2 tr
      refine rg_X4_take_i59_52_7 ?_
      have : i = k := by omega
      subst this
      rw [f 52 (by decide) (by decide), h4, if_pos (nI_le (by omega) (by omega))]
      exact h τ f t2 tr
    | succ m ih =>
      intro i hi τ f t2 tr
      refine rg_X4_take_i59_52_7 ?_
      rw [f 52 (by decide) (by decide), h4, if_neg (nI_ge (by omega) (by omega)), cln (by omega), f 53 (by decide) (by decide)]
      refine ⟨vin (by omega), ?_⟩
      refine en_X4_add_i59 ?_
      rw [t2, if_neg (show ¬ Int32.ofNat 96 ≤ nI i from nI_ge (b := 96) (by omega) (by omega)), cln (by omega)]
      refine ⟨vin (by omega), ?_⟩
      rintro _ rfl _ rfl
      rw [nI_1]
      refine ih (i + 1) (by omega) _ (fun a a1 a2 => by rw [zwr_rne a1, zwr_rne a2]; exact f a a1 a2) ?_ (fun j hj => ?_)
      · simp only [zwr_rne, zwr_req, upd_ne, upd_eq, ne_eq, Nat.reduceEqDiff, not_false_eq_true]; rw [t2, nI_1]
      · simp only [zwr_rne, zwr_req, upd_ne, upd_eq, ne_eq, Nat.reduceEqDiff, not_false_eq_true]
        by_cases e : j = i
        · subst e; rw [upd_eq]
        · rw [upd_ne e]; exact tr j (by omega)
  exact L k 0 (by omega) _ (fun a a1 _ => zwr_rne a1) (by rw [zwr_same]; rfl) (fun j hj => absurd hj (Nat.not_lt_zero j))
