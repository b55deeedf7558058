-- the class's tape
def bI (b : Bool) : Int32 := if b = true then 1 else 0
theorem bI_01 (b : Bool) : bI b = 0 ∨ bI b = 1 := by cases b <;> decide
def CT (t : Nat → Int32) (n : Nat) (σ : zMem) : Prop := n ≤ 96 ∧ σ 46 1 = nI n ∧ ∀ i, i < n → σ 47 i &&& 255 = t i
theorem CT.mv {t : Nat → Int32} {n : Nat} {σ σ' : zMem} (h : CT t n σ) (h1 : σ' 46 1 = σ 46 1) (h2 : σ' 47 = σ 47) : CT t n σ' := ⟨h.1, by rw [h1]; exact h.2.1, by rw [h2]; exact h.2.2⟩
theorem c_isDigit {G : zGT} {d : Nat} {Φ : Int32 → zMem → Prop} {σ : zMem} {v : Int32} (h1 : isD v → Φ 1 σ) (h0 : ¬ isD v → Φ 0 σ) : CTI G d Y_X9_isDigit [.inl v] σ Φ := by
  refine en_X9_isDigit ?_
  have t48 : (48 : Int32).toInt = 48 := rfl
  have t57 : (57 : Int32).toInt = 57 := rfl
  refine zlt (fun a => ?_) (fun a => ?_)
  · rw [t48] at a
    exact h0 (fun q => by unfold isD at q; omega)
  · refine zlt (fun b => ?_) (fun b => ?_)
    · rw [t57] at b
      exact h0 (fun q => by unfold isD at q; omega)
    · rw [t48] at a
      rw [t57] at b
      exact h1 ⟨a, b⟩
def isL (v : Int32) : Prop := isD v ∨ (97 ≤ v.toInt ∧ v.toInt ≤ 122) ∨ (65 ≤ v.toInt ∧ v.toInt ≤ 90)
theorem c_isLetter {G : zGT} {d : Nat} {Φ : Int32 → zMem → Prop} {σ : zMem} {v : Int32} (h1 : isL v → Φ 1 σ) (h0 : ¬ isL v → Φ 0 σ) : CTI G (d + 1) Y_X9_isLetterOrDigit [.inl v] σ Φ := by
  refine en_X9_isLetterOrDigit ?_
  have t97 : (97 : Int32).toInt = 97 := rfl
  have t122 : (122 : Int32).toInt = 122 := rfl
  have t65 : (65 : Int32).toInt = 65 := rfl
  have t90 : (90 : Int32).toInt = 90 := rfl
  refine c_isDigit (fun q => ?_) (fun q => ?_)
  · rw [if_neg (by decide)]
    exact h1 (Or.inl q)
  · rw [if_pos rfl]
    unfold isL at h1 h0
    have up : (¬ (97 ≤ v.toInt ∧ v.toInt ≤ 122)) → if v < 65 then Φ 0 σ else (if 90 < v then Φ 0 σ else Φ 1 σ) := by
      intro w
      refine zlt (fun b => ?_) (fun b => ?_)
      · rw [t65] at b
        exact h0 (fun z => by rcases z with z | z | z; exact q z; exact w z; omega)
      · rw [t65] at b
        refine zlt (fun c => ?_) (fun c => ?_)
        · rw [t90] at c
          exact h0 (fun z => by rcases z with z | z | z; exact q z; exact w z; omega)
        · rw [t90] at c
          exact h1 (Or.inr (Or.inr ⟨b, c⟩))
    refine zlt (fun a => ?_) (fun a => ?_)
    · rw [t97] at a
      exact up (fun w => by omega)
    · rw [t97] at a
      refine zle (fun b => ?_) (fun b => ?_)
      · rw [t122] at b
        exact h1 (Or.inr (Or.inl ⟨a, b⟩))
      · rw [t122] at b
        exact up (fun w => by omega)
theorem c_next {G : zGT} {d : Nat} {Φ : Int32 → zMem → Prop} {σ : zMem} {t : Nat → Int32} {n p : Nat} (hc : CT t n σ) (h2 : σ 46 2 = nI p) (hp : p ≤ n) (h : Φ (gtx t n p) σ) : CTI G d Y_X9_next [.inr (.inr 46)] σ Φ := by
  obtain ⟨c1, c2, c3⟩ := hc
  refine en_X9_next ?_
  rw [c2, h2]
  by_cases g : n ≤ p
  · rw [if_pos (nI_le (by omega) (by omega))]
    rw [gtx_ge g] at h
    exact h
  · rw [if_neg (nI_ge (by omega) (by omega)), cln (by omega), c3 p (by omega)]
    rw [gtx_lt (by omega)] at h
    exact ⟨vin (by omega), h⟩
theorem c_nextWord {G : zGT} {d : Nat} {Φ : Int32 → zMem → Prop} {σ : zMem} {t : Nat → Int32} {n p : Nat} (hc : CT t n σ) (h2 : σ 46 2 = nI p) (hp : p ≤ n)
    (h : ∀ σ', (∀ a, a ≠ 46 → σ' a = σ a) → (∀ j, j ≠ 2 → σ' 46 j = σ 46 j) → σ' 46 2 = nI (BL t n p) → Φ (gtx t n (BL t n p)) σ') : CTI G (d + 1) Y_X9_nextWord [.inr (.inr 46)] σ Φ := by
  have c96 := hc.1
  refine en_X9_nextWord ?_
  have L : ∀ m p' i : Nat, n - p' ≤ m → i + (n - p') ≤ 96 → p' ≤ n → BL t n p' = BL t n p → ∀ τ : zMem, (∀ a, a ≠ 46 → τ a = σ a) → (∀ j, j ≠ 2 → τ 46 j = σ 46 j) → τ 46 2 = nI p' →
      WJ G M_X9_nextWord (d + 1) (RI Φ) 2 [some (.inr (.inr 46)), some (.inl (nI i))] [] τ := by
    intro m
    induction m with
    | zero =>
      intro p' i hm hi hp' hB τ f1 f2 t2
      refine rg_X9_nextWord_2 ?_
      have ct : CT t n τ := hc.mv (f2 1 (by decide)) (f1 47 (by decide))
      have g1 : gtx t n p' = -1 := gtx_ge (by omega)
      have b1 : BL t n p' = p' := BL_n (by rw [g1]; decide)
      have fin : Φ (gtx t n p') τ := by
        have hh := h τ f1 f2 (by rw [t2, ← hB, b1])
        rw [← hB, b1] at hh
        exact hh
      by_cases g : 96 ≤ i
      · rw [if_pos (show (96 : Int32) ≤ nI i from nI_le (a := 96) g (by omega))]
        exact c_next ct t2 hp' fin
      · rw [if_neg (show ¬ (96 : Int32) ≤ nI i from nI_ge (b := 96) (by omega) (by omega))]
        refine c_next ct t2 hp' ?_
        rw [if_neg (by rw [g1]; decide)]
        exact c_next ct t2 hp' fin
    | succ m ih =>
      intro p' i hm hi hp' hB τ f1 f2 t2
      refine rg_X9_nextWord_2 ?_
      have ct : CT t n τ := hc.mv (f2 1 (by decide)) (f1 47 (by decide))
      have fin : ¬ gtx t n p' = 32 → Φ (gtx t n p') τ := by
        intro q
        have b1 : BL t n p' = p' := BL_n q
        have hh := h τ f1 f2 (by rw [t2, ← hB, b1])
        rw [← hB, b1] at hh
        exact hh
      by_cases g : 96 ≤ i
      · rw [if_pos (show (96 : Int32) ≤ nI i from nI_le (a := 96) g (by omega))]
        refine c_next ct t2 hp' (fin ?_)
        rw [gtx_ge (by omega)]
        decide
      · rw [if_neg (show ¬ (96 : Int32) ≤ nI i from nI_ge (b := 96) (by omega) (by omega))]
        refine c_next ct t2 hp' ?_
        by_cases q : gtx t n p' = 32
        · rw [if_pos q]
          rintro _ rfl
          have lt : p' < n := gtx_in (by rw [q]; decide)
          rw [nI_1]
          refine ih (p' + 1) (i + 1) (by omega) (by omega) (by omega) (by rw [← BL_y q]; exact hB) _ (fun a ha => by rw [zwr_rne ha]; exact f1 a ha) (fun j hj => ?_) ?_
          · rw [zwr_req, upd_ne hj]; exact f2 j hj
          · rw [zwr_same, t2, nI_1]
        · rw [if_neg q]
          exact c_next ct t2 hp' (fin q)
  exact L (n - p) p 0 (Nat.le_refl _) (by omega) hp rfl σ (fun _ _ => rfl) (fun _ _ => rfl) h2
theorem lvl_val (c : Int32) : (c = 38 ∧ lvl c = 1) ∨ (c = 42 ∧ lvl c = 4) ∨ (c = 43 ∧ lvl c = 3) ∨ (c = 45 ∧ lvl c = 3) ∨ (c = 60 ∧ lvl c = 2) ∨ (c = 61 ∧ lvl c = 2) ∨ (c = 62 ∧ lvl c = 2) ∨ (c = 124 ∧ lvl c = 0) ∨ (¬ c = 38 ∧ ¬ c = 42 ∧ ¬ c = 43 ∧ ¬ c = 45 ∧ ¬ c = 60 ∧ ¬ c = 61 ∧ ¬ c = 62 ∧ ¬ c = 124 ∧ lvl c = 9) := by
  by_cases g1 : c = 38
  · subst g1; exact Or.inl ⟨rfl, rfl⟩
  by_cases g2 : c = 42
  · subst g2; exact Or.inr (Or.inl ⟨rfl, rfl⟩)
  by_cases g3 : c = 43
  · subst g3; exact Or.inr (Or.inr (Or.inl ⟨rfl, rfl⟩))
  by_cases g4 : c = 45
  · subst g4; exact Or.inr (Or.inr (Or.inr (Or.inl ⟨rfl, rfl⟩)))
  by_cases g5 : c = 60
  · subst g5; exact Or.inr (Or.inr (Or.inr (Or.inr (Or.inl ⟨rfl, rfl⟩))))
  by_cases g6 : c = 61
  · subst g6; exact Or.inr (Or.inr (Or.inr (Or.inr (Or.inr (Or.inl ⟨rfl, rfl⟩)))))
  by_cases g7 : c = 62
  · subst g7; exact Or.inr (Or.inr (Or.inr (Or.inr (Or.inr (Or.inr (Or.inl ⟨rfl, rfl⟩))))))
  by_cases g8 : c = 124
  · subst g8; exact Or.inr (Or.inr (Or.inr (Or.inr (Or.inr (Or.inr (Or.inr (Or.inl ⟨rfl, rfl⟩)))))))
  refine Or.inr (Or.inr (Or.inr (Or.inr (Or.inr (Or.inr (Or.inr (Or.inr ⟨g1, g2, g3, g4, g5, g6, g7, g8, ?_⟩)))))))
  unfold lvl
  rw [if_neg g1, if_neg g2, if_neg g3, if_neg g4, if_neg g5, if_neg g6, if_neg g7, if_neg g8]
theorem c_levelOf {G : zGT} {d : Nat} {Φ : Int32 → zMem → Prop} {σ : zMem} {c : Int32} {q : Nat} (hq : q ≤ 4) (h : ∀ v : Int32, (v = nI q ↔ lvl c = q) → Φ v σ) : CTI G d Y_X6_levelOf [.inl c] σ Φ := by
  refine en_X6_levelOf ?_
  have e : ∀ k : Nat, k ≤ 4 → ∀ v : Int32, v = nI k → lvl c = k → Φ v σ := by
    intro k hk v hv hl
    refine h v ?_
    rw [hv, hl]
    exact nI_inj (by omega) (by omega)
  rcases lvl_val c with ⟨a, b⟩ | ⟨a, b⟩ | ⟨a, b⟩ | ⟨a, b⟩ | ⟨a, b⟩ | ⟨a, b⟩ | ⟨a, b⟩ | ⟨a, b⟩ | ⟨g1, g2, g3, g4, g5, g6, g7, g8, b⟩
  · rw [if_pos a]; exact e 1 (by decide) _ rfl b
  · rw [if_neg (by rw [a]; decide), if_pos a]; exact e 4 (by decide) _ rfl b
  · rw [if_neg (by rw [a]; decide), if_neg (by rw [a]; decide), if_pos a]; exact e 3 (by decide) _ rfl b
  · rw [if_neg (by rw [a]; decide), if_neg (by rw [a]; decide), if_neg (by rw [a]; decide), if_pos a]; exact e 3 (by decide) _ rfl b
  · rw [if_neg (by rw [a]; decide), if_neg (by rw [a]; decide), if_neg (by rw [a]; decide), if_neg (by rw [a]; decide), if_pos a]; exact e 2 (by decide) _ rfl b
  · rw [if_neg (by rw [a]; decide), if_neg (by rw [a]; decide), if_neg (by rw [a]; decide), if_neg (by rw [a]; decide), if_neg (by rw [a]; decide), if_pos a]; exact e 2 (by decide) _ rfl b
  · rw [if_neg (by rw [a]; decide), if_neg (by rw [a]; decide), if_neg (by rw [a]; decide), if_neg (by rw [a]; decide), if_neg (by rw [a]; decide), if_neg (by rw [a]; decide), if_pos a]; exact e 2 (by decide) _ rfl b
  · rw [if_neg (by rw [a]; decide), if_neg (by rw [a]; decide), if_neg (by rw [a]; decide), if_neg (by rw [a]; decide), if_neg (by rw [a]; decide), if_neg (by rw [a]; decide), if_neg (by rw [a]; decide), if_pos a]; exact e 0 (by decide) _ rfl b
  · rw [if_neg g1, if_neg g2, if_neg g3, if_neg g4, if_neg g5, if_neg g6, if_neg g7, if_neg g8]
    refine h _ ?_
    rw [fa_eq, tiN, tin (by omega), b]
    omega
theorem sh_0 : ∀ c, c < 24 → (0 : Int32) <<< (nI c &&& 31) = 0 := by decide +kernel
