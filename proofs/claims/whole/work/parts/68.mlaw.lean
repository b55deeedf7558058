-- the reference's law
theorem NW.again {n : Nat} {ρ : zMem} {p : Nat} {σ : zMem} (h : NW n ρ p σ) : NW n ρ p (zwr σ 72 53 1) := by
  obtain ⟨h1, h2, h3, h4⟩ := h
  refine ⟨h1.wr (by omega), h2, ?_, zwr_same _ _ _ _⟩
  rw [zwr_req, upd_ne (by omega)]; exact h3
theorem m_chain {G : zGT} {d : Nat} {Φ : zMem → Prop} {t : Nat → Int32} {n : Nat} {ρ : zMem} {dep : Nat} {S : zPS} {σ : zMem} {L : Nat → Int32} {v1 v2 v3 v4 : Int32} (hc : NT t n ρ) (hL : ∀ i, i < 4 → ¬ L i = -1) (e1 : v1 = L 0) (e2 : v2 = L 1) (e3 : v3 = L 2) (e4 : v4 = L 3) (hx : NX n ρ dep S σ)
    (h1 : (wrd t n L 4 S.1).1 = true → ∀ σ', NX n ρ dep ((wrd t n L 4 S.1).2, S.2.1 + 1, S.2.2) σ' → Φ σ') (h0 : ¬ (wrd t n L 4 S.1).1 = true → ∀ σ', NW n ρ (wrd t n L 4 S.1).2 σ' → Φ σ') :
    (CTV G (d + 3) Y_X12_need [.inr (.inr 72), .inl v1] σ (fun (s2 : zMem) => CTV G (d + 3) Y_X12_need [.inr (.inr 72), .inl v2] s2 (fun (s3 : zMem) => CTV G (d + 3) Y_X12_need [.inr (.inr 72), .inl v3] s3 (fun (s4 : zMem) => CTV G (d + 3) Y_X12_need [.inr (.inr 72), .inl v4] s4 (fun (s5 : zMem) => if (s5 72 53) = 0 then (CTI G (d + 3) Y_X12_here [.inr (.inr 72)] s5 (fun (r7 : Int32) (s6 : zMem) => CTI G (d + 3) Y_X12_isLetterOrDigit [.inl r7] s6 (fun (r9 : Int32) (s8 : zMem) => if r9 = 0 then (∀ s10 : zMem, s10 = zwr s8 72 53 (0 : Int32) → (∀ s11 : zMem, s11 = zwr s10 72 55 ((s10 72 55) + (1 : Int32)) → (Φ s11))) else (∀ s12 : zMem, s12 = zwr s8 72 53 (1 : Int32) → (∀ s13 : zMem, s13 = zwr s12 72 55 ((s12 72 55) + (1 : Int32)) → (Φ s13)))))) else (∀ s14 : zMem, s14 = zwr s5 72 53 (1 : Int32) → (∀ s15 : zMem, s15 = zwr s14 72 55 ((s14 72 55) + (1 : Int32)) → (Φ s15)))))))) := by
  have ff : ¬ ((false : Bool) = true) := by decide
  have tf : ∀ (p : Nat) (τ : zMem), NW n ρ p τ → wrd t n L 4 S.1 = (false, p) → (if (τ 72 53) = 0 then (CTI G (d + 3) Y_X12_here [.inr (.inr 72)] τ (fun (r7 : Int32) (s6 : zMem) => CTI G (d + 3) Y_X12_isLetterOrDigit [.inl r7] s6 (fun (r9 : Int32) (s8 : zMem) => if r9 = 0 then (∀ s10 : zMem, s10 = zwr s8 72 53 (0 : Int32) → (∀ s11 : zMem, s11 = zwr s10 72 55 ((s10 72 55) + (1 : Int32)) → (Φ s11))) else (∀ s12 : zMem, s12 = zwr s8 72 53 (1 : Int32) → (∀ s13 : zMem, s13 = zwr s12 72 55 ((s12 72 55) + (1 : Int32)) → (Φ s13)))))) else (∀ s14 : zMem, s14 = zwr τ 72 53 (1 : Int32) → (∀ s15 : zMem, s15 = zwr s14 72 55 ((s14 72 55) + (1 : Int32)) → (Φ s15)))) := by
    intro p τ w e
    rw [if_neg (w1 w)]
    rintro _ rfl _ rfl
    rw [e] at h0
    exact h0 ff _ (w.again.wr (Or.inl rfl))
  have q1 : wrd t n L 4 S.1 = if gtx t n S.1 = L 0 then wrd t n L 3 (S.1 + 1) else (false, S.1) := rfl
  have q2 : wrd t n L 3 (S.1 + 1) = if gtx t n (S.1 + 1) = L 1 then wrd t n L 2 (S.1 + 1 + 1) else (false, S.1 + 1) := rfl
  have q3 : wrd t n L 2 (S.1 + 1 + 1) = if gtx t n (S.1 + 1 + 1) = L 2 then wrd t n L 1 (S.1 + 1 + 1 + 1) else (false, S.1 + 1 + 1) := rfl
  have q4 : wrd t n L 1 (S.1 + 1 + 1 + 1) = if gtx t n (S.1 + 1 + 1 + 1) = L 3 then wrd t n L 0 (S.1 + 1 + 1 + 1 + 1) else (false, S.1 + 1 + 1 + 1) := rfl
  refine m_need hc (by rw [e1]; exact hL 0 (by decide)) hx (fun g1 σ1 x1 => ?_) (fun g1 σ1 w => ?_)
  rotate_left
  · rw [e1] at g1
    rw [if_neg g1] at q1
    exact m_needW w (m_needW w (m_needW w (tf _ σ1 w q1)))
  rw [e1] at g1
  rw [if_pos g1] at q1
  refine m_need hc (by rw [e2]; exact hL 1 (by decide)) x1 (fun g2 σ2 x2 => ?_) (fun g2 σ2 w => ?_)
  rotate_left
  · have g2 : ¬ gtx t n (S.1 + 1) = v2 := g2
    rw [e2] at g2
    rw [if_neg g2] at q2
    exact m_needW w (m_needW w (tf _ σ2 w (q1.trans q2)))
  have g2 : gtx t n (S.1 + 1) = v2 := g2
  rw [e2] at g2
  rw [if_pos g2] at q2
  refine m_need hc (by rw [e3]; exact hL 2 (by decide)) x2 (fun g3 σ3 x3 => ?_) (fun g3 σ3 w => ?_)
  rotate_left
  · have g3 : ¬ gtx t n (S.1 + 1 + 1) = v3 := g3
    rw [e3] at g3
    rw [if_neg g3] at q3
    exact m_needW w (tf _ σ3 w ((q1.trans q2).trans q3))
  have g3 : gtx t n (S.1 + 1 + 1) = v3 := g3
  rw [e3] at g3
  rw [if_pos g3] at q3
  refine m_need hc (by rw [e4]; exact hL 3 (by decide)) x3 (fun g4 σ4 x4 => ?_) (fun g4 σ4 w => ?_)
  rotate_left
  · have g4 : ¬ gtx t n (S.1 + 1 + 1 + 1) = v4 := g4
    rw [e4] at g4
    rw [if_neg g4] at q4
    exact tf _ σ4 w (((q1.trans q2).trans q3).trans q4)
  have g4 : gtx t n (S.1 + 1 + 1 + 1) = v4 := g4
  rw [e4] at g4
  rw [if_pos g4] at q4
  have q := ((q1.trans q2).trans q3).trans q4
  rw [if_pos x4.2.2.2.1]
  refine m_hx hc x4 ?_
  refine m_isLetter (fun z => ?_) (fun z => ?_)
  · rw [if_neg (by decide)]
    have z : isL (gtx t n (S.1 + 1 + 1 + 1 + 1)) := z
    rw [wrd_0y z] at q
    rintro _ rfl _ rfl
    rw [q] at h0
    exact h0 ff _ (x4.wrong.wr (Or.inl rfl))
  · rw [if_pos rfl]
    have z : ¬ isL (gtx t n (S.1 + 1 + 1 + 1 + 1)) := z
    rw [wrd_0n z] at q
    rintro _ rfl _ rfl
    rw [q] at h1
    exact h1 rfl _ x4.right.word
theorem m_word {G : zGT} {d : Nat} {Φ : zMem → Prop} {t : Nat → Int32} {n : Nat} {ρ : zMem} {dep : Nat} {S : zPS} {σ : zMem} {L : Nat → Int32} {v1 v2 v3 v4 : Int32} (hc : NT t n ρ) (hL : ∀ i, i < 4 → ¬ L i = -1) (e1 : v1 = L 0) (e2 : v2 = L 1) (e3 : v3 = L 2) (e4 : v4 = L 3) (hx : NX n ρ dep S σ)
    (h1 : ¬ bhd t (BL t n S.1) → (wrd t n L 4 (BL t n S.1)).1 = true → ∀ σ', NX n ρ dep ((wrd t n L 4 (BL t n S.1)).2, S.2.1 + 1, S.2.2) σ' → Φ σ') (hb : bhd t (BL t n S.1) → ∀ σ', NW n ρ (BL t n S.1) σ' → Φ σ')
    (h0 : ¬ bhd t (BL t n S.1) → ¬ (wrd t n L 4 (BL t n S.1)).1 = true → ∀ σ', NW n ρ (wrd t n L 4 (BL t n S.1)).2 σ' → Φ σ') : CTV G (d + 4) Y_X12_needWord [.inr (.inr 72), .inl v1, .inl v2, .inl v3, .inl v4] σ Φ := by
  have n96 := hc.1
  refine en_X12_needWord ?_
  refine m_blY hc hx (fun σ1 x1 => ?_)
  rw [if_pos x1.2.2.2.1]
  have p1 : σ1 72 52 = nI (BL t n S.1) := x1.2.2.1
  have hp : BL t n S.1 ≤ n := x1.2.1.1
  rw [p1]
  by_cases z : BL t n S.1 = 0
  · rw [if_pos (by rw [z]; decide)]
    have nb : ¬ bhd t (BL t n S.1) := fun q => by have := q.1; omega
    exact m_chain hc hL e1 e2 e3 e4 x1 (fun q => h1 nb q) (fun q => h0 nb q)
  · have t92 : σ1 92 (BL t n S.1 - 1) = t (BL t n S.1 - 1) := (hc.mv x1.1).2.2 _ (by omega)
    rw [if_neg (nI_nle (by omega) (by omega)), nI_p2 (by omega), cln (by omega), t92]
    refine ⟨vin (by omega), ?_⟩
    refine m_isLetter (fun q => ?_) (fun q => ?_)
    · rw [if_neg (by decide)]
      rintro _ rfl
      exact hb ⟨by omega, q⟩ _ x1.wrong
    · rw [if_pos rfl]
      have nb : ¬ bhd t (BL t n S.1) := fun w => q w.2
      exact m_chain hc hL e1 e2 e3 e4 x1 (fun q => h1 nb q) (fun q => h0 nb q)
theorem m_wordW {G : zGT} {d : Nat} {Φ : zMem → Prop} {n : Nat} {ρ : zMem} {p : Nat} {σ : zMem} {v1 v2 v3 v4 : Int32} (hx : NW n ρ p σ) (h : Φ σ) : CTV G (d + 4) Y_X12_needWord [.inr (.inr 72), .inl v1, .inl v2, .inl v3, .inl v4] σ Φ := by
  refine en_X12_needWord ?_
  refine m_blW hx ?_
  rw [if_neg (w1 hx)]
  exact h
theorem BL_behind {t : Nat → Int32} {n : Nat} : ∀ m p : Nat, n - p ≤ m → p < BL t n p → t (BL t n p - 1) = 32
  | 0, p, hm, hp => by
    have g1 : gtx t n p = -1 := gtx_ge (by omega)
    rw [BL_n (by rw [g1]; decide)] at hp
    omega
  | m + 1, p, hm, hp => by
    by_cases g : gtx t n p = 32
    · have lt : p < n := gtx_in (by rw [g]; decide)
      rw [BL_y g] at hp ⊢
      by_cases e : p + 1 < BL t n (p + 1)
      · exact BL_behind m (p + 1) (by omega) e
      · have : BL t n (p + 1) = p + 1 := by omega
        rw [this, Nat.add_sub_cancel]
        rw [gtx_lt lt] at g
        exact g
    · rw [BL_n g] at hp; omega
theorem bhd0 (t : Nat → Int32) (n : Nat) : ¬ bhd t (BL t n 0) := by
  rintro ⟨a, b⟩
  rw [BL_behind n 0 (by omega) a] at b
  rcases b with b | b | b
  · exact absurd b.1 (by decide)
  · exact absurd b.1 (by decide)
  · exact absurd b.1 (by decide)
theorem pn97 : ∀ L, isPn L → 97 ≤ L.toInt := fun L h => (pn_rng h).1
theorem bn97 : ∀ L, isBn L → 97 ≤ L.toInt := fun L h => (bn_rng h).1
theorem HN_p {G : zGT} {ρ : zMem} (h : ρ 72 54 = 0) : HN G isPn ρ := fun _ _ σ _ f h1 h0 => m_isNameP (by rw [f.2 54 (by decide) (by decide) (by decide) (by decide) (by decide)]; exact h) h1 h0
theorem HN_b {G : zGT} {ρ : zMem} (h : ρ 72 54 = 1) : HN G isBn ρ := fun _ _ σ _ f h1 h0 => m_isNameB (by rw [f.2 54 (by decide) (by decide) (by decide) (by decide) (by decide)]; exact h) h1 h0
def MF0 (σ τ : zMem) : Prop := (∀ a, a ≠ 72 → a ≠ 108 → a ≠ 109 → τ a = σ a) ∧ ∀ j, scj j = false → j ≠ 28 → τ 72 j = σ 72 j
theorem MF0.nf {σ ρ τ : zMem} (h : MF0 σ ρ) (f : NF ρ τ) : MF0 σ τ := by
  refine ⟨fun a a1 a2 a3 => (f.1 a a1 a2 a3).trans (h.1 a a1 a2 a3), fun j j1 j2 => (f.2 j ?_ ?_ ?_ ?_ ?_).trans (h.2 j j1 j2)⟩
  all_goals (rintro rfl; exact absurd j1 (by decide))
theorem MF0.wr {σ τ : zMem} (h : MF0 σ τ) {j : Nat} {v : Int32} (hj : scj j = true ∨ j = 28) : MF0 σ (zwr τ 72 j v) := by
  refine ⟨fun a a1 a2 a3 => by rw [zwr_rne a1]; exact h.1 a a1 a2 a3, fun i i1 i2 => ?_⟩
  rw [zwr_req, upd_ne]
  · exact h.2 i i1 i2
  · rintro rfl
    rcases hj with q | q
    · rw [q] at i1; cases i1
    · exact i2 q
theorem m_law {G : zGT} {d : Nat} {Φ : Int32 → zMem → Prop} {t : Nat → Int32} {n : Nat} {s v : Nat → Int32} {σ : zMem} (hc : NT t n σ) (ht : ∀ i, i < n → 0 ≤ (t i).toInt) (hs : σ 108 = s) (hv : σ 109 = v)
    (h1 : lawOK t n s v → ∀ σ', (∀ a, a ≠ 72 → a ≠ 106 → a ≠ 107 → a ≠ 108 → a ≠ 109 → σ' a = σ a) → (∀ j, scj j = false → j ≠ 28 → j ≠ 46 → j ≠ 47 → j ≠ 48 → j ≠ 49 → σ' 72 j = σ 72 j) → σ' 72 28 = 0 → σ' 72 46 = 1 → σ' 72 47 = nI (lwR2 t n s v).2.2.1 → σ' 72 48 = nI (lwR1 t n s v).2.2.2.1 → σ' 72 49 = nI (lwR2 t n s v).2.2.2.1 →
      (∀ i, i < (lwR2 t n s v).2.2.2.1 → σ' 106 i = (lwR2 t n s v).2.2.2.2.1 i ∧ σ' 107 i = (lwR2 t n s v).2.2.2.2.2 i) → Φ (nI (lwR2 t n s v).2.2.1) σ')
    (h0 : ¬ lawOK t n s v → ∀ σ', MF0 σ σ' → σ' 72 28 = 0 → Φ (-100 - nI (lawPl t n s v)) σ') : CTI G (d + 400) Y_X12_law [.inr (.inr 72)] σ Φ := by
  have n96 := hc.1
  refine en_X12_law ?_
  rintro _ rfl _ rfl _ rfl _ rfl _ rfl _ rfl
  have f6 : MF0 σ (zwr (zwr (zwr (zwr (zwr (zwr σ 72 52 0) 72 53 0) 72 55 0) 72 57 0) 72 60 0) 72 54 0) := ((((((MF0.wr (τ := σ) ⟨fun _ _ _ _ => rfl, fun _ _ _ => rfl⟩ (Or.inl (by decide))).wr (Or.inl (by decide))).wr (Or.inl (by decide))).wr (Or.inl (by decide))).wr (Or.inl (by decide))).wr (Or.inl (by decide)))
  have x6 : NX n (zwr (zwr (zwr (zwr (zwr (zwr σ 72 52 0) 72 53 0) 72 55 0) 72 57 0) 72 60 0) 72 54 0) 0 (0, 0, 0, s, v) (zwr (zwr (zwr (zwr (zwr (zwr σ 72 52 0) 72 53 0) 72 55 0) 72 57 0) 72 60 0) 72 54 0) := by
    refine ⟨⟨fun _ _ _ _ => rfl, fun _ _ _ _ _ _ => rfl⟩, ⟨Nat.zero_le _, Nat.zero_le _⟩, ?_, ?_, ?_, ?_, ?_, ?_, ?_⟩
    · simp only [zwr_rne, zwr_req, upd_ne, upd_eq, ne_eq, Nat.reduceEqDiff, not_false_eq_true]; rfl
    · simp only [zwr_rne, zwr_req, upd_ne, upd_eq, ne_eq, Nat.reduceEqDiff, not_false_eq_true]
    · simp only [zwr_rne, zwr_req, upd_ne, upd_eq, ne_eq, Nat.reduceEqDiff, not_false_eq_true]; rfl
    · simp only [zwr_rne, zwr_req, upd_ne, upd_eq, ne_eq, Nat.reduceEqDiff, not_false_eq_true]; rfl
    · simp only [zwr_rne, zwr_req, upd_ne, upd_eq, ne_eq, Nat.reduceEqDiff, not_false_eq_true]; rfl
    · simp only [zwr_rne, zwr_req, upd_ne, upd_eq, ne_eq, Nat.reduceEqDiff, not_false_eq_true]; exact hs
    · simp only [zwr_rne, zwr_req, upd_ne, upd_eq, ne_eq, Nat.reduceEqDiff, not_false_eq_true]; exact hv
  have n54 : zwr (zwr (zwr (zwr (zwr (zwr σ 72 52 0) 72 53 0) 72 55 0) 72 57 0) 72 60 0) 72 54 0 72 54 = 0 := zwr_same _ _ _ _
  have c6 : NT t n (zwr (zwr (zwr (zwr (zwr (zwr σ 72 52 0) 72 53 0) 72 55 0) 72 57 0) 72 60 0) 72 54 0) := ⟨hc.1, by simp only [zwr_rne, zwr_req, upd_ne, upd_eq, ne_eq, Nat.reduceEqDiff, not_false_eq_true]; exact hc.2.1, by simp only [zwr_rne, zwr_req, upd_ne, upd_eq, ne_eq, Nat.reduceEqDiff, not_false_eq_true]; exact hc.2.2⟩
  generalize zwr (zwr (zwr (zwr (zwr (zwr σ 72 52 0) 72 53 0) 72 55 0) 72 57 0) 72 60 0) 72 54 0 = ρ1 at f6 x6 n54 c6
  -- what is wrong stays so
  have tail : ∀ (ρ : zMem) (p : Nat) (σ12 : zMem), NW n ρ p σ12 → MF0 σ ρ → ¬ lawOK t n s v → lawPl t n s v = p → (CTV G (d + 399) Y_X12_blanks [.inr (.inr 72)] σ12 (fun (s13 : zMem) => if (s13 72 53) = 0 then (if (s13 72 28) ≤ (s13 72 52) then (∀ s14 : zMem, s14 = zwr s13 72 53 (0 : Int32) → (∀ s15 : zMem, s15 = zwr s14 72 28 (0 : Int32) → (if (s15 72 53) = 0 then (∀ s16 : zMem, s16 = zwr s15 72 46 (1 : Int32) → (∀ s17 : zMem, s17 = zwr s16 72 47 (s16 72 55) → (∀ s18 : zMem, s18 = zwr s17 72 48 (s17 72 56) → (∀ s19 : zMem, s19 = zwr s18 72 49 (s18 72 57) → (WJ G M_X12_law (d + 400) (RI Φ) 159 [some (.inr (.inr 72)), none, some (.inl (0 : Int32))] [] s19))))) else (Φ ((-100 : Int32) - (s14 72 52)) s15)))) else (∀ s20 : zMem, s20 = zwr s13 72 53 (1 : Int32) → (∀ s21 : zMem, s21 = zwr s20 72 28 (0 : Int32) → (if (s21 72 53) = 0 then (∀ s22 : zMem, s22 = zwr s21 72 46 (1 : Int32) → (∀ s23 : zMem, s23 = zwr s22 72 47 (s22 72 55) → (∀ s24 : zMem, s24 = zwr s23 72 48 (s23 72 56) → (∀ s25 : zMem, s25 = zwr s24 72 49 (s24 72 57) → (WJ G M_X12_law (d + 400) (RI Φ) 159 [some (.inr (.inr 72)), none, some (.inl (0 : Int32))] [] s25))))) else (Φ ((-100 : Int32) - (s20 72 52)) s21))))) else (∀ s26 : zMem, s26 = zwr s13 72 53 (1 : Int32) → (∀ s27 : zMem, s27 = zwr s26 72 28 (0 : Int32) → (if (s27 72 53) = 0 then (∀ s28 : zMem, s28 = zwr s27 72 46 (1 : Int32) → (∀ s29 : zMem, s29 = zwr s28 72 47 (s28 72 55) → (∀ s30 : zMem, s30 = zwr s29 72 48 (s29 72 56) → (∀ s31 : zMem, s31 = zwr s30 72 49 (s30 72 57) → (WJ G M_X12_law (d + 400) (RI Φ) 159 [some (.inr (.inr 72)), none, some (.inl (0 : Int32))] [] s31))))) else (Φ ((-100 : Int32) - (s26 72 52)) s27)))))) := by
    intro ρ p σ12 w f no pl
    refine m_blW w ?_
    rw [if_neg (w1 w)]
    rintro _ rfl _ rfl
    have a := w.again
    rw [if_neg (by simp only [zwr_rne, zwr_req, upd_ne, upd_eq, ne_eq, Nat.reduceEqDiff, not_false_eq_true]; decide)]
    rw [a.2.2.1, ← pl]
    exact h0 no _ ((f.nf a.1).wr (Or.inr rfl)) (zwr_same _ _ _ _)
  have mid : ∀ (ρ : zMem) (p : Nat) (σ8 : zMem), NT t n ρ → NW n ρ p σ8 → MF0 σ ρ → ¬ lawOK t n s v → lawPl t n s v = p → (∀ s9 : zMem, s9 = zwr σ8 72 56 (σ8 72 57) → (∀ s10 : zMem, s10 = zwr s9 72 54 (1 : Int32) → (CTV G (d + 399) Y_X12_needWord [.inr (.inr 72), .inl (98 : Int32), .inl (105 : Int32), .inl (110 : Int32), .inl (100 : Int32)] s10 (fun (s11 : zMem) => CTV G (d + 399) Y_X12_readOr [.inr (.inr 72)] s11 (fun (s12 : zMem) => CTV G (d + 399) Y_X12_blanks [.inr (.inr 72)] s12 (fun (s13 : zMem) => if (s13 72 53) = 0 then (if (s13 72 28) ≤ (s13 72 52) then (∀ s14 : zMem, s14 = zwr s13 72 53 (0 : Int32) → (∀ s15 : zMem, s15 = zwr s14 72 28 (0 : Int32) → (if (s15 72 53) = 0 then (∀ s16 : zMem, s16 = zwr s15 72 46 (1 : Int32) → (∀ s17 : zMem, s17 = zwr s16 72 47 (s16 72 55) → (∀ s18 : zMem, s18 = zwr s17 72 48 (s17 72 56) → (∀ s19 : zMem, s19 = zwr s18 72 49 (s18 72 57) → (WJ G M_X12_law (d + 400) (RI Φ) 159 [some (.inr (.inr 72)), none, some (.inl (0 : Int32))] [] s19))))) else (Φ ((-100 : Int32) - (s14 72 52)) s15)))) else (∀ s20 : zMem, s20 = zwr s13 72 53 (1 : Int32) → (∀ s21 : zMem, s21 = zwr s20 72 28 (0 : Int32) → (if (s21 72 53) = 0 then (∀ s22 : zMem, s22 = zwr s21 72 46 (1 : Int32) → (∀ s23 : zMem, s23 = zwr s22 72 47 (s22 72 55) → (∀ s24 : zMem, s24 = zwr s23 72 48 (s23 72 56) → (∀ s25 : zMem, s25 = zwr s24 72 49 (s24 72 57) → (WJ G M_X12_law (d + 400) (RI Φ) 159 [some (.inr (.inr 72)), none, some (.inl (0 : Int32))] [] s25))))) else (Φ ((-100 : Int32) - (s20 72 52)) s21))))) else (∀ s26 : zMem, s26 = zwr s13 72 53 (1 : Int32) → (∀ s27 : zMem, s27 = zwr s26 72 28 (0 : Int32) → (if (s27 72 53) = 0 then (∀ s28 : zMem, s28 = zwr s27 72 46 (1 : Int32) → (∀ s29 : zMem, s29 = zwr s28 72 47 (s28 72 55) → (∀ s30 : zMem, s30 = zwr s29 72 48 (s29 72 56) → (∀ s31 : zMem, s31 = zwr s30 72 49 (s30 72 57) → (WJ G M_X12_law (d + 400) (RI Φ) 159 [some (.inr (.inr 72)), none, some (.inl (0 : Int32))] [] s31))))) else (Φ ((-100 : Int32) - (s26 72 52)) s27)))))))))) := by
    intro ρ p σ8 c w f no pl
    rintro _ rfl _ rfl
    have f10 : MF0 σ (zwr (zwr σ8 72 56 (σ8 72 57)) 72 54 1) := ((f.nf w.1).wr (Or.inl (by decide))).wr (Or.inl (by decide))
    have c10 : NT t n (zwr (zwr σ8 72 56 (σ8 72 57)) 72 54 1) := ⟨c.1, by simp only [zwr_rne, zwr_req, upd_ne, upd_eq, ne_eq, Nat.reduceEqDiff, not_false_eq_true]; exact (c.mv w.1).2.1, by simp only [zwr_rne, zwr_req, upd_ne, upd_eq, ne_eq, Nat.reduceEqDiff, not_false_eq_true]; exact (c.mv w.1).2.2⟩
    have w10 : NW n (zwr (zwr σ8 72 56 (σ8 72 57)) 72 54 1) p (zwr (zwr σ8 72 56 (σ8 72 57)) 72 54 1) := ⟨⟨fun _ _ _ _ => rfl, fun _ _ _ _ _ _ => rfl⟩, w.2.1, by simp only [zwr_rne, zwr_req, upd_ne, upd_eq, ne_eq, Nat.reduceEqDiff, not_false_eq_true]; exact w.2.2.1, by simp only [zwr_rne, zwr_req, upd_ne, upd_eq, ne_eq, Nat.reduceEqDiff, not_false_eq_true]; exact w.2.2.2⟩
    generalize zwr (zwr σ8 72 56 (σ8 72 57)) 72 54 1 = ρ2 at f10 c10 w10
    refine m_wordW w10 ?_
    refine (wd_read c10 w10 ?_).2.2.2.2.2 (d + 392)
    exact tail ρ2 p ρ2 w10 f10 no pl
  have hp1 := wrd_le (t := t) (n := n) lt1002_n 4 (BL t n 0) (by decide) (BL_le (Nat.zero_le n))
  refine m_word (L := lt1002) c6 lt1002_n rfl rfl rfl rfl x6 (fun _ e1 σ7 x7 => ?_) (fun q => absurd q (bhd0 t n)) (fun _ e1 σ7 w7 => ?_)
  rotate_left
  · have e1 : ¬ (lw1 t n).1 = true := e1
    refine (wd_read c6 w7 ?_).2.2.2.2.2 (d + 392)
    refine mid ρ1 _ σ7 c6 w7 f6 (fun q => e1 q.1) ?_
    unfold lawPl
    rw [if_neg e1]
    rfl
  have e1 : (lw1 t n).1 = true := e1
  have x7 : NX n ρ1 0 (lwS1 t n s v) σ7 := x7
  have ML := (m_level (G := G) pn97 c6 (HN_p n54) (40 * n + 30)).1 0 0 (d + 399) (lwS1 t n s v) σ7
  rw [lvM0] at ML
  refine ML _ (by omega) (by decide) (by decide) (by omega) x7 (Nat.zero_le _) (fun R1 σ8 ev1 r1 => ?_)
  have er1 : lwR1 t n s v = R1 := evR_eq ev1
  obtain ⟨y1, y2, y3⟩ := ev1.good pn1 (by decide) hp1.2
  by_cases e2 : R1.1 = true
  rotate_left
  · refine mid ρ1 R1.2.1 σ8 c6 (r1.2 e2) f6 (fun q => e2 (by rw [← er1]; exact q.2.1)) ?_
    unfold lawPl
    rw [if_pos e1, if_neg (by rw [er1]; exact e2), er1]
  have x8 := r1.1 e2
  obtain ⟨y4, y5, y6, y7, y8⟩ := y3 e2
  have y4 : R1.2.2.2.1 + (lw1 t n).2 ≤ 0 + R1.2.1 := y4
  have f8 := f6.nf x8.1
  have c8 := c6.mv x8.1
  obtain ⟨a1, ⟨a2, a3⟩, a4, a5, a6, a7, a8, a9, a10⟩ := x8
  rintro _ rfl _ rfl
  have f10 : MF0 σ (zwr (zwr σ8 72 56 (σ8 72 57)) 72 54 1) := (f8.wr (Or.inl (by decide))).wr (Or.inl (by decide))
  have c10 : NT t n (zwr (zwr σ8 72 56 (σ8 72 57)) 72 54 1) := ⟨c8.1, by simp only [zwr_rne, zwr_req, upd_ne, upd_eq, ne_eq, Nat.reduceEqDiff, not_false_eq_true]; exact c8.2.1, by simp only [zwr_rne, zwr_req, upd_ne, upd_eq, ne_eq, Nat.reduceEqDiff, not_false_eq_true]; exact c8.2.2⟩
  have x10 : NX n (zwr (zwr σ8 72 56 (σ8 72 57)) 72 54 1) 0 R1.2 (zwr (zwr σ8 72 56 (σ8 72 57)) 72 54 1) := by
    refine ⟨⟨fun _ _ _ _ => rfl, fun _ _ _ _ _ _ => rfl⟩, ⟨a2, a3⟩, ?_, ?_, ?_, ?_, ?_, ?_, ?_⟩
    · simp only [zwr_rne, zwr_req, upd_ne, upd_eq, ne_eq, Nat.reduceEqDiff, not_false_eq_true]; exact a4
    · simp only [zwr_rne, zwr_req, upd_ne, upd_eq, ne_eq, Nat.reduceEqDiff, not_false_eq_true]; exact a5
    · simp only [zwr_rne, zwr_req, upd_ne, upd_eq, ne_eq, Nat.reduceEqDiff, not_false_eq_true]; exact a6
    · simp only [zwr_rne, zwr_req, upd_ne, upd_eq, ne_eq, Nat.reduceEqDiff, not_false_eq_true]; exact a7
    · simp only [zwr_rne, zwr_req, upd_ne, upd_eq, ne_eq, Nat.reduceEqDiff, not_false_eq_true]; exact a8
    · simp only [zwr_rne, zwr_req, upd_ne, upd_eq, ne_eq, Nat.reduceEqDiff, not_false_eq_true]; exact a9
    · simp only [zwr_rne, zwr_req, upd_ne, upd_eq, ne_eq, Nat.reduceEqDiff, not_false_eq_true]; exact a10
  have m56 : zwr (zwr σ8 72 56 (σ8 72 57)) 72 54 1 72 56 = nI R1.2.2.2.1 := by simp only [zwr_rne, zwr_req, upd_ne, upd_eq, ne_eq, Nat.reduceEqDiff, not_false_eq_true]; exact a7
  have n54' : zwr (zwr σ8 72 56 (σ8 72 57)) 72 54 1 72 54 = 1 := zwr_same _ _ _ _
  generalize zwr (zwr σ8 72 56 (σ8 72 57)) 72 54 1 = ρ2 at f10 c10 x10 m56 n54'
  have eP2 : lwP2 t n s v = BL t n R1.2.1 := by unfold lwP2; rw [er1]
  have hP2 : BL t n R1.2.1 ≤ n := BL_le y2
  have gP2 := BL_ge t n R1.2.1
  have e33 : lw3 t n s v = wrd t n lt1003 4 (BL t n R1.2.1) := by unfold lw3; rw [eP2]
  have hp3 := wrd_le (t := t) (n := n) lt1003_n 4 (BL t n R1.2.1) (by decide) hP2
  refine m_word (L := lt1003) c10 lt1003_n rfl rfl rfl rfl x10 (fun e3 e4 σ11 x11 => ?_) (fun e3 σ11 w11 => ?_) (fun e3 e4 σ11 w11 => ?_)
  rotate_left
  · have e3' : bhd t (lwP2 t n s v) := by rw [eP2]; exact e3
    refine (wd_read c10 w11 ?_).2.2.2.2.2 (d + 392)
    refine tail ρ2 _ σ11 w11 f10 (fun q => q.2.2.1 e3') ?_
    unfold lawPl
    rw [if_pos e1, if_pos (by rw [er1]; exact e2), if_pos e3', eP2]
  · have e3' : ¬ bhd t (lwP2 t n s v) := by rw [eP2]; exact e3
    have e4' : ¬ (lw3 t n s v).1 = true := by rw [e33]; exact e4
    refine (wd_read c10 w11 ?_).2.2.2.2.2 (d + 392)
    refine tail ρ2 _ σ11 w11 f10 (fun q => e4' q.2.2.2.1) ?_
    unfold lawPl
    rw [if_pos e1, if_pos (by rw [er1]; exact e2), if_neg e3', if_neg e4', e33]
  have e3' : ¬ bhd t (lwP2 t n s v) := by rw [eP2]; exact e3
  have e4' : (lw3 t n s v).1 = true := by rw [e33]; exact e4
  have eS3 : lwS3 t n s v = ((lw3 t n s v).2, R1.2.2.1 + 1, R1.2.2.2) := by unfold lwS3; rw [er1]
  have hS3 : (lwS3 t n s v).1 ≤ n := by rw [eS3, e33]; exact hp3.2
  have kS3 : (lwS3 t n s v).2.2.1 = R1.2.2.2.1 := by rw [eS3]
  have gS3 : R1.2.2.2.1 ≤ (lwS3 t n s v).1 := by
    rw [eS3, e33]
    show R1.2.2.2.1 ≤ (wrd t n lt1003 4 (BL t n R1.2.1)).2
    omega
  have x11 : NX n ρ2 0 (lwS3 t n s v) σ11 := by rw [eS3, e33]; exact x11
  have ML2 := (m_level (G := G) bn97 c10 (HN_b n54') (40 * n + 30)).1 0 0 (d + 399) (lwS3 t n s v) σ11
  rw [lvM0] at ML2
  refine ML2 _ (by omega) (by decide) (by decide) (by omega) x11 (by rw [kS3]; exact gS3) (fun R2 σ12 ev2 r2 => ?_)
  have er2 : lwR2 t n s v = R2 := evR_eq ev2
  obtain ⟨u1, u2, u3⟩ := ev2.good bn1 (by decide) hS3
  by_cases e5 : R2.1 = true
  rotate_left
  · refine tail ρ2 R2.2.1 σ12 (r2.2 e5) f10 (fun q => e5 (by rw [← er2]; exact q.2.2.2.2.1)) ?_
    unfold lawPl
    rw [if_pos e1, if_pos (by rw [er1]; exact e2), if_neg e3', if_pos e4', if_neg (by rw [er2]; exact e5), er2]
  have pl : lawPl t n s v = BL t n R2.2.1 := by
    unfold lawPl
    rw [if_pos e1, if_pos (by rw [er1]; exact e2), if_neg e3', if_pos e4', if_pos (by rw [er2]; exact e5), er2]
  refine m_blY c10 (r2.1 e5) (fun σ13 x13 => ?_)
  have f13 := f10.nf x13.1
  have c13 := c10.mv x13.1
  have m56' : σ13 72 56 = nI R1.2.2.2.1 := by rw [x13.1.2 56 (by decide) (by decide) (by decide) (by decide) (by decide)]; exact m56
  obtain ⟨b1, ⟨b2, b3⟩, b4, b5, b6, b7, b8, b9, b10⟩ := x13
  have b2 : BL t n R2.2.1 ≤ n := b2
  have b4 : σ13 72 52 = nI (BL t n R2.2.1) := b4
  rw [if_pos b5, c13.2.1, b4]
  have em1 : gtx t n (BL t n R2.2.1) = -1 ↔ n ≤ BL t n R2.2.1 := by
    refine ⟨fun q => ?_, fun q => gtx_ge q⟩
    refine Classical.byContradiction (fun w => ?_)
    rw [gtx_lt (by omega)] at q
    have := ht (BL t n R2.2.1) (by omega)
    rw [q] at this
    exact absurd this (by decide)
  by_cases e6 : n ≤ BL t n R2.2.1
  rotate_left
  · rw [if_neg (nI_ge (by omega) (by omega))]
    rintro _ rfl _ rfl
    rw [if_neg (by simp only [zwr_rne, zwr_req, upd_ne, upd_eq, ne_eq, Nat.reduceEqDiff, not_false_eq_true]; decide)]
    have ep : zwr σ13 72 53 1 72 52 = nI (lawPl t n s v) := by simp only [zwr_rne, zwr_req, upd_ne, upd_eq, ne_eq, Nat.reduceEqDiff, not_false_eq_true]; rw [pl]; exact b4
    rw [ep]
    refine h0 (fun q => e6 (em1.1 (by rw [← er2]; exact q.2.2.2.2.2))) _ ((f13.wr (Or.inl (by decide))).wr (Or.inr rfl)) (zwr_same _ _ _ _)
  rw [if_pos (nI_le e6 (by omega))]
  have ok : lawOK t n s v := ⟨e1, by rw [er1]; exact e2, e3', e4', by rw [er2]; exact e5, by rw [er2]; exact em1.2 e6⟩
  rw [er1, er2] at h1
  rintro _ rfl _ rfl
  rw [if_pos (by simp only [zwr_rne, zwr_req, upd_ne, upd_eq, ne_eq, Nat.reduceEqDiff, not_false_eq_true])]
  rintro _ rfl _ rfl _ rfl _ rfl
  simp only [zwr_rne, zwr_req, upd_ne, upd_eq, ne_eq, Nat.reduceEqDiff, not_false_eq_true]
  rw [b6, m56', b7]
  -- the steps are kept
  have fz : ∀ a, a ≠ 72 → a ≠ 106 → a ≠ 107 → a ≠ 108 → a ≠ 109 → zwr (zwr (zwr (zwr (zwr (zwr σ13 72 53 0) 72 28 0) 72 46 1) 72 47 (nI (sBl t n R2.2).2.1)) 72 48 (nI R1.2.2.2.1)) 72 49 (nI (sBl t n R2.2).2.2.1) a = σ a := by
    intro a q1 q2 q3 q4 q5
    rw [zwr_rne q1, zwr_rne q1, zwr_rne q1, zwr_rne q1, zwr_rne q1, zwr_rne q1]
    exact f13.1 a q1 q4 q5
  have fj : ∀ j, scj j = false → j ≠ 28 → j ≠ 46 → j ≠ 47 → j ≠ 48 → j ≠ 49 → zwr (zwr (zwr (zwr (zwr (zwr σ13 72 53 0) 72 28 0) 72 46 1) 72 47 (nI (sBl t n R2.2).2.1)) 72 48 (nI R1.2.2.2.1)) 72 49 (nI (sBl t n R2.2).2.2.1) 72 j = σ 72 j := by
    intro j q0 q1 q2 q3 q4 q5
    have q6 : j ≠ 53 := by rintro rfl; exact absurd q0 (by decide)
    rw [zwr_req, upd_ne q5, zwr_req, upd_ne q4, zwr_req, upd_ne q3, zwr_req, upd_ne q2, zwr_req, upd_ne q1, zwr_req, upd_ne q6]
    exact f13.2 j q0 q1
  have g28 : zwr (zwr (zwr (zwr (zwr (zwr σ13 72 53 0) 72 28 0) 72 46 1) 72 47 (nI (sBl t n R2.2).2.1)) 72 48 (nI R1.2.2.2.1)) 72 49 (nI (sBl t n R2.2).2.2.1) 72 28 = 0 := by simp only [zwr_rne, zwr_req, upd_ne, upd_eq, ne_eq, Nat.reduceEqDiff, not_false_eq_true]
  have g46 : zwr (zwr (zwr (zwr (zwr (zwr σ13 72 53 0) 72 28 0) 72 46 1) 72 47 (nI (sBl t n R2.2).2.1)) 72 48 (nI R1.2.2.2.1)) 72 49 (nI (sBl t n R2.2).2.2.1) 72 46 = 1 := by simp only [zwr_rne, zwr_req, upd_ne, upd_eq, ne_eq, Nat.reduceEqDiff, not_false_eq_true]
  have g47 : zwr (zwr (zwr (zwr (zwr (zwr σ13 72 53 0) 72 28 0) 72 46 1) 72 47 (nI (sBl t n R2.2).2.1)) 72 48 (nI R1.2.2.2.1)) 72 49 (nI (sBl t n R2.2).2.2.1) 72 47 = nI R2.2.2.1 := by simp only [zwr_rne, zwr_req, upd_ne, upd_eq, ne_eq, Nat.reduceEqDiff, not_false_eq_true]; rfl
  have g48 : zwr (zwr (zwr (zwr (zwr (zwr σ13 72 53 0) 72 28 0) 72 46 1) 72 47 (nI (sBl t n R2.2).2.1)) 72 48 (nI R1.2.2.2.1)) 72 49 (nI (sBl t n R2.2).2.2.1) 72 48 = nI R1.2.2.2.1 := by simp only [zwr_rne, zwr_req, upd_ne, upd_eq, ne_eq, Nat.reduceEqDiff, not_false_eq_true]
  have g49 : zwr (zwr (zwr (zwr (zwr (zwr σ13 72 53 0) 72 28 0) 72 46 1) 72 47 (nI (sBl t n R2.2).2.1)) 72 48 (nI R1.2.2.2.1)) 72 49 (nI (sBl t n R2.2).2.2.1) 72 49 = nI R2.2.2.2.1 := by simp only [zwr_rne, zwr_req, upd_ne, upd_eq, ne_eq, Nat.reduceEqDiff, not_false_eq_true]; rfl
  have g108 : zwr (zwr (zwr (zwr (zwr (zwr σ13 72 53 0) 72 28 0) 72 46 1) 72 47 (nI (sBl t n R2.2).2.1)) 72 48 (nI R1.2.2.2.1)) 72 49 (nI (sBl t n R2.2).2.2.1) 108 = R2.2.2.2.2.1 := by simp only [zwr_rne, zwr_req, upd_ne, upd_eq, ne_eq, Nat.reduceEqDiff, not_false_eq_true]; exact b9
  have g109 : zwr (zwr (zwr (zwr (zwr (zwr σ13 72 53 0) 72 28 0) 72 46 1) 72 47 (nI (sBl t n R2.2).2.1)) 72 48 (nI R1.2.2.2.1)) 72 49 (nI (sBl t n R2.2).2.2.1) 109 = R2.2.2.2.2.2 := by simp only [zwr_rne, zwr_req, upd_ne, upd_eq, ne_eq, Nat.reduceEqDiff, not_false_eq_true]; exact b10
  have b3 : R2.2.2.2.1 ≤ 96 := b3
  generalize zwr (zwr (zwr (zwr (zwr (zwr σ13 72 53 0) 72 28 0) 72 46 1) 72 47 (nI (sBl t n R2.2).2.1)) 72 48 (nI R1.2.2.2.1)) 72 49 (nI (sBl t n R2.2).2.2.1) = σz at fz fj g28 g46 g47 g48 g49 g108 g109
  have Lc : ∀ m i : Nat, i + m = R2.2.2.2.1 → ∀ τ : zMem, (∀ a, a ≠ 106 → a ≠ 107 → τ a = σz a) → (∀ j, j < i → τ 106 j = R2.2.2.2.2.1 j ∧ τ 107 j = R2.2.2.2.2.2 j) → WJ G M_X12_law (d + 400) (RI Φ) 159 [some (.inr (.inr 72)), none, some (.inl (nI i))] [] τ := by
    intro m
    induction m with
    | zero =>
      intro i hi τ ft tr
      refine rg_X12_law_159 ?_
      have : i = R2.2.2.2.1 := by omega
      subst this
      have e72 : τ 72 = σz 72 := ft 72 (by decide) (by decide)
      rw [e72, g49, if_pos (nI_le (by omega) (by omega)), g47]
      refine h1 ok τ (fun a q1 q2 q3 q4 q5 => (ft a q2 q3).trans (fz a q1 q2 q3 q4 q5)) (fun j q0 q1 q2 q3 q4 q5 => by rw [e72]; exact fj j q0 q1 q2 q3 q4 q5) (by rw [e72]; exact g28) (by rw [e72]; exact g46) (by rw [e72]; exact g47) (by rw [e72]; exact g48) (by rw [e72]; exact g49) tr
    | succ m ih =>
      intro i hi τ ft tr
      refine rg_X12_law_159 ?_
      have e72 : τ 72 = σz 72 := ft 72 (by decide) (by decide)
      have e108 : τ 108 = R2.2.2.2.2.1 := (ft 108 (by decide) (by decide)).trans g108
      have e109 : τ 109 = R2.2.2.2.2.2 := (ft 109 (by decide) (by decide)).trans g109
      rw [e72, g49, if_neg (nI_ge (by omega) (by omega)), cln (by omega), e108]
      refine ⟨vin (by omega), vin (by omega), ?_⟩
      rintro _ rfl
      rw [zwr_rne (show (109 : Nat) ≠ 106 by decide), e109, nI_1]
      refine ⟨vin (by omega), vin (by omega), ?_⟩
      rintro _ rfl
      refine ih (i + 1) (by omega) _ (fun a q1 q2 => by rw [zwr_rne q2, zwr_rne q1]; exact ft a q1 q2) (fun j hj => ?_)
      simp only [zwr_rne, zwr_req, upd_ne, upd_eq, ne_eq, Nat.reduceEqDiff, not_false_eq_true]
      by_cases e : j = i
      · subst e; rw [upd_eq, upd_eq]; exact ⟨rfl, rfl⟩
      · rw [upd_ne e, upd_ne e]; exact tr j (by omega)
  exact Lc R2.2.2.2.1 0 (by omega) σz (fun _ _ _ => rfl) (fun j hj => absurd hj (Nat.not_lt_zero j))
