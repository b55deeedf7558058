-- the reference reads a law
def NF (ρ σ : zMem) : Prop := (∀ a, a ≠ 72 → a ≠ 108 → a ≠ 109 → σ a = ρ a) ∧ ∀ j, j ≠ 52 → j ≠ 53 → j ≠ 55 → j ≠ 57 → j ≠ 60 → σ 72 j = ρ 72 j
theorem NF.wr {ρ σ : zMem} (h : NF ρ σ) {k j : Nat} {v : Int32} (hk : k = 108 ∨ k = 109 ∨ (k = 72 ∧ (j = 52 ∨ j = 53 ∨ j = 55 ∨ j = 57 ∨ j = 60))) : NF ρ (zwr σ k j v) := by
  obtain ⟨h1, h2⟩ := h
  refine ⟨fun a a1 a2 a3 => ?_, fun i i1 i2 i3 i4 i5 => ?_⟩
  · rw [zwr_rne (by omega)]; exact h1 a a1 a2 a3
  · by_cases e : k = 72
    · subst e
      rw [zwr_req, upd_ne (by omega)]; exact h2 i i1 i2 i3 i4 i5
    · rw [zwr_rne (by omega)]; exact h2 i i1 i2 i3 i4 i5
def NT (t : Nat → Int32) (n : Nat) (σ : zMem) : Prop := n ≤ 96 ∧ σ 72 28 = nI n ∧ ∀ i, i < n → σ 92 i = t i
theorem NT.mv {t : Nat → Int32} {n : Nat} {ρ σ : zMem} (h : NT t n ρ) (f : NF ρ σ) : NT t n σ := ⟨h.1, by rw [f.2 28 (by decide) (by decide) (by decide) (by decide) (by decide)]; exact h.2.1, by rw [f.1 92 (by decide) (by decide) (by decide)]; exact h.2.2⟩
def NX (n : Nat) (ρ : zMem) (dep : Nat) (S : zPS) (σ : zMem) : Prop := NF ρ σ ∧ (S.1 ≤ n ∧ S.2.2.1 ≤ 96) ∧ σ 72 52 = nI S.1 ∧ σ 72 53 = 0 ∧ σ 72 55 = nI S.2.1 ∧ σ 72 57 = nI S.2.2.1 ∧ σ 72 60 = nI dep ∧ σ 108 = S.2.2.2.1 ∧ σ 109 = S.2.2.2.2
def NW (n : Nat) (ρ : zMem) (p : Nat) (σ : zMem) : Prop := NF ρ σ ∧ p ≤ n ∧ σ 72 52 = nI p ∧ σ 72 53 = 1
def NR (n : Nat) (ρ : zMem) (dep : Nat) (R : Bool × zPS) (σ : zMem) : Prop := (R.1 = true → NX n ρ dep R.2 σ) ∧ (¬ R.1 = true → NW n ρ R.2.1 σ)
theorem NX.ok {n : Nat} {ρ : zMem} {dep : Nat} {S : zPS} {σ : zMem} (h : NX n ρ dep S σ) : NR n ρ dep (true, S) σ := ⟨fun _ => h, fun w => absurd rfl w⟩
theorem NW.no {n : Nat} {ρ : zMem} {dep : Nat} {S : zPS} {σ : zMem} (h : NW n ρ S.1 σ) : NR n ρ dep (false, S) σ := ⟨fun w => (by cases w), fun _ => h⟩
theorem NW.nr {n : Nat} {ρ : zMem} {dep : Nat} {R : Bool × zPS} {σ : zMem} (h : NW n ρ R.2.1 σ) (e : ¬ R.1 = true) : NR n ρ dep R σ := ⟨fun w => absurd w e, fun _ => h⟩
theorem NW.wr {n : Nat} {ρ : zMem} {p j : Nat} {v : Int32} {σ : zMem} (h : NW n ρ p σ) (hj : j = 55 ∨ j = 57 ∨ j = 60) : NW n ρ p (zwr σ 72 j v) := by
  obtain ⟨h1, h2, h3, h4⟩ := h
  refine ⟨h1.wr (by omega), h2, ?_, ?_⟩
  · rw [zwr_req, upd_ne (by omega)]; exact h3
  · rw [zwr_req, upd_ne (by omega)]; exact h4
theorem NX.wrong {n : Nat} {ρ : zMem} {dep : Nat} {S : zPS} {σ : zMem} (h : NX n ρ dep S σ) : NW n ρ S.1 (zwr σ 72 53 1) := by
  obtain ⟨h1, ⟨h2, h3⟩, h4, h5, h6, h7, h8, h9, h10⟩ := h
  refine ⟨h1.wr (by omega), h2, ?_, zwr_same _ _ _ _⟩
  rw [zwr_req, upd_ne (by omega)]; exact h4
theorem NX.adv {n : Nat} {ρ : zMem} {dep : Nat} {S : zPS} {σ : zMem} (h : NX n ρ dep S σ) (lt : S.1 < n) : NX n ρ dep (sAdv S) (zwr (zwr σ 72 52 ((σ 72 52) + 1)) 72 55 (((zwr σ 72 52 ((σ 72 52) + 1)) 72 55) + 1)) := by
  obtain ⟨h1, ⟨h2, h3⟩, h4, h5, h6, h7, h8, h9, h10⟩ := h
  refine ⟨(h1.wr (by omega)).wr (by omega), ⟨by show S.1 + 1 ≤ n; omega, h3⟩, ?_, ?_, ?_, ?_, ?_, ?_, ?_⟩
  · simp only [zwr_rne, zwr_req, upd_ne, upd_eq, ne_eq, Nat.reduceEqDiff, not_false_eq_true]; rw [h4, nI_1]; rfl
  · simp only [zwr_rne, zwr_req, upd_ne, upd_eq, ne_eq, Nat.reduceEqDiff, not_false_eq_true]; exact h5
  · simp only [zwr_rne, zwr_req, upd_ne, upd_eq, ne_eq, Nat.reduceEqDiff, not_false_eq_true]; rw [h6, nI_1]; rfl
  · simp only [zwr_rne, zwr_req, upd_ne, upd_eq, ne_eq, Nat.reduceEqDiff, not_false_eq_true]; exact h7
  · simp only [zwr_rne, zwr_req, upd_ne, upd_eq, ne_eq, Nat.reduceEqDiff, not_false_eq_true]; exact h8
  · simp only [zwr_rne, zwr_req, upd_ne, upd_eq, ne_eq, Nat.reduceEqDiff, not_false_eq_true]; exact h9
  · simp only [zwr_rne, zwr_req, upd_ne, upd_eq, ne_eq, Nat.reduceEqDiff, not_false_eq_true]; exact h10
theorem NX.stp {n : Nat} {ρ : zMem} {dep : Nat} {S : zPS} {σ : zMem} (h : NX n ρ dep S σ) (lt : S.1 < n) : NX n ρ dep (sAt S (S.1 + 1)) (zwr σ 72 52 ((σ 72 52) + 1)) := by
  obtain ⟨h1, ⟨h2, h3⟩, h4, h5, h6, h7, h8, h9, h10⟩ := h
  refine ⟨h1.wr (by omega), ⟨by show S.1 + 1 ≤ n; omega, h3⟩, ?_, ?_, ?_, ?_, ?_, ?_, ?_⟩
  · simp only [zwr_rne, zwr_req, upd_ne, upd_eq, ne_eq, Nat.reduceEqDiff, not_false_eq_true]; rw [h4, nI_1]; rfl
  · simp only [zwr_rne, zwr_req, upd_ne, upd_eq, ne_eq, Nat.reduceEqDiff, not_false_eq_true]; exact h5
  · simp only [zwr_rne, zwr_req, upd_ne, upd_eq, ne_eq, Nat.reduceEqDiff, not_false_eq_true]; exact h6
  · simp only [zwr_rne, zwr_req, upd_ne, upd_eq, ne_eq, Nat.reduceEqDiff, not_false_eq_true]; exact h7
  · simp only [zwr_rne, zwr_req, upd_ne, upd_eq, ne_eq, Nat.reduceEqDiff, not_false_eq_true]; exact h8
  · simp only [zwr_rne, zwr_req, upd_ne, upd_eq, ne_eq, Nat.reduceEqDiff, not_false_eq_true]; exact h9
  · simp only [zwr_rne, zwr_req, upd_ne, upd_eq, ne_eq, Nat.reduceEqDiff, not_false_eq_true]; exact h10
theorem NX.word {n : Nat} {ρ : zMem} {dep : Nat} {S : zPS} {σ : zMem} (h : NX n ρ dep S σ) : NX n ρ dep (S.1, S.2.1 + 1, S.2.2) (zwr σ 72 55 ((σ 72 55) + 1)) := by
  obtain ⟨h1, ⟨h2, h3⟩, h4, h5, h6, h7, h8, h9, h10⟩ := h
  refine ⟨h1.wr (by omega), ⟨h2, h3⟩, ?_, ?_, ?_, ?_, ?_, ?_, ?_⟩
  · simp only [zwr_rne, zwr_req, upd_ne, upd_eq, ne_eq, Nat.reduceEqDiff, not_false_eq_true]; exact h4
  · simp only [zwr_rne, zwr_req, upd_ne, upd_eq, ne_eq, Nat.reduceEqDiff, not_false_eq_true]; exact h5
  · simp only [zwr_rne, zwr_req, upd_ne, upd_eq, ne_eq, Nat.reduceEqDiff, not_false_eq_true]; rw [h6, nI_1]
  · simp only [zwr_rne, zwr_req, upd_ne, upd_eq, ne_eq, Nat.reduceEqDiff, not_false_eq_true]; exact h7
  · simp only [zwr_rne, zwr_req, upd_ne, upd_eq, ne_eq, Nat.reduceEqDiff, not_false_eq_true]; exact h8
  · simp only [zwr_rne, zwr_req, upd_ne, upd_eq, ne_eq, Nat.reduceEqDiff, not_false_eq_true]; exact h9
  · simp only [zwr_rne, zwr_req, upd_ne, upd_eq, ne_eq, Nat.reduceEqDiff, not_false_eq_true]; exact h10
theorem NX.right {n : Nat} {ρ : zMem} {dep : Nat} {S : zPS} {σ : zMem} (h : NX n ρ dep S σ) : NX n ρ dep S (zwr σ 72 53 0) := by
  obtain ⟨h1, ⟨h2, h3⟩, h4, h5, h6, h7, h8, h9, h10⟩ := h
  refine ⟨h1.wr (by omega), ⟨h2, h3⟩, ?_, ?_, ?_, ?_, ?_, ?_, ?_⟩
  · simp only [zwr_rne, zwr_req, upd_ne, upd_eq, ne_eq, Nat.reduceEqDiff, not_false_eq_true]; exact h4
  · simp only [zwr_rne, zwr_req, upd_ne, upd_eq, ne_eq, Nat.reduceEqDiff, not_false_eq_true]
  · simp only [zwr_rne, zwr_req, upd_ne, upd_eq, ne_eq, Nat.reduceEqDiff, not_false_eq_true]; exact h6
  · simp only [zwr_rne, zwr_req, upd_ne, upd_eq, ne_eq, Nat.reduceEqDiff, not_false_eq_true]; exact h7
  · simp only [zwr_rne, zwr_req, upd_ne, upd_eq, ne_eq, Nat.reduceEqDiff, not_false_eq_true]; exact h8
  · simp only [zwr_rne, zwr_req, upd_ne, upd_eq, ne_eq, Nat.reduceEqDiff, not_false_eq_true]; exact h9
  · simp only [zwr_rne, zwr_req, upd_ne, upd_eq, ne_eq, Nat.reduceEqDiff, not_false_eq_true]; exact h10
theorem NX.deep {n : Nat} {ρ : zMem} {dep dep' : Nat} {S : zPS} {σ : zMem} {v : Int32} (h : NX n ρ dep S σ) (e : v = nI dep') : NX n ρ dep' S (zwr σ 72 60 v) := by
  obtain ⟨h1, ⟨h2, h3⟩, h4, h5, h6, h7, h8, h9, h10⟩ := h
  refine ⟨h1.wr (by omega), ⟨h2, h3⟩, ?_, ?_, ?_, ?_, ?_, ?_, ?_⟩
  · simp only [zwr_rne, zwr_req, upd_ne, upd_eq, ne_eq, Nat.reduceEqDiff, not_false_eq_true]; exact h4
  · simp only [zwr_rne, zwr_req, upd_ne, upd_eq, ne_eq, Nat.reduceEqDiff, not_false_eq_true]; exact h5
  · simp only [zwr_rne, zwr_req, upd_ne, upd_eq, ne_eq, Nat.reduceEqDiff, not_false_eq_true]; exact h6
  · simp only [zwr_rne, zwr_req, upd_ne, upd_eq, ne_eq, Nat.reduceEqDiff, not_false_eq_true]; exact h7
  · simp only [zwr_rne, zwr_req, upd_ne, upd_eq, ne_eq, Nat.reduceEqDiff, not_false_eq_true]; exact e
  · simp only [zwr_rne, zwr_req, upd_ne, upd_eq, ne_eq, Nat.reduceEqDiff, not_false_eq_true]; exact h9
  · simp only [zwr_rne, zwr_req, upd_ne, upd_eq, ne_eq, Nat.reduceEqDiff, not_false_eq_true]; exact h10
theorem m_here {G : zGT} {d : Nat} {Φ : Int32 → zMem → Prop} {σ : zMem} {t : Nat → Int32} {n p : Nat} (hc : NT t n σ) (h2 : σ 72 52 = nI p) (hp : p ≤ n) (h : Φ (gtx t n p) σ) : CTI G d Y_X12_here [.inr (.inr 72)] σ Φ := by
  obtain ⟨c1, c2, c3⟩ := hc
  refine en_X12_here ?_
  rw [c2, h2]
  by_cases g : n ≤ p
  · rw [if_pos (nI_le (by omega) (by omega))]
    rw [gtx_ge g] at h
    exact h
  · rw [if_neg (nI_ge (by omega) (by omega)), cln (by omega), c3 p (by omega)]
    rw [gtx_lt (by omega)] at h
    exact ⟨vin (by omega), h⟩
theorem m_hx {G : zGT} {d : Nat} {Φ : Int32 → zMem → Prop} {t : Nat → Int32} {n : Nat} {ρ : zMem} {dep : Nat} {S : zPS} {σ : zMem} (hc : NT t n ρ) (hx : NX n ρ dep S σ) (h : Φ (gtx t n S.1) σ) : CTI G d Y_X12_here [.inr (.inr 72)] σ Φ :=
  m_here (hc.mv hx.1) hx.2.2.1 hx.2.1.1 h
theorem m_isDigit {G : zGT} {d : Nat} {Φ : Int32 → zMem → Prop} {σ : zMem} {v : Int32} (h1 : isD v → Φ 1 σ) (h0 : ¬ isD v → Φ 0 σ) : CTI G (d + 1) Y_X12_isDigit [.inl v] σ Φ := by
  refine en_X12_isDigit ?_
  have t48 : (48 : Int32).toInt = 48 := rfl
  have t57 : (57 : Int32).toInt = 57 := rfl
  refine m_isIn (fun a b => ?_) (fun a => ?_)
  · rw [if_pos (Or.inr rfl)]
    rw [t48] at a
    rw [t57] at b
    exact h1 ⟨a, b⟩
  · rw [if_pos (Or.inl rfl)]
    rw [t48, t57] at a
    exact h0 (fun q => by unfold isD at q; omega)
theorem m_isLetter {G : zGT} {d : Nat} {Φ : Int32 → zMem → Prop} {σ : zMem} {v : Int32} (h1 : isL v → Φ 1 σ) (h0 : ¬ isL v → Φ 0 σ) : CTI G (d + 2) Y_X12_isLetterOrDigit [.inl v] σ Φ := by
  refine en_X12_isLetterOrDigit ?_
  have t97 : (97 : Int32).toInt = 97 := rfl
  have t122 : (122 : Int32).toInt = 122 := rfl
  have t65 : (65 : Int32).toInt = 65 := rfl
  have t90 : (90 : Int32).toInt = 90 := rfl
  refine m_isDigit (fun q => ?_) (fun q => ?_)
  · rw [if_neg (by decide)]
    exact h1 (Or.inl q)
  · rw [if_pos rfl]
    refine m_isIn (fun a b => ?_) (fun a => ?_)
    · rw [if_neg (by decide)]
      rw [t97] at a
      rw [t122] at b
      exact h1 (Or.inr (Or.inl ⟨a, b⟩))
    · rw [if_pos rfl]
      rw [t97, t122] at a
      refine m_isIn (fun b c => ?_) (fun b => ?_)
      · rw [if_neg (by decide)]
        rw [t65] at b
        rw [t90] at c
        exact h1 (Or.inr (Or.inr ⟨b, c⟩))
      · rw [if_pos rfl]
        rw [t65, t90] at b
        exact h0 (fun z => by rcases z with z | z | z; exact q z; omega; omega)
theorem rg_X12_blanks_0 {G : zGT} {d : Nat} {Φ : zMem → Prop} {σ : zMem}
  (h : if (σ 72 53) = 0 then (CTI G d Y_X12_here [.inr (.inr 72)] σ (fun (r2 : Int32) (s1 : zMem) => if r2 = (32 : Int32) then (∀ s3 : zMem, s3 = zwr s1 72 52 ((s1 72 52) + (1 : Int32)) → (WJ G M_X12_blanks (d + 1) (RV Φ) 0 [some (.inr (.inr 72))] [] s3)) else (Φ s1))) else (Φ σ)) :
  WJ G M_X12_blanks (d + 1) (RV Φ) 0 [some (.inr (.inr 72))] [] σ :=
  ZP_ok ok_X12_blanks 18 0 _ _ _ (show ZP G M_X12_blanks (d + 1) (RV Φ) sp_X12_blanks 18 0 [some (.inr (.inr 72))] [] σ from h)
theorem m_blY {G : zGT} {d : Nat} {Φ : zMem → Prop} {t : Nat → Int32} {n : Nat} {ρ : zMem} {dep : Nat} {S : zPS} {σ : zMem} (hc : NT t n ρ) (hx : NX n ρ dep S σ) (h : ∀ σ', NX n ρ dep (sBl t n S) σ' → Φ σ') : CTV G (d + 1) Y_X12_blanks [.inr (.inr 72)] σ Φ := by
  have L : ∀ m p : Nat, n - p ≤ m → p ≤ n → BL t n p = BL t n S.1 → ∀ τ : zMem, NX n ρ dep (sAt S p) τ → if (τ 72 53) = 0 then (CTI G d Y_X12_here [.inr (.inr 72)] τ (fun (r2 : Int32) (s1 : zMem) => if r2 = (32 : Int32) then (∀ s3 : zMem, s3 = zwr s1 72 52 ((s1 72 52) + (1 : Int32)) → (WJ G M_X12_blanks (d + 1) (RV Φ) 0 [some (.inr (.inr 72))] [] s3)) else (Φ s1))) else (Φ τ) := by
    intro m
    induction m with
    | zero =>
      intro p hm hp hB τ ht
      rw [if_pos ht.2.2.2.1]
      refine m_hx hc ht ?_
      have g1 : gtx t n p = -1 := gtx_ge (by omega)
      have b1 : BL t n p = p := BL_n (by rw [g1]; decide)
      rw [if_neg (by show ¬ gtx t n p = 32; rw [g1]; decide)]
      refine h τ ?_
      have e : sBl t n S = sAt S p := by unfold sBl; rw [← hB, b1]; rfl
      rw [e]; exact ht
    | succ m ih =>
      intro p hm hp hB τ ht
      rw [if_pos ht.2.2.2.1]
      refine m_hx hc ht ?_
      show if gtx t n p = 32 then _ else _
      by_cases q : gtx t n p = 32
      · rw [if_pos q]
        rintro _ rfl
        have lt : p < n := gtx_in (by rw [q]; decide)
        exact rg_X12_blanks_0 (ih (p + 1) (by omega) (by omega) (by rw [← BL_y q]; exact hB) _ (ht.stp lt))
      · rw [if_neg q]
        have b1 : BL t n p = p := BL_n q
        refine h τ ?_
        have e : sBl t n S = sAt S p := by unfold sBl; rw [← hB, b1]; rfl
        rw [e]; exact ht
  exact en_X12_blanks (L (n - S.1) S.1 (Nat.le_refl _) hx.2.1.1 rfl σ hx)
theorem w1 {n : Nat} {ρ : zMem} {p : Nat} {σ : zMem} (h : NW n ρ p σ) : ¬ σ 72 53 = 0 := by rw [h.2.2.2]; decide
theorem m_blW {G : zGT} {d : Nat} {Φ : zMem → Prop} {n : Nat} {ρ : zMem} {p : Nat} {σ : zMem} (hx : NW n ρ p σ) (h : Φ σ) : CTV G (d + 1) Y_X12_blanks [.inr (.inr 72)] σ Φ := by
  refine en_X12_blanks ?_
  rw [if_neg (w1 hx)]
  exact h
theorem m_need {G : zGT} {d : Nat} {Φ : zMem → Prop} {t : Nat → Int32} {n : Nat} {ρ : zMem} {dep : Nat} {S : zPS} {σ : zMem} {b : Int32} (hc : NT t n ρ) (hb : ¬ b = -1) (hx : NX n ρ dep S σ) (h1 : gtx t n S.1 = b → ∀ σ', NX n ρ dep (sAt S (S.1 + 1)) σ' → Φ σ') (h0 : ¬ gtx t n S.1 = b → ∀ σ', NW n ρ S.1 σ' → Φ σ') : CTV G (d + 1) Y_X12_need [.inr (.inr 72), .inl b] σ Φ := by
  refine en_X12_need ?_
  rw [if_pos hx.2.2.2.1]
  refine m_hx hc hx ?_
  by_cases g : gtx t n S.1 = b
  · rw [if_pos g]
    rintro _ rfl
    exact h1 g _ (hx.stp (gtx_in (by rw [g]; exact hb)))
  · rw [if_neg g]
    rintro _ rfl
    exact h0 g _ hx.wrong
theorem m_needW {G : zGT} {d : Nat} {Φ : zMem → Prop} {n : Nat} {ρ : zMem} {p : Nat} {σ : zMem} {b : Int32} (hx : NW n ρ p σ) (h : Φ σ) : CTV G (d + 1) Y_X12_need [.inr (.inr 72), .inl b] σ Φ := by
  refine en_X12_need ?_
  rw [if_neg (w1 hx)]
  exact h
theorem m_em {G : zGT} {d : Nat} {Φ : zMem → Prop} {n : Nat} {ρ : zMem} {dep : Nat} {S : zPS} {σ : zMem} {s v : Int32} (hx : NX n ρ dep S σ) (lt : S.2.2.1 < 96) (h : ∀ σ', NX n ρ dep (sEm s v S) σ' → Φ σ') : CTV G d Y_X12_emit [.inr (.inr 72), .inl s, .inl v] σ Φ := by
  obtain ⟨h1, ⟨h2, h3⟩, h4, h5, h6, h7, h8, h9, h10⟩ := hx
  refine en_X12_emit ?_
  rw [h7, cln (by omega)]
  refine ⟨vin (by omega), ?_⟩
  rintro _ rfl
  rw [zwr_rne (show (72 : Nat) ≠ 108 by decide), h7, cln (by omega)]
  refine ⟨vin (by omega), ?_⟩
  rintro _ rfl _ rfl
  refine h _ ⟨((h1.wr (by omega)).wr (by omega)).wr (by omega), ⟨h2, by show S.2.2.1 + 1 ≤ 96; omega⟩, ?_, ?_, ?_, ?_, ?_, ?_, ?_⟩
  · simp only [zwr_rne, zwr_req, upd_ne, upd_eq, ne_eq, Nat.reduceEqDiff, not_false_eq_true]; exact h4
  · simp only [zwr_rne, zwr_req, upd_ne, upd_eq, ne_eq, Nat.reduceEqDiff, not_false_eq_true]; exact h5
  · simp only [zwr_rne, zwr_req, upd_ne, upd_eq, ne_eq, Nat.reduceEqDiff, not_false_eq_true]; exact h6
  · simp only [zwr_rne, zwr_req, upd_ne, upd_eq, ne_eq, Nat.reduceEqDiff, not_false_eq_true]; rw [h7, nI_1]; rfl
  · simp only [zwr_rne, zwr_req, upd_ne, upd_eq, ne_eq, Nat.reduceEqDiff, not_false_eq_true]; exact h8
  · simp only [zwr_rne, zwr_req, upd_ne, upd_eq, ne_eq, Nat.reduceEqDiff, not_false_eq_true]; rw [h9]; rfl
  · simp only [zwr_rne, zwr_req, upd_ne, upd_eq, ne_eq, Nat.reduceEqDiff, not_false_eq_true]; rw [h10]; rfl
theorem m_fin {G : zGT} {d : Nat} {Φ : zMem → Prop} {t : Nat → Int32} {n : Nat} {ρ : zMem} {dep : Nat} {S : zPS} {σ : zMem} {s : Int32} (hc : NT t n ρ) (hx : NX n ρ dep S σ) (lt : S.2.2.1 < 96) (h : ∀ σ', NX n ρ dep (sBl t n (sEm s 0 S)) σ' → Φ σ') : CTV G (d + 2) Y_X12_finish [.inr (.inr 72), .inl s] σ Φ := by
  refine en_X12_finish ?_
  rw [if_pos hx.2.2.2.1]
  exact m_em hx lt (fun σ1 x1 => m_blY hc x1 h)
theorem m_finW {G : zGT} {d : Nat} {Φ : zMem → Prop} {n : Nat} {ρ : zMem} {p : Nat} {σ : zMem} {s : Int32} (hx : NW n ρ p σ) (h : Φ σ) : CTV G (d + 2) Y_X12_finish [.inr (.inr 72), .inl s] σ Φ := by
  refine en_X12_finish ?_
  rw [if_neg (w1 hx)]
  exact m_blW hx h
theorem m_num {G : zGT} {d : Nat} {Φ : zMem → Prop} {t : Nat → Int32} {n : Nat} {ρ : zMem} {dep : Nat} {S : zPS} {σ : zMem} (hc : NT t n ρ) (hx : NX n ρ dep S σ) (hk : S.2.2.1 < 96)
    (h1 : ¬ isD (gtx t n (dgs t n 6 0 S.1).2) → ∀ σ', NX n ρ dep (sNum t n S) σ' → Φ σ') (h0 : isD (gtx t n (dgs t n 6 0 S.1).2) → ∀ σ', NW n ρ (dgs t n 6 0 S.1).2 σ' → Φ σ') : CTV G (d + 3) Y_X12_readNumber [.inr (.inr 72)] σ Φ := by
  refine en_X12_readNumber ?_
  have fin : ∀ (v : Int32) (p : Nat) (τ : zMem), NX n ρ dep (sAt S p) τ → dgs t n 6 0 S.1 = (v, p) → (if (τ 72 53) = 0 then (CTI G (d + 2) Y_X12_here [.inr (.inr 72)] τ (fun (r6 : Int32) (s5 : zMem) => CTI G (d + 2) Y_X12_isDigit [.inl r6] s5 (fun (r8 : Int32) (s7 : zMem) => if r8 = 0 then (∀ s9 : zMem, s9 = zwr s7 72 53 (0 : Int32) → (CTV G (d + 2) Y_X12_emit [.inr (.inr 72), .inl (1 : Int32), .inl v] s9 (fun (s10 : zMem) => ∀ s11 : zMem, s11 = zwr s10 72 55 ((s10 72 55) + (1 : Int32)) → (Φ s11)))) else (∀ s12 : zMem, s12 = zwr s7 72 53 (1 : Int32) → (CTV G (d + 2) Y_X12_emit [.inr (.inr 72), .inl (1 : Int32), .inl v] s12 (fun (s13 : zMem) => ∀ s14 : zMem, s14 = zwr s13 72 55 ((s13 72 55) + (1 : Int32)) → (Φ s14))))))) else (∀ s15 : zMem, s15 = zwr τ 72 53 (1 : Int32) → (CTV G (d + 2) Y_X12_emit [.inr (.inr 72), .inl (1 : Int32), .inl v] s15 (fun (s16 : zMem) => ∀ s17 : zMem, s17 = zwr s16 72 55 ((s16 72 55) + (1 : Int32)) → (Φ s17))))) := by
    intro v p τ ht hv
    rw [if_pos ht.2.2.2.1]
    refine m_hx hc ht ?_
    have es : sEm 1 v (p, S.2.1 + 1, S.2.2) = sNum t n S := by unfold sNum; rw [hv]
    have ep : (dgs t n 6 0 S.1).2 = p := by rw [hv]
    rw [ep] at h1 h0
    rw [← es] at h1
    show CTI G (d + 2) Y_X12_isDigit [.inl (gtx t n p)] τ _
    refine m_isDigit (fun q => ?_) (fun q => ?_)
    · rw [if_neg (by decide)]
      rintro _ rfl
      obtain ⟨g1, ⟨g2, g3⟩, g4, g5, g6, g7, g8, g9, g10⟩ := ht
      refine en_X12_emit ?_
      have e57 : zwr τ 72 53 1 72 57 = nI S.2.2.1 := by rw [zwr_req, upd_ne (by omega)]; exact g7
      rw [e57, cln (by omega)]
      refine ⟨vin (by omega), ?_⟩
      rintro _ rfl
      rw [zwr_rne (show (72 : Nat) ≠ 108 by decide), e57, cln (by omega)]
      refine ⟨vin (by omega), ?_⟩
      rintro _ rfl _ rfl _ rfl
      refine h0 q _ ⟨((((g1.wr (by omega)).wr (by omega)).wr (by omega)).wr (by omega)).wr (by omega), g2, ?_, ?_⟩
      · simp only [zwr_rne, zwr_req, upd_ne, upd_eq, ne_eq, Nat.reduceEqDiff, not_false_eq_true]; exact g4
      · simp only [zwr_rne, zwr_req, upd_ne, upd_eq, ne_eq, Nat.reduceEqDiff, not_false_eq_true]
    · rw [if_pos rfl]
      rintro _ rfl
      refine m_em ht.right hk (fun σ2 x2 => ?_)
      rintro _ rfl
      exact h1 q _ x2.word
  have L : ∀ f (v : Int32) p, f ≤ 6 → p ≤ n → ∀ τ : zMem, NX n ρ dep (sAt S p) τ → dgs t n 6 0 S.1 = dgs t n f v p →
      WJ G M_X12_readNumber (d + 3) (RV Φ) 4 [some (.inr (.inr 72)), some (.inl v), some (.inl (nI (6 - f)))] [] τ := by
    intro f
    induction f with
    | zero =>
      intro v p hf hp τ ht hv
      refine rg_X12_readNumber_4 ?_
      refine m_hx hc ht ?_
      show CTI G (d + 2) Y_X12_isDigit [.inl (gtx t n p)] τ _
      refine m_isDigit (fun q => ?_) (fun q => ?_)
      · rw [if_neg (by decide), if_pos (show (6 : Int32) ≤ nI (6 - 0) by decide)]
        exact fin v p τ ht hv
      · rw [if_pos rfl]
        exact fin v p τ ht hv
    | succ f ih =>
      intro v p hf hp τ ht hv
      refine rg_X12_readNumber_4 ?_
      refine m_hx hc ht ?_
      show CTI G (d + 2) Y_X12_isDigit [.inl (gtx t n p)] τ _
      refine m_isDigit (fun q => ?_) (fun q => ?_)
      · rw [if_neg (by decide), if_neg (show ¬ (6 : Int32) ≤ nI (6 - (f + 1)) from nI_ge (b := 6) (by omega) (by omega))]
        rw [dgs_y q] at hv
        have lt := isD_in q
        refine m_hx hc ht ?_
        show ∀ s33 : zMem, s33 = zwr τ 72 52 ((τ 72 52) + 1) → WJ G M_X12_readNumber (d + 3) (RV Φ) 4 [some (.inr (.inr 72)), some (.inl (((10 : Int32) * v + gtx t n p) - 48)), some (.inl (nI (6 - (f + 1)) + 1))] [] s33
        rintro _ rfl
        rw [nI_1, show 6 - (f + 1) + 1 = 6 - f by omega, Int32.mul_comm 10 v]
        exact ih _ (p + 1) (by omega) (by omega) _ (ht.stp lt) hv
      · rw [if_pos rfl]
        rw [dgs_n q] at hv
        exact fin v p τ ht hv
  exact L 6 0 S.1 (Nat.le_refl _) hx.2.1.1 σ hx rfl
theorem wd_read {G : zGT} {Φ : zMem → Prop} {t : Nat → Int32} {n : Nat} {ρ : zMem} {p : Nat} {σ : zMem} (hc : NT t n ρ) (hx : NW n ρ p σ) (h : Φ σ) : (∀ d, CTV G (d + 2) Y_X12_readPart [.inr (.inr 72), .inl 0] σ Φ) ∧ (∀ d, CTV G (d + 3) Y_X12_readTerm [.inr (.inr 72)] σ Φ) ∧ (∀ d, CTV G (d + 4) Y_X12_readSum [.inr (.inr 72)] σ Φ) ∧ (∀ d, CTV G (d + 5) Y_X12_readTest [.inr (.inr 72)] σ Φ) ∧ (∀ d, CTV G (d + 6) Y_X12_readAnd [.inr (.inr 72)] σ Φ) ∧ (∀ d, CTV G (d + 7) Y_X12_readOr [.inr (.inr 72)] σ Φ) := by
  have a : ∀ (Φ : zMem → Prop), Φ σ → ∀ d, CTV G (d + 2) Y_X12_readPart [.inr (.inr 72), .inl 0] σ Φ := by
    intro Φ h d
    refine en_X12_readPart ?_
    refine m_blW hx ?_
    rw [if_neg (w1 hx)]; exact h
  have b : ∀ (Φ : zMem → Prop), Φ σ → ∀ d, CTV G (d + 3) Y_X12_readTerm [.inr (.inr 72)] σ Φ := by
    intro Φ h d
    refine en_X12_readTerm ?_
    refine a _ ?_ _
    refine m_blW hx ?_
    refine rg_X12_readTerm_9 ?_
    rw [if_neg (w1 hx)]; exact h
  have c : ∀ (Φ : zMem → Prop), Φ σ → ∀ d, CTV G (d + 4) Y_X12_readSum [.inr (.inr 72)] σ Φ := by
    intro Φ h d
    refine en_X12_readSum ?_
    refine b _ ?_ _
    refine rg_X12_readSum_4 ?_
    rw [if_neg (w1 hx)]; exact h
  have e : ∀ (Φ : zMem → Prop), Φ σ → ∀ d, CTV G (d + 5) Y_X12_readTest [.inr (.inr 72)] σ Φ := by
    intro Φ h d
    refine en_X12_readTest ?_
    refine c _ ?_ _
    refine m_here (hc.mv hx.1) hx.2.2.1 hx.2.1 ?_
    rw [if_neg (w1 hx)]; exact h
  have f : ∀ (Φ : zMem → Prop), Φ σ → ∀ d, CTV G (d + 6) Y_X12_readAnd [.inr (.inr 72)] σ Φ := by
    intro Φ h d
    refine en_X12_readAnd ?_
    refine e _ ?_ _
    refine rg_X12_readAnd_4 ?_
    rw [if_neg (w1 hx)]; exact h
  refine ⟨a Φ h, b Φ h, c Φ h, e Φ h, f Φ h, fun d => ?_⟩
  refine en_X12_readOr ?_
  refine f _ ?_ _
  refine rg_X12_readOr_4 ?_
  rw [if_neg (w1 hx)]; exact h
theorem m_lp4 {G : zGT} {D : Nat} {Φ : zMem → Prop} {t : Nat → Int32} {n : Nat} {N : Int32 → Prop} {ρ : zMem} {p0 dep : Nat} (hN : ¬ N (-1)) (hc : NT t n ρ) (hD : 40 * (8 - dep) + 35 ≤ D)
    (hS : ∀ (D : Nat) (S : zPS) (σ : zMem) (Φ : zMem → Prop), p0 < S.1 → S.2.2.1 ≤ S.1 → 40 * (8 - dep) + 35 ≤ D → NX n ρ dep S σ → (∀ R σ', Ev t n N 5 0 dep S R → NR n ρ dep R σ' → Φ σ') → CTV G D Y_X12_readPart [.inr (.inr 72), .inl 0] σ Φ) :
    ∀ (m : Nat) (S2 : zPS) (τ : zMem), n - S2.1 ≤ m → p0 ≤ S2.1 → S2.2.2.1 ≤ S2.1 → NX n ρ dep (sBl t n S2) τ → (∀ R σ', Ev t n N 14 0 dep S2 R → NR n ρ dep R σ' → Φ σ') → WJ G M_X12_readTerm (D + 2 + 1) (RV Φ) 9 [some (.inr (.inr 72))] [] τ := by
  intro m
  have n96 := hc.1
  induction m with
  | zero =>
    intro S2 τ hm hp hk x2 H
    refine rg_X12_readTerm_9 ?_
    have hS2 : BL t n S2.1 ≤ n := x2.2.1.1
    have b1 := BL_ge t n S2.1
    have ec : gtx t n (BL t n S2.1) = -1 := gtx_ge (by omega)
    rw [if_pos x2.2.2.2.1]
    refine m_hx hc x2 ?_
    rw [if_neg (by show ¬ gtx t n (BL t n S2.1) = 42; rw [ec]; decide)]
    exact H _ τ (E_end (by decide) (by rw [ec]; decide)) x2.ok
  | succ m ih =>
    intro S2 τ hm hp hk x2 H
    refine rg_X12_readTerm_9 ?_
    have hS2 : BL t n S2.1 ≤ n := x2.2.1.1
    have b1 := BL_ge t n S2.1
    have go : ∀ c : Int32, gtx t n (BL t n S2.1) = c → (c = 42) → ∀ σ4, NX n ρ dep (sAdv (sBl t n S2)) σ4 → CTV G (D + 2) Y_X12_readPart [.inr (.inr 72), .inl 0] σ4 (fun (s5 : zMem) => CTV G (D + 2) Y_X12_finish [.inr (.inr 72), .inl c] s5 (fun (s6 : zMem) => WJ G M_X12_readTerm (D + 2 + 1) (RV Φ) 9 [some (.inr (.inr 72))] [] s6)) := by
      intro c ec hcc σ4 x4
      have l : lvl (gtx t n (BL t n S2.1)) + 10 = 14 := by
        rw [ec]
        rcases hcc with rfl <;> rfl
      have lt : BL t n S2.1 < n := gtx_in (fun z => by rw [z] at ec; subst ec; revert hcc; decide)
      have nm : ¬ ((gtx t n (sBl t n S2).1 = 60 ∨ gtx t n (sBl t n S2).1 = 62) ∧ gtx t n ((sBl t n S2).1 + 1) = 61) := by
        rintro ⟨z, _⟩
        have z : gtx t n (BL t n S2.1) = 60 ∨ gtx t n (BL t n S2.1) = 62 := z
        rw [ec] at z
        rcases hcc with rfl <;> revert z <;> decide
      have es : sSg t n (sBl t n S2) = sAdv (sBl t n S2) := by unfold sSg; rw [if_neg nm]
      have eg : sgs t n (sBl t n S2) = c := by unfold sgs; rw [if_neg nm]; exact ec
      refine hS (D + 2) (sAdv (sBl t n S2)) σ4 _ (by show p0 < BL t n S2.1 + 1; omega) (by show S2.2.2.1 ≤ BL t n S2.1 + 1; omega) (by omega) x4 (fun R5 σ5 ev5 r5 => ?_)
      obtain ⟨y1, y2, y3⟩ := ev5.good hN (by decide) (show BL t n S2.1 + 1 ≤ n by omega)
      have y1 : BL t n S2.1 + 1 ≤ R5.2.1 := y1
      have ev5' : Ev t n N (14 - 9) 0 dep (sSg t n (sBl t n S2)) R5 := by rw [es]; exact ev5
      by_cases e5 : R5.1 = true
      · obtain ⟨y4, _⟩ := y3 e5
        have y4 : R5.2.2.2.1 + (BL t n S2.1 + 1) ≤ S2.2.2.1 + R5.2.1 := y4
        refine m_fin hc (r5.1 e5) (by omega) (fun σ6 x6 => ?_)
        refine ih (sEm c 0 R5.2) σ6 (by show n - R5.2.1 ≤ m; omega) (by show p0 ≤ R5.2.1; omega) (by show R5.2.2.2.1 + 1 ≤ R5.2.1; omega) x6 (fun R σ' ev r => ?_)
        exact H R σ' (E_go (by decide) (by decide) l ev5' e5 (by rw [eg]; exact ev)) r
      · have w5 := r5.2 e5
        refine m_finW w5 ?_
        refine rg_X12_readTerm_9 ?_
        rw [if_neg (w1 w5)]
        exact H R5 σ5 (E_goF (by decide) l ev5' e5) (w5.nr e5)
    rw [if_pos x2.2.2.2.1]
    refine m_hx hc x2 ?_
    show if gtx t n (BL t n S2.1) = 42 then _ else _
    by_cases c42 : gtx t n (BL t n S2.1) = 42
    · rw [if_pos c42]
      have lt : BL t n S2.1 < n := gtx_in (fun z => by rw [z] at c42; exact absurd c42 (by decide))
      rintro _ rfl _ rfl
      exact go 42 c42 (rfl) _ (x2.adv lt)
    rw [if_neg c42]
    refine H _ τ (E_end (by decide) (fun l => ?_)) x2.ok
    rcases lvl_val (gtx t n (BL t n S2.1)) with ⟨a, b⟩ | ⟨a, b⟩ | ⟨a, b⟩ | ⟨a, b⟩ | ⟨a, b⟩ | ⟨a, b⟩ | ⟨a, b⟩ | ⟨a, b⟩ | ⟨-, -, -, -, -, -, -, -, b⟩
    all_goals first | omega | contradiction
theorem m_lp3 {G : zGT} {D : Nat} {Φ : zMem → Prop} {t : Nat → Int32} {n : Nat} {N : Int32 → Prop} {ρ : zMem} {p0 dep : Nat} (hN : ¬ N (-1)) (hc : NT t n ρ) (hD : 40 * (8 - dep) + 38 ≤ D)
    (hS : ∀ (D : Nat) (S : zPS) (σ : zMem) (Φ : zMem → Prop), p0 < S.1 → S.2.2.1 ≤ S.1 → 40 * (8 - dep) + 38 ≤ D → NX n ρ dep S σ → (∀ R σ', Ev t n N 4 0 dep S R → NR n ρ dep R σ' → Φ σ') → CTV G D Y_X12_readTerm [.inr (.inr 72)] σ Φ) :
    ∀ (m : Nat) (S2 : zPS) (τ : zMem), n - S2.1 ≤ m → p0 ≤ S2.1 → S2.2.2.1 ≤ S2.1 → NX n ρ dep (sBl t n S2) τ → (∀ R σ', Ev t n N 13 0 dep S2 R → NR n ρ dep R σ' → Φ σ') → WJ G M_X12_readSum (D + 2 + 1) (RV Φ) 4 [some (.inr (.inr 72)), none] [] τ := by
  intro m
  have n96 := hc.1
  induction m with
  | zero =>
    intro S2 τ hm hp hk x2 H
    refine rg_X12_readSum_4 ?_
    have hS2 : BL t n S2.1 ≤ n := x2.2.1.1
    have b1 := BL_ge t n S2.1
    have ec : gtx t n (BL t n S2.1) = -1 := gtx_ge (by omega)
    rw [if_pos x2.2.2.2.1]
    refine m_hx hc x2 ?_
    rw [if_neg (by show ¬ gtx t n (BL t n S2.1) = 43; rw [ec]; decide)]
    refine m_hx hc x2 ?_
    rw [if_neg (by show ¬ gtx t n (BL t n S2.1) = 45; rw [ec]; decide)]
    exact H _ τ (E_end (by decide) (by rw [ec]; decide)) x2.ok
  | succ m ih =>
    intro S2 τ hm hp hk x2 H
    refine rg_X12_readSum_4 ?_
    have hS2 : BL t n S2.1 ≤ n := x2.2.1.1
    have b1 := BL_ge t n S2.1
    have go : ∀ c : Int32, gtx t n (BL t n S2.1) = c → (c = 43 ∨ c = 45) → ∀ σ4, NX n ρ dep (sAdv (sBl t n S2)) σ4 → CTV G (D + 2) Y_X12_readTerm [.inr (.inr 72)] σ4 (fun (s5 : zMem) => CTV G (D + 2) Y_X12_finish [.inr (.inr 72), .inl c] s5 (fun (s6 : zMem) => WJ G M_X12_readSum (D + 2 + 1) (RV Φ) 4 [some (.inr (.inr 72)), none] [] s6)) := by
      intro c ec hcc σ4 x4
      have l : lvl (gtx t n (BL t n S2.1)) + 10 = 13 := by
        rw [ec]
        rcases hcc with rfl | rfl <;> rfl
      have lt : BL t n S2.1 < n := gtx_in (fun z => by rw [z] at ec; subst ec; revert hcc; decide)
      have nm : ¬ ((gtx t n (sBl t n S2).1 = 60 ∨ gtx t n (sBl t n S2).1 = 62) ∧ gtx t n ((sBl t n S2).1 + 1) = 61) := by
        rintro ⟨z, _⟩
        have z : gtx t n (BL t n S2.1) = 60 ∨ gtx t n (BL t n S2.1) = 62 := z
        rw [ec] at z
        rcases hcc with rfl | rfl <;> revert z <;> decide
      have es : sSg t n (sBl t n S2) = sAdv (sBl t n S2) := by unfold sSg; rw [if_neg nm]
      have eg : sgs t n (sBl t n S2) = c := by unfold sgs; rw [if_neg nm]; exact ec
      refine hS (D + 2) (sAdv (sBl t n S2)) σ4 _ (by show p0 < BL t n S2.1 + 1; omega) (by show S2.2.2.1 ≤ BL t n S2.1 + 1; omega) (by omega) x4 (fun R5 σ5 ev5 r5 => ?_)
      obtain ⟨y1, y2, y3⟩ := ev5.good hN (by decide) (show BL t n S2.1 + 1 ≤ n by omega)
      have y1 : BL t n S2.1 + 1 ≤ R5.2.1 := y1
      have ev5' : Ev t n N (13 - 9) 0 dep (sSg t n (sBl t n S2)) R5 := by rw [es]; exact ev5
      by_cases e5 : R5.1 = true
      · obtain ⟨y4, _⟩ := y3 e5
        have y4 : R5.2.2.2.1 + (BL t n S2.1 + 1) ≤ S2.2.2.1 + R5.2.1 := y4
        refine m_fin hc (r5.1 e5) (by omega) (fun σ6 x6 => ?_)
        refine ih (sEm c 0 R5.2) σ6 (by show n - R5.2.1 ≤ m; omega) (by show p0 ≤ R5.2.1; omega) (by show R5.2.2.2.1 + 1 ≤ R5.2.1; omega) x6 (fun R σ' ev r => ?_)
        exact H R σ' (E_go (by decide) (by decide) l ev5' e5 (by rw [eg]; exact ev)) r
      · have w5 := r5.2 e5
        refine m_finW w5 ?_
        refine rg_X12_readSum_4 ?_
        rw [if_neg (w1 w5)]
        exact H R5 σ5 (E_goF (by decide) l ev5' e5) (w5.nr e5)
    rw [if_pos x2.2.2.2.1]
    refine m_hx hc x2 ?_
    show if gtx t n (BL t n S2.1) = 43 then _ else _
    by_cases c43 : gtx t n (BL t n S2.1) = 43
    · rw [if_pos c43]
      have lt : BL t n S2.1 < n := gtx_in (fun z => by rw [z] at c43; exact absurd c43 (by decide))
      refine m_hx hc x2 ?_
      rintro _ rfl _ rfl
      exact go (gtx t n (BL t n S2.1)) rfl (Or.inl c43) _ (x2.adv lt)
    rw [if_neg c43]
    refine m_hx hc x2 ?_
    show if gtx t n (BL t n S2.1) = 45 then _ else _
    by_cases c45 : gtx t n (BL t n S2.1) = 45
    · rw [if_pos c45]
      have lt : BL t n S2.1 < n := gtx_in (fun z => by rw [z] at c45; exact absurd c45 (by decide))
      refine m_hx hc x2 ?_
      rintro _ rfl _ rfl
      exact go (gtx t n (BL t n S2.1)) rfl (Or.inr c45) _ (x2.adv lt)
    rw [if_neg c45]
    refine H _ τ (E_end (by decide) (fun l => ?_)) x2.ok
    rcases lvl_val (gtx t n (BL t n S2.1)) with ⟨a, b⟩ | ⟨a, b⟩ | ⟨a, b⟩ | ⟨a, b⟩ | ⟨a, b⟩ | ⟨a, b⟩ | ⟨a, b⟩ | ⟨a, b⟩ | ⟨-, -, -, -, -, -, -, -, b⟩
    all_goals first | omega | contradiction
theorem m_lp1 {G : zGT} {D : Nat} {Φ : zMem → Prop} {t : Nat → Int32} {n : Nat} {N : Int32 → Prop} {ρ : zMem} {p0 dep : Nat} (hN : ¬ N (-1)) (hc : NT t n ρ) (hD : 40 * (8 - dep) + 44 ≤ D)
    (hS : ∀ (D : Nat) (S : zPS) (σ : zMem) (Φ : zMem → Prop), p0 < S.1 → S.2.2.1 ≤ S.1 → 40 * (8 - dep) + 44 ≤ D → NX n ρ dep S σ → (∀ R σ', Ev t n N 2 0 dep S R → NR n ρ dep R σ' → Φ σ') → CTV G D Y_X12_readTest [.inr (.inr 72)] σ Φ) :
    ∀ (m : Nat) (S2 : zPS) (τ : zMem), n - S2.1 ≤ m → p0 ≤ S2.1 → S2.2.2.1 ≤ S2.1 → NX n ρ dep (sBl t n S2) τ → (∀ R σ', Ev t n N 11 0 dep S2 R → NR n ρ dep R σ' → Φ σ') → WJ G M_X12_readAnd (D + 2 + 1) (RV Φ) 4 [some (.inr (.inr 72))] [] τ := by
  intro m
  have n96 := hc.1
  induction m with
  | zero =>
    intro S2 τ hm hp hk x2 H
    refine rg_X12_readAnd_4 ?_
    have hS2 : BL t n S2.1 ≤ n := x2.2.1.1
    have b1 := BL_ge t n S2.1
    have ec : gtx t n (BL t n S2.1) = -1 := gtx_ge (by omega)
    rw [if_pos x2.2.2.2.1]
    refine m_hx hc x2 ?_
    rw [if_neg (by show ¬ gtx t n (BL t n S2.1) = 38; rw [ec]; decide)]
    exact H _ τ (E_end (by decide) (by rw [ec]; decide)) x2.ok
  | succ m ih =>
    intro S2 τ hm hp hk x2 H
    refine rg_X12_readAnd_4 ?_
    have hS2 : BL t n S2.1 ≤ n := x2.2.1.1
    have b1 := BL_ge t n S2.1
    have go : ∀ c : Int32, gtx t n (BL t n S2.1) = c → (c = 38) → ∀ σ4, NX n ρ dep (sAdv (sBl t n S2)) σ4 → CTV G (D + 2) Y_X12_readTest [.inr (.inr 72)] σ4 (fun (s5 : zMem) => CTV G (D + 2) Y_X12_finish [.inr (.inr 72), .inl c] s5 (fun (s6 : zMem) => WJ G M_X12_readAnd (D + 2 + 1) (RV Φ) 4 [some (.inr (.inr 72))] [] s6)) := by
      intro c ec hcc σ4 x4
      have l : lvl (gtx t n (BL t n S2.1)) + 10 = 11 := by
        rw [ec]
        rcases hcc with rfl <;> rfl
      have lt : BL t n S2.1 < n := gtx_in (fun z => by rw [z] at ec; subst ec; revert hcc; decide)
      have nm : ¬ ((gtx t n (sBl t n S2).1 = 60 ∨ gtx t n (sBl t n S2).1 = 62) ∧ gtx t n ((sBl t n S2).1 + 1) = 61) := by
        rintro ⟨z, _⟩
        have z : gtx t n (BL t n S2.1) = 60 ∨ gtx t n (BL t n S2.1) = 62 := z
        rw [ec] at z
        rcases hcc with rfl <;> revert z <;> decide
      have es : sSg t n (sBl t n S2) = sAdv (sBl t n S2) := by unfold sSg; rw [if_neg nm]
      have eg : sgs t n (sBl t n S2) = c := by unfold sgs; rw [if_neg nm]; exact ec
      refine hS (D + 2) (sAdv (sBl t n S2)) σ4 _ (by show p0 < BL t n S2.1 + 1; omega) (by show S2.2.2.1 ≤ BL t n S2.1 + 1; omega) (by omega) x4 (fun R5 σ5 ev5 r5 => ?_)
      obtain ⟨y1, y2, y3⟩ := ev5.good hN (by decide) (show BL t n S2.1 + 1 ≤ n by omega)
      have y1 : BL t n S2.1 + 1 ≤ R5.2.1 := y1
      have ev5' : Ev t n N (11 - 9) 0 dep (sSg t n (sBl t n S2)) R5 := by rw [es]; exact ev5
      by_cases e5 : R5.1 = true
      · obtain ⟨y4, _⟩ := y3 e5
        have y4 : R5.2.2.2.1 + (BL t n S2.1 + 1) ≤ S2.2.2.1 + R5.2.1 := y4
        refine m_fin hc (r5.1 e5) (by omega) (fun σ6 x6 => ?_)
        refine ih (sEm c 0 R5.2) σ6 (by show n - R5.2.1 ≤ m; omega) (by show p0 ≤ R5.2.1; omega) (by show R5.2.2.2.1 + 1 ≤ R5.2.1; omega) x6 (fun R σ' ev r => ?_)
        exact H R σ' (E_go (by decide) (by decide) l ev5' e5 (by rw [eg]; exact ev)) r
      · have w5 := r5.2 e5
        refine m_finW w5 ?_
        refine rg_X12_readAnd_4 ?_
        rw [if_neg (w1 w5)]
        exact H R5 σ5 (E_goF (by decide) l ev5' e5) (w5.nr e5)
    rw [if_pos x2.2.2.2.1]
    refine m_hx hc x2 ?_
    show if gtx t n (BL t n S2.1) = 38 then _ else _
    by_cases c38 : gtx t n (BL t n S2.1) = 38
    · rw [if_pos c38]
      have lt : BL t n S2.1 < n := gtx_in (fun z => by rw [z] at c38; exact absurd c38 (by decide))
      rintro _ rfl _ rfl
      exact go 38 c38 (rfl) _ (x2.adv lt)
    rw [if_neg c38]
    refine H _ τ (E_end (by decide) (fun l => ?_)) x2.ok
    rcases lvl_val (gtx t n (BL t n S2.1)) with ⟨a, b⟩ | ⟨a, b⟩ | ⟨a, b⟩ | ⟨a, b⟩ | ⟨a, b⟩ | ⟨a, b⟩ | ⟨a, b⟩ | ⟨a, b⟩ | ⟨-, -, -, -, -, -, -, -, b⟩
    all_goals first | omega | contradiction
theorem m_lp0 {G : zGT} {D : Nat} {Φ : zMem → Prop} {t : Nat → Int32} {n : Nat} {N : Int32 → Prop} {ρ : zMem} {p0 dep : Nat} (hN : ¬ N (-1)) (hc : NT t n ρ) (hD : 40 * (8 - dep) + 47 ≤ D)
    (hS : ∀ (D : Nat) (S : zPS) (σ : zMem) (Φ : zMem → Prop), p0 < S.1 → S.2.2.1 ≤ S.1 → 40 * (8 - dep) + 47 ≤ D → NX n ρ dep S σ → (∀ R σ', Ev t n N 1 0 dep S R → NR n ρ dep R σ' → Φ σ') → CTV G D Y_X12_readAnd [.inr (.inr 72)] σ Φ) :
    ∀ (m : Nat) (S2 : zPS) (τ : zMem), n - S2.1 ≤ m → p0 ≤ S2.1 → S2.2.2.1 ≤ S2.1 → NX n ρ dep (sBl t n S2) τ → (∀ R σ', Ev t n N 10 0 dep S2 R → NR n ρ dep R σ' → Φ σ') → WJ G M_X12_readOr (D + 2 + 1) (RV Φ) 4 [some (.inr (.inr 72))] [] τ := by
  intro m
  have n96 := hc.1
  induction m with
  | zero =>
    intro S2 τ hm hp hk x2 H
    refine rg_X12_readOr_4 ?_
    have hS2 : BL t n S2.1 ≤ n := x2.2.1.1
    have b1 := BL_ge t n S2.1
    have ec : gtx t n (BL t n S2.1) = -1 := gtx_ge (by omega)
    rw [if_pos x2.2.2.2.1]
    refine m_hx hc x2 ?_
    rw [if_neg (by show ¬ gtx t n (BL t n S2.1) = 124; rw [ec]; decide)]
    exact H _ τ (E_end (by decide) (by rw [ec]; decide)) x2.ok
  | succ m ih =>
    intro S2 τ hm hp hk x2 H
    refine rg_X12_readOr_4 ?_
    have hS2 : BL t n S2.1 ≤ n := x2.2.1.1
    have b1 := BL_ge t n S2.1
    have go : ∀ c : Int32, gtx t n (BL t n S2.1) = c → (c = 124) → ∀ σ4, NX n ρ dep (sAdv (sBl t n S2)) σ4 → CTV G (D + 2) Y_X12_readAnd [.inr (.inr 72)] σ4 (fun (s5 : zMem) => CTV G (D + 2) Y_X12_finish [.inr (.inr 72), .inl c] s5 (fun (s6 : zMem) => WJ G M_X12_readOr (D + 2 + 1) (RV Φ) 4 [some (.inr (.inr 72))] [] s6)) := by
      intro c ec hcc σ4 x4
      have l : lvl (gtx t n (BL t n S2.1)) + 10 = 10 := by
        rw [ec]
        rcases hcc with rfl <;> rfl
      have lt : BL t n S2.1 < n := gtx_in (fun z => by rw [z] at ec; subst ec; revert hcc; decide)
      have nm : ¬ ((gtx t n (sBl t n S2).1 = 60 ∨ gtx t n (sBl t n S2).1 = 62) ∧ gtx t n ((sBl t n S2).1 + 1) = 61) := by
        rintro ⟨z, _⟩
        have z : gtx t n (BL t n S2.1) = 60 ∨ gtx t n (BL t n S2.1) = 62 := z
        rw [ec] at z
        rcases hcc with rfl <;> revert z <;> decide
      have es : sSg t n (sBl t n S2) = sAdv (sBl t n S2) := by unfold sSg; rw [if_neg nm]
      have eg : sgs t n (sBl t n S2) = c := by unfold sgs; rw [if_neg nm]; exact ec
      refine hS (D + 2) (sAdv (sBl t n S2)) σ4 _ (by show p0 < BL t n S2.1 + 1; omega) (by show S2.2.2.1 ≤ BL t n S2.1 + 1; omega) (by omega) x4 (fun R5 σ5 ev5 r5 => ?_)
      obtain ⟨y1, y2, y3⟩ := ev5.good hN (by decide) (show BL t n S2.1 + 1 ≤ n by omega)
      have y1 : BL t n S2.1 + 1 ≤ R5.2.1 := y1
      have ev5' : Ev t n N (10 - 9) 0 dep (sSg t n (sBl t n S2)) R5 := by rw [es]; exact ev5
      by_cases e5 : R5.1 = true
      · obtain ⟨y4, _⟩ := y3 e5
        have y4 : R5.2.2.2.1 + (BL t n S2.1 + 1) ≤ S2.2.2.1 + R5.2.1 := y4
        refine m_fin hc (r5.1 e5) (by omega) (fun σ6 x6 => ?_)
        refine ih (sEm c 0 R5.2) σ6 (by show n - R5.2.1 ≤ m; omega) (by show p0 ≤ R5.2.1; omega) (by show R5.2.2.2.1 + 1 ≤ R5.2.1; omega) x6 (fun R σ' ev r => ?_)
        exact H R σ' (E_go (by decide) (by decide) l ev5' e5 (by rw [eg]; exact ev)) r
      · have w5 := r5.2 e5
        refine m_finW w5 ?_
        refine rg_X12_readOr_4 ?_
        rw [if_neg (w1 w5)]
        exact H R5 σ5 (E_goF (by decide) l ev5' e5) (w5.nr e5)
    rw [if_pos x2.2.2.2.1]
    refine m_hx hc x2 ?_
    show if gtx t n (BL t n S2.1) = 124 then _ else _
    by_cases c124 : gtx t n (BL t n S2.1) = 124
    · rw [if_pos c124]
      have lt : BL t n S2.1 < n := gtx_in (fun z => by rw [z] at c124; exact absurd c124 (by decide))
      rintro _ rfl _ rfl
      exact go 124 c124 (rfl) _ (x2.adv lt)
    rw [if_neg c124]
    refine H _ τ (E_end (by decide) (fun l => ?_)) x2.ok
    rcases lvl_val (gtx t n (BL t n S2.1)) with ⟨a, b⟩ | ⟨a, b⟩ | ⟨a, b⟩ | ⟨a, b⟩ | ⟨a, b⟩ | ⟨a, b⟩ | ⟨a, b⟩ | ⟨a, b⟩ | ⟨-, -, -, -, -, -, -, -, b⟩
    all_goals first | omega | contradiction
