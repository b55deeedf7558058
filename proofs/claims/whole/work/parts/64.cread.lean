-- the class reads a law: into 49
def CF49 (ρ σ : zMem) : Prop := (∀ a, a ≠ 46 → a ≠ 48 → a ≠ 49 → a ≠ 50 → σ a = ρ a) ∧ (∀ j, j ≠ 2 → σ 46 j = ρ 46 j) ∧ ∀ j, j ≠ 5 → σ 48 j = ρ 48 j
theorem CF49.wr {ρ σ : zMem} (h : CF49 ρ σ) {k j : Nat} {v : Int32} (hk : k = 49 ∨ k = 50 ∨ (k = 46 ∧ j = 2) ∨ (k = 48 ∧ j = 5)) : CF49 ρ (zwr σ k j v) := by
  obtain ⟨h1, h2, h3⟩ := h
  refine ⟨fun a a1 a2 a3 a4 => ?_, fun i hi => ?_, fun i hi => ?_⟩
  · rw [zwr_rne (by omega)]; exact h1 a a1 a2 a3 a4
  · by_cases e : k = 46
    · subst e
      rw [zwr_req, upd_ne (by omega)]; exact h2 i hi
    · rw [zwr_rne (by omega)]; exact h2 i hi
  · by_cases e : k = 48
    · subst e
      rw [zwr_req, upd_ne (by omega)]; exact h3 i hi
    · rw [zwr_rne (by omega)]; exact h3 i hi
theorem CF49.nx {ρ σ σ' : zMem} (h : CF49 ρ σ) (f1 : ∀ a, a ≠ 46 → σ' a = σ a) (f2 : ∀ j, j ≠ 2 → σ' 46 j = σ 46 j) : CF49 ρ σ' :=
  ⟨fun a a1 a2 a3 a4 => (f1 a a1).trans (h.1 a a1 a2 a3 a4), fun j hj => (f2 j hj).trans (h.2.1 j hj), fun j hj => by rw [f1 48 (by decide)]; exact h.2.2 j hj⟩
theorem CF49.ad {ρ σ σ' : zMem} (h : CF49 ρ σ) (f : ∀ a, a ≠ 49 → a ≠ 50 → σ' a = σ a) : CF49 ρ σ' :=
  ⟨fun a a1 a2 a3 a4 => (f a a3 a4).trans (h.1 a a1 a2 a3 a4), fun j hj => by rw [f 46 (by decide) (by decide)]; exact h.2.1 j hj, fun j hj => by rw [f 48 (by decide) (by decide)]; exact h.2.2 j hj⟩
def CC49 (t : Nat → Int32) (n : Nat) (ρ : zMem) : Prop := CT t n ρ ∧ ρ 48 3 = nI 49 ∧ ρ 48 4 = nI 1000
theorem CC49.ct {t : Nat → Int32} {n : Nat} {ρ σ : zMem} (h : CC49 t n ρ) (f : CF49 ρ σ) : CT t n σ := h.1.mv (f.2.1 1 (by decide)) (f.1 47 (by decide) (by decide) (by decide) (by decide))
theorem CC49.e3 {t : Nat → Int32} {n : Nat} {ρ σ : zMem} (h : CC49 t n ρ) (f : CF49 ρ σ) : (σ 48 3).toNatClampNeg = 49 := by
  rw [f.2.2 3 (by decide), h.2.1]; decide
theorem CC49.e4 {t : Nat → Int32} {n : Nat} {ρ σ : zMem} (h : CC49 t n ρ) (f : CF49 ρ σ) : (σ 48 4).toNatClampNeg = 1000 := by
  rw [f.2.2 4 (by decide), h.2.2]; decide
theorem zr49 : (zrcv 49 4 && true) = true := by decide
def CX49 (n : Nat) (ρ : zMem) (k0 : Nat) (S : zPS) (σ : zMem) : Prop := CF49 ρ σ ∧ (S.1 ≤ n ∧ S.2.2.1 ≤ 96 ∧ k0 ≤ S.2.2.1) ∧ σ 46 2 = nI S.1 ∧ σ 48 5 = nI S.2.1 ∧ σ 49 2 = nI (S.2.2.1 - k0) ∧ ∀ i, i < S.2.2.1 - k0 → σ 50 i = cod (S.2.2.2.1 (k0 + i)) (S.2.2.2.2 (k0 + i))
def CR49 (n : Nat) (ρ : zMem) (k0 : Nat) (R : Bool × zPS) (σ : zMem) : Prop := CF49 ρ σ ∧ R.2.1 ≤ n ∧ σ 46 2 = nI R.2.1 ∧ 0 ≤ (σ 49 2).toInt ∧ (R.1 = true → CX49 n ρ k0 R.2 σ)
theorem CX49.nn {n : Nat} {ρ : zMem} {k0 : Nat} {S : zPS} {σ : zMem} (h : CX49 n ρ k0 S σ) : 0 ≤ (σ 49 2).toInt := by
  obtain ⟨h1, ⟨h2, h3, h4⟩, h5, h6, h7, h8⟩ := h
  rw [h7, tin (by omega)]; omega
theorem CX49.ok {n : Nat} {ρ : zMem} {k0 : Nat} {S : zPS} {σ : zMem} (h : CX49 n ρ k0 S σ) : CR49 n ρ k0 (true, S) σ := ⟨h.1, h.2.1.1, h.2.2.1, h.nn, fun _ => h⟩
theorem CX49.no {n : Nat} {ρ : zMem} {k0 : Nat} {S : zPS} {σ : zMem} (h : CX49 n ρ k0 S σ) : CR49 n ρ k0 (false, S) σ := ⟨h.1, h.2.1.1, h.2.2.1, h.nn, fun w => by cases w⟩
theorem CR49.y {n : Nat} {ρ : zMem} {k0 : Nat} {R : Bool × zPS} {σ : zMem} (h : CR49 n ρ k0 R σ) (e : R.1 = true) : CX49 n ρ k0 R.2 σ := h.2.2.2.2 e
theorem CX49.nx {t : Nat → Int32} {n : Nat} {ρ : zMem} {k0 : Nat} {S : zPS} {σ σ' : zMem} (h : CX49 n ρ k0 S σ) (f1 : ∀ a, a ≠ 46 → σ' a = σ a) (f2 : ∀ j, j ≠ 2 → σ' 46 j = σ 46 j) (f3 : σ' 46 2 = nI (BL t n S.1)) : CX49 n ρ k0 (sBl t n S) σ' := by
  obtain ⟨h1, ⟨h2, h3, h4⟩, h5, h6, h7, h8⟩ := h
  refine ⟨h1.nx f1 f2, ⟨BL_le h2, h3, h4⟩, f3, ?_, ?_, ?_⟩
  · rw [f1 48 (by decide)]; exact h6
  · rw [f1 49 (by decide)]; exact h7
  · rw [f1 50 (by decide)]; exact h8
theorem c_nw49 {G : zGT} {d : Nat} {Φ : Int32 → zMem → Prop} {t : Nat → Int32} {n : Nat} {ρ : zMem} {k0 : Nat} {S : zPS} {σ : zMem} (hc : CC49 t n ρ) (hx : CX49 n ρ k0 S σ) (h : ∀ σ', CX49 n ρ k0 (sBl t n S) σ' → Φ (gtx t n (BL t n S.1)) σ') : CTI G (d + 1) Y_X9_nextWord [.inr (.inr 46)] σ Φ :=
  c_nextWord (hc.ct hx.1) hx.2.2.1 hx.2.1.1 (fun σ' f1 f2 f3 => h σ' (hx.nx f1 f2 f3))
theorem c_nx49 {G : zGT} {d : Nat} {Φ : Int32 → zMem → Prop} {t : Nat → Int32} {n : Nat} {ρ : zMem} {k0 : Nat} {S : zPS} {σ : zMem} (hc : CC49 t n ρ) (hx : CX49 n ρ k0 S σ) (h : Φ (gtx t n S.1) σ) : CTI G d Y_X9_next [.inr (.inr 46)] σ Φ :=
  c_next (hc.ct hx.1) hx.2.2.1 hx.2.1.1 h
theorem c_st49 {G : zGT} {d : Nat} {Φ : zMem → Prop} {n : Nat} {ρ : zMem} {k0 : Nat} {S : zPS} {σ : zMem} (hx : CX49 n ρ k0 S σ) (lt : S.1 < n) (h : ∀ σ', CX49 n ρ k0 (sAdv S) σ' → Φ σ') : CTV G d Y_X6_step [.inr (.inr 48)] σ Φ := by
  obtain ⟨h1, ⟨h2, h3, h4⟩, h5, h6, h7, h8⟩ := hx
  refine en_X6_step ?_
  rintro _ rfl _ rfl
  refine h _ ⟨(h1.wr (by simp)).wr (by simp), ⟨by show S.1 + 1 ≤ n; omega, h3, h4⟩, ?_, ?_, ?_, ?_⟩
  · simp only [zwr_rne, zwr_req, upd_ne, upd_eq, ne_eq, Nat.reduceEqDiff, not_false_eq_true]; rw [h5, nI_1]; rfl
  · simp only [zwr_rne, zwr_req, upd_ne, upd_eq, ne_eq, Nat.reduceEqDiff, not_false_eq_true]; rw [h6, nI_1]; rfl
  · simp only [zwr_rne, zwr_req, upd_ne, upd_eq, ne_eq, Nat.reduceEqDiff, not_false_eq_true]; exact h7
  · simp only [zwr_rne, zwr_req, upd_ne, upd_eq, ne_eq, Nat.reduceEqDiff, not_false_eq_true]; exact h8
theorem c_em49 {G : zGT} {d : Nat} {Φ : zMem → Prop} {n : Nat} {ρ : zMem} {k0 : Nat} {S : zPS} {σ : zMem} {s v x : Int32} (hx : CX49 n ρ k0 S σ) (lt : S.2.2.1 < 96) (e : x = cod s v) (h : ∀ σ', CX49 n ρ k0 (sEm s v S) σ' → Φ σ') : CTV G d Y_X4_add [.inr (.inr 49), .inl x] σ Φ := by
  obtain ⟨h1, ⟨h2, h3, h4⟩, h5, h6, h7, h8⟩ := hx
  refine en_X4_add_i49 ?_
  rw [h7, if_neg (show ¬ Int32.ofNat 96 ≤ nI (S.2.2.1 - k0) from nI_ge (b := 96) (by omega) (by omega)), cln (by omega)]
  refine ⟨vin (by omega), ?_⟩
  rintro _ rfl _ rfl
  refine h _ ⟨(h1.wr (by simp)).wr (by simp), ⟨h2, by show S.2.2.1 + 1 ≤ 96; omega, by show k0 ≤ S.2.2.1 + 1; omega⟩, ?_, ?_, ?_, ?_⟩
  · simp only [zwr_rne, zwr_req, upd_ne, upd_eq, ne_eq, Nat.reduceEqDiff, not_false_eq_true]; exact h5
  · simp only [zwr_rne, zwr_req, upd_ne, upd_eq, ne_eq, Nat.reduceEqDiff, not_false_eq_true]; exact h6
  · simp only [zwr_rne, zwr_req, upd_ne, upd_eq, ne_eq, Nat.reduceEqDiff, not_false_eq_true]
    rw [h7, nI_1]
    show nI (S.2.2.1 - k0 + 1) = nI (S.2.2.1 + 1 - k0)
    rw [show S.2.2.1 - k0 + 1 = S.2.2.1 + 1 - k0 by omega]
  · intro i hi
    have hi : i < S.2.2.1 + 1 - k0 := hi
    simp only [zwr_rne, zwr_req, upd_ne, upd_eq, ne_eq, Nat.reduceEqDiff, not_false_eq_true]
    show upd (σ 50) (S.2.2.1 - k0) x i = cod (upd S.2.2.2.1 S.2.2.1 s (k0 + i)) (upd S.2.2.2.2 S.2.2.1 v (k0 + i))
    by_cases q : i = S.2.2.1 - k0
    · subst q
      rw [show k0 + (S.2.2.1 - k0) = S.2.2.1 by omega, upd_eq, upd_eq, upd_eq]
      exact e
    · rw [upd_ne q, upd_ne (show k0 + i ≠ S.2.2.1 by omega), upd_ne (show k0 + i ≠ S.2.2.1 by omega)]
      exact h8 i (by omega)
theorem c_fr49 {G : zGT} {d : Nat} {Φ : zMem → Prop} {n : Nat} {ρ : zMem} {k0 : Nat} {R : Bool × zPS} {σ : zMem} {x : Int32} (hx : CR49 n ρ k0 R σ) (e : ¬ R.1 = true) (h : ∀ σ', CR49 n ρ k0 R σ' → Φ σ') : CTV G d Y_X4_add [.inr (.inr 49), .inl x] σ Φ := by
  obtain ⟨h1, h2, h3, h4, h5⟩ := hx
  refine en_X4_add_i49 ?_
  have t96 : (Int32.ofNat 96).toInt = 96 := rfl
  refine zle (fun g => ?_) (fun g => ?_)
  · exact h σ ⟨h1, h2, h3, h4, h5⟩
  · rw [t96] at g
    refine ⟨vp_in_I.2 ⟨h4, by omega⟩, ?_⟩
    rintro _ rfl _ rfl
    refine h _ ⟨(h1.wr (by simp)).wr (by simp), h2, ?_, ?_, fun w => absurd w e⟩
    · simp only [zwr_rne, zwr_req, upd_ne, upd_eq, ne_eq, Nat.reduceEqDiff, not_false_eq_true]; exact h3
    · simp only [zwr_rne, zwr_req, upd_ne, upd_eq, ne_eq, Nat.reduceEqDiff, not_false_eq_true]
      rw [fb_addI (by rw [ti1]; omega) (by rw [ti1]; omega), ti1]; omega
theorem c_num49 {G : zGT} {d : Nat} {Φ : Int32 → zMem → Prop} {t : Nat → Int32} {n : Nat} {ρ : zMem} {k0 : Nat} {S : zPS} {σ : zMem} (hc : CC49 t n ρ) (hx : CX49 n ρ k0 S σ) (hk : S.2.2.1 < 96) (hd : isD (gtx t n S.1))
    (h1 : ¬ isD (gtx t n (dgs t n 6 0 S.1).2) → ∀ σ', CR49 n ρ k0 (true, sNum t n S) σ' → Φ 1 σ') (h0 : isD (gtx t n (dgs t n 6 0 S.1).2) → ∀ σ', CR49 n ρ k0 (false, sNum t n S) σ' → Φ 0 σ') : CTI G (d + 2) Y_X6_readsNumber [.inr (.inr 48)] σ Φ := by
  refine en_X6_readsNumber ?_
  have fin : ∀ (v : Int32) (p : Nat) (τ : zMem), CX49 n ρ k0 (sAt S p) τ → dgs t n 6 0 S.1 = (v, p) →
      (∀ s1 : zMem, s1 = zwr τ 48 5 ((τ 48 5) + 1) → (bif (zrcv (s1 48 3).toNatClampNeg 4 && true) then (CTV G (d + 1) Y_X4_add [.inr (.inr (s1 48 3).toNatClampNeg), .inl v] s1 (fun (s2 : zMem) => CTI G (d + 1) Y_X9_next [.inr (.inr 46)] s2 (fun (r4 : Int32) (s3 : zMem) => CTI G (d + 1) Y_X9_isDigit [.inl r4] s3 (fun (r6 : Int32) (s5 : zMem) => if r6 = 0 then (Φ 1 s5) else (Φ 0 s5))))) else False)) := by
    intro v p τ ht hv
    rintro _ rfl
    obtain ⟨g1, ⟨g2, g3, g4⟩, g5, g6, g7, g8⟩ := ht
    have f1 : CF49 ρ (zwr τ 48 5 ((τ 48 5) + 1)) := g1.wr (by simp)
    have x1 : CX49 n ρ k0 (p, S.2.1 + 1, S.2.2) (zwr τ 48 5 ((τ 48 5) + 1)) := by
      refine ⟨f1, ⟨g2, g3, g4⟩, ?_, ?_, ?_, ?_⟩
      · simp only [zwr_rne, zwr_req, upd_ne, upd_eq, ne_eq, Nat.reduceEqDiff, not_false_eq_true]; exact g5
      · rw [zwr_same, g6, nI_1]; rfl
      · simp only [zwr_rne, zwr_req, upd_ne, upd_eq, ne_eq, Nat.reduceEqDiff, not_false_eq_true]; exact g7
      · simp only [zwr_rne, zwr_req, upd_ne, upd_eq, ne_eq, Nat.reduceEqDiff, not_false_eq_true]; exact g8
    rw [hc.e3 f1, zr49, cond_true]
    refine c_em49 (s := 1) (v := v) x1 hk rfl (fun σ2 x2 => ?_)
    refine c_nx49 hc x2 ?_
    have es : sEm 1 v (p, S.2.1 + 1, S.2.2) = sNum t n S := by unfold sNum; rw [hv]
    rw [es] at x2
    have ep : gtx t n (sEm 1 v (p, S.2.1 + 1, S.2.2)).1 = gtx t n (dgs t n 6 0 S.1).2 := by rw [hv]; rfl
    rw [ep]
    refine c_isDigit (fun q => ?_) (fun q => ?_)
    · rw [if_neg (by decide)]
      exact h0 q _ x2.no
    · rw [if_pos rfl]
      exact h1 q _ x2.ok
  have L : ∀ f (v : Int32) p, f ≤ 6 → p ≤ n → ∀ τ : zMem, CX49 n ρ k0 (sAt S p) τ → dgs t n 6 0 S.1 = dgs t n f v p →
      WJ G M_X6_readsNumber (d + 2) (RI Φ) 4 [some (.inr (.inr 48)), some (.inl v), some (.inl (nI (6 - f)))] [] τ := by
    intro f
    induction f with
    | zero =>
      intro v p hf hp τ ht hv
      refine rg_X6_readsNumber_4 ?_
      rw [if_pos (by decide)]
      exact fin v p τ ht hv
    | succ f ih =>
      intro v p hf hp τ ht hv
      refine rg_X6_readsNumber_4 ?_
      rw [if_neg (show ¬ (6 : Int32) ≤ nI (6 - (f + 1)) from nI_ge (b := 6) (by omega) (by omega))]
      refine c_nx49 hc ht ?_
      show CTI G (d + 1) Y_X9_isDigit [.inl (gtx t n p)] τ _
      refine c_isDigit (fun q => ?_) (fun q => ?_)
      · rw [if_neg (by decide)]
        rw [dgs_y q] at hv
        have lt := isD_in q
        refine c_nx49 hc ht ?_
        show ∀ s19 : zMem, s19 = zwr τ 46 2 ((τ 46 2) + 1) → _
        rintro _ rfl
        rw [nI_1, show 6 - (f + 1) + 1 = 6 - f by omega]
        refine ih _ (p + 1) (by omega) (by omega) _ ?_ hv
        obtain ⟨g1, ⟨g2, g3, g4⟩, g5, g6, g7, g8⟩ := ht
        have g5 : τ 46 2 = nI p := g5
        refine ⟨g1.wr (by simp), ⟨by show p + 1 ≤ n; omega, g3, g4⟩, ?_, ?_, ?_, ?_⟩
        · rw [zwr_same, g5, nI_1]; rfl
        · simp only [zwr_rne, zwr_req, upd_ne, upd_eq, ne_eq, Nat.reduceEqDiff, not_false_eq_true]; exact g6
        · simp only [zwr_rne, zwr_req, upd_ne, upd_eq, ne_eq, Nat.reduceEqDiff, not_false_eq_true]; exact g7
        · simp only [zwr_rne, zwr_req, upd_ne, upd_eq, ne_eq, Nat.reduceEqDiff, not_false_eq_true]; exact g8
      · rw [if_pos rfl]
        rw [dgs_n q] at hv
        exact fin v p τ ht hv
  exact L 6 0 S.1 (Nat.le_refl _) hx.2.1.1 σ hx rfl
theorem c_sg49 {G : zGT} {d : Nat} {Φ : Int32 → zMem → Prop} {t : Nat → Int32} {n : Nat} {ρ : zMem} {k0 : Nat} {S : zPS} {σ : zMem} (hc : CC49 t n ρ) (hx : CX49 n ρ k0 S σ) (hl : lvl (gtx t n S.1) ≤ 4) (h : ∀ σ', CX49 n ρ k0 (sSg t n S) σ' → Φ (cod (sgs t n S) 0) σ') : CTI G (d + 1) Y_X6_takeSign [.inr (.inr 48)] σ Φ := by
  obtain ⟨o1, o2, o3, o4, o5, o6⟩ := lvl_op (t := t) (n := n) (S := S) rfl hl
  refine en_X6_takeSign ?_
  refine c_nx49 hc hx ?_
  refine c_st49 hx o2 (fun σ1 x1 => ?_)
  have two : ∀ c w : Int32, gtx t n S.1 = c → (c = 60 ∧ w = 4) ∨ (c = 62 ∧ w = 5) → CTI G d Y_X9_next [.inr (.inr 46)] σ1 (fun (r5 : Int32) (s4 : zMem) => if r5 = (61 : Int32) then (∀ s6 : zMem, s6 = zwr s4 46 2 ((s4 46 2) + (1 : Int32)) → (Φ ((-c) - (256 : Int32)) s6)) else (Φ (-c) s4)) := by
    intro c w ec hcw
    have m : gtx t n S.1 = 60 ∨ gtx t n S.1 = 62 := by
      rw [ec]
      rcases hcw with ⟨a, _⟩ | ⟨a, _⟩
      · exact Or.inl a
      · exact Or.inr a
    refine c_nx49 hc x1 ?_
    show if gtx t n (S.1 + 1) = 61 then _ else _
    by_cases e : gtx t n (S.1 + 1) = 61
    · rw [if_pos e]
      rintro _ rfl
      have lt2 : S.1 + 1 < n := gtx_in (fun z => by rw [z] at e; exact absurd e (by decide))
      have es : sSg t n S = (S.1 + 2, S.2.1 + 1, S.2.2) := by unfold sSg; rw [if_pos ⟨m, e⟩]
      have eg : sgs t n S = w := by
        unfold sgs
        rw [if_pos ⟨m, e⟩, ec]
        rcases hcw with ⟨a, b⟩ | ⟨a, b⟩
        · rw [if_pos a, b]
        · rw [if_neg (by rw [a]; decide), b]
      rw [es, eg] at h
      obtain ⟨g1, ⟨g2, g3, g4⟩, g5, g6, g7, g8⟩ := x1
      have hh := h (zwr σ1 46 2 ((σ1 46 2) + 1)) ⟨g1.wr (by simp), ⟨by show S.1 + 2 ≤ n; omega, g3, g4⟩, by rw [zwr_same, g5, nI_1]; rfl, by simp only [zwr_rne, zwr_req, upd_ne, upd_eq, ne_eq, Nat.reduceEqDiff, not_false_eq_true]; exact g6, by simp only [zwr_rne, zwr_req, upd_ne, upd_eq, ne_eq, Nat.reduceEqDiff, not_false_eq_true]; exact g7, by simp only [zwr_rne, zwr_req, upd_ne, upd_eq, ne_eq, Nat.reduceEqDiff, not_false_eq_true]; exact g8⟩
      rcases hcw with ⟨a, b⟩ | ⟨a, b⟩
      · subst a; subst b; exact hh
      · subst a; subst b; exact hh
    · rw [if_neg e]
      have es : sSg t n S = sAdv S := by unfold sSg; rw [if_neg (fun z => e z.2)]
      have eg : sgs t n S = c := by unfold sgs; rw [if_neg (fun z => e z.2), ec]
      rw [es, eg] at h
      have hh := h σ1 x1
      rcases hcw with ⟨a, b⟩ | ⟨a, b⟩
      · subst a; exact hh
      · subst a; exact hh
  by_cases e60 : gtx t n S.1 = 60
  · rw [if_pos e60]
    exact two _ 4 rfl (Or.inl ⟨e60, rfl⟩)
  rw [if_neg e60]
  by_cases e62 : gtx t n S.1 = 62
  · rw [if_pos e62]
    exact two _ 5 rfl (Or.inr ⟨e62, rfl⟩)
  rw [if_neg e62]
  have nm : ¬ ((gtx t n S.1 = 60 ∨ gtx t n S.1 = 62) ∧ gtx t n (S.1 + 1) = 61) := fun z => by rcases z.1 with w | w; exact e60 w; exact e62 w
  have es : sSg t n S = sAdv S := by unfold sSg; rw [if_neg nm]
  have eg : sgs t n S = gtx t n S.1 := by unfold sgs; rw [if_neg nm]
  rw [es, eg] at h
  rw [eg] at o1
  have hh := h σ1 x1
  have ec : cod (gtx t n S.1) 0 = -(gtx t n S.1) := by
    obtain ⟨n1, n2, n3, n4⟩ := isOp_not o1
    unfold cod
    rw [if_neg n1, if_neg n2, if_neg n3]
    rcases lvl_val (gtx t n S.1) with ⟨a, b⟩ | ⟨a, b⟩ | ⟨a, b⟩ | ⟨a, b⟩ | ⟨a, b⟩ | ⟨a, b⟩ | ⟨a, b⟩ | ⟨a, b⟩ | ⟨g1, g2, g3, g4, g5, g6, g7, g8, b⟩
    · rw [a]; decide
    · rw [a]; decide
    · rw [a]; decide
    · rw [a]; decide
    · rw [a]; decide
    · rw [a]; decide
    · rw [a]; decide
    · rw [a]; decide
    · omega
  rw [ec] at hh
  exact hh
/-- what a level one deeper does -/
def HL49 (G : zGT) (t : Nat → Int32) (n : Nat) (ρ : zMem) (k0 p0 dep : Nat) : Prop := ∀ (D : Nat) (S : zPS) (σ : zMem) (Φ : Int32 → zMem → Prop), dep < 8 → p0 < S.1 → S.2.2.1 ≤ S.1 → 9 * (8 - (dep + 1)) + 30 ≤ D → CX49 n ρ k0 S σ →
  (∀ R σ', Ev t n isPn 0 0 (dep + 1) S R → CR49 n ρ k0 R σ' → Φ (bI R.1) σ') → CTI G D Y_X6_readsLevel [.inr (.inr 48), .inl (nI 0), .inl (nI (dep + 1))] σ Φ
theorem c_bare49 {G : zGT} {D : Nat} {Φ : Int32 → zMem → Prop} {t : Nat → Int32} {n : Nat} {ρ : zMem} {k0 p0 dep : Nat} {S : zPS} {σ : zMem} (hc : CC49 t n ρ) (hH : HL49 G t n ρ k0 p0 dep) (hd : dep ≤ 8) (hx : CX49 n ρ k0 S σ) (hp : p0 ≤ S.1) (hk : S.2.2.1 ≤ S.1) (hD : 9 * (8 - dep) + 22 ≤ D)
    (h : ∀ R σ', Ev t n isPn 6 0 dep S R → CR49 n ρ k0 R σ' → Φ (bI R.1) σ') : CTI G D Y_X6_readsBare [.inr (.inr 48), .inl (nI dep)] σ Φ := by
  obtain ⟨D, rfl⟩ : ∃ x, D = x + 6 := ⟨D - 6, by omega⟩
  have n96 := hc.1.1
  have hS := hx.2.1.1
  refine en_X6_readsBare ?_
  refine c_nx49 hc hx ?_
  refine c_isDigit (fun q => ?_) (fun q => ?_)
  · rw [if_neg (by decide)]
    have lt := isD_in q
    refine c_num49 hc hx (by omega) q (fun e σ' r => ?_) (fun e σ' r => ?_)
    · rw [if_pos (Or.inr rfl)]
      exact h _ σ' (E_numY q e) r
    · rw [if_pos (Or.inl rfl)]
      exact h _ σ' (E_numN q e) r
  · rw [if_pos rfl]
    have among : ¬ (gtx t n S.1 = 40 ∧ dep < 8) → CTI G (D + 5) Y_X11_isAmong [.inr (.inr (σ 48 4).toNatClampNeg), .inl (gtx t n S.1)] σ (fun (r16 : Int32) (s15 : zMem) => if r16 = 0 then (Φ 0 s15) else (bif (zrcv (s15 48 3).toNatClampNeg 4 && true) then (CTV G (D + 5) Y_X4_add [.inr (.inr (s15 48 3).toNatClampNeg), .inl (-(gtx t n S.1))] s15 (fun (s17 : zMem) => CTV G (D + 5) Y_X6_step [.inr (.inr 48)] s17 (fun (s18 : zMem) => Φ 1 s18))) else False)) := by
      intro np
      rw [hc.e4 hx.1]
      refine c_isAmong1000 (fun w => ?_) (fun w => ?_)
      · rw [if_neg (by decide), hc.e3 hx.1, zr49, cond_true]
        have lt : S.1 < n := gtx_in (fun z => by rw [z] at w; exact absurd w (by unfold isPn; decide))
        have ec : -(gtx t n S.1) = cod 2 (gtx t n S.1) := rfl
        refine c_em49 (s := 2) (v := gtx t n S.1) hx (by omega) ec (fun σ1 x1 => ?_)
        refine c_st49 x1 lt (fun σ2 x2 => ?_)
        exact h (true, sEm 2 (gtx t n S.1) (sAdv S)) σ2 (E_name q np w) x2.ok
      · rw [if_pos rfl]
        exact h (false, S) σ (E_no q np w) hx.no
    by_cases e40 : gtx t n S.1 = 40
    · rw [if_pos e40]
      by_cases d8 : dep < 8
      · rw [if_neg (show ¬ (8 : Int32) ≤ nI dep from nI_ge (b := 8) (by omega) (by omega)), nI_1]
        have lt : S.1 < n := gtx_in (fun z => by rw [z] at e40; exact absurd e40 (by decide))
        refine c_st49 hx lt (fun σ1 x1 => ?_)
        refine hH (D + 5) (sAdv S) σ1 _ d8 (by show p0 < S.1 + 1; omega) (by show S.2.2.1 ≤ S.1 + 1; omega) (by omega) x1 (fun R σ2 ev r => ?_)
        by_cases e : R.1 = true
        · rw [e, if_neg (by decide)]
          have x2 := r.y e
          refine c_nw49 hc x2 (fun σ3 x3 => ?_)
          by_cases e41 : gtx t n (BL t n R.2.1) = 41
          · rw [if_pos e41]
            have lt2 : BL t n R.2.1 < n := gtx_in (fun z => by rw [z] at e41; exact absurd e41 (by decide))
            refine c_st49 x3 lt2 (fun σ4 x4 => ?_)
            exact h _ σ4 (E_parY ⟨e40, d8⟩ ev e e41) x4.ok
          · rw [if_neg e41]
            exact h _ σ3 (E_parN ⟨e40, d8⟩ ev e e41) x3.no
        · have eb : bI R.1 = 0 := by unfold bI; rw [if_neg e]
          rw [eb, if_pos rfl]
          have hh := h R σ2 (E_parF ⟨e40, d8⟩ ev e) r
          rw [eb] at hh
          exact hh
      · rw [if_pos (show (8 : Int32) ≤ nI dep from nI_le (a := 8) (by omega) (by omega))]
        exact among (fun z => d8 z.2)
    · rw [if_neg e40]
      exact among (fun z => e40 z.1)
theorem c_part49 {G : zGT} {D : Nat} {Φ : Int32 → zMem → Prop} {t : Nat → Int32} {n : Nat} {ρ : zMem} {k0 p0 dep : Nat} {S : zPS} {σ : zMem} (hN : ¬ isPn (-1)) (hc : CC49 t n ρ) (hH : HL49 G t n ρ k0 p0 dep) (hd : dep ≤ 8) (hx : CX49 n ρ k0 S σ) (hp : p0 ≤ S.1) (hk : S.2.2.1 ≤ S.1) (hD : 9 * (8 - dep) + 23 ≤ D)
    (h : ∀ R σ', Ev t n isPn 5 0 dep S R → CR49 n ρ k0 R σ' → Φ (bI R.1) σ') : CTI G D Y_X6_readsPart [.inr (.inr 48), .inl (nI dep)] σ Φ := by
  obtain ⟨D, rfl⟩ : ∃ x, D = x + 7 := ⟨D - 7, by omega⟩
  have n96 := hc.1.1
  refine en_X6_readsPart ?_
  have L : ∀ m a B : Nat, ∀ (S : zPS) (σ : zMem), n - S.1 ≤ m → a ≤ 20 → B < 2147483648 → B < 2 ^ a → CX49 n ρ k0 S σ → p0 ≤ S.1 → S.2.2.1 ≤ S.1 →
      (∀ R σ' (B' : Nat), B' < 2147483648 → (∀ i, i < a → B'.testBit i = B.testBit i) → Ev t n isPn 5 a dep S R → CR49 n ρ k0 R σ' → WJ G M_X6_readsPart (D + 7) (RI Φ) 96 [some (.inr (.inr 48)), none, some (.inl (nI B')), none, some (.inl (bI R.1)), some (.inl (nI a - 1))] [] σ') →
      (∀ R σ', R.1 = false → Ev t n isPn 5 a dep S R → CR49 n ρ k0 R σ' → Φ 0 σ') →
      WJ G M_X6_readsPart (D + 7) (RI Φ) 7 [some (.inr (.inr 48)), some (.inl (nI dep)), some (.inl (nI B)), some (.inl (nI a)), some (.inl (nI a)), none] [] σ := by
    intro m
    induction m with
    | zero =>
      intro a B S σ hm ha hB2 hB hx hp hk K1 K0
      refine rg_X6_readsPart_7 ?_
      rw [if_neg (show ¬ (96 : Int32) ≤ nI a from nI_ge (b := 96) (by omega) (by omega))]
      refine c_nw49 hc hx (fun σ1 x1 => ?_)
      have hS := hx.2.1.1
      have eB : gtx t n S.1 = -1 := gtx_ge (by omega)
      have eB2 : BL t n S.1 = S.1 := BL_n (by rw [eB]; decide)
      have ec : gtx t n (BL t n S.1) = -1 := by rw [eB2]; exact eB
      have b1 := BL_ge t n S.1
      have x1n : gtx t n (sBl t n S).1 = gtx t n (BL t n S.1) := rfl
      rw [if_neg (by rw [ec]; decide)]
      refine c_nx49 hc x1 ?_
      rw [x1n, if_neg (by rw [ec]; decide)]
      refine c_bare49 hc hH hd x1 (by show p0 ≤ BL t n S.1; omega) (by show S.2.2.1 ≤ BL t n S.1; omega) (by omega) (fun R σ' ev r => ?_)
      exact K1 R σ' B hB2 (fun _ _ => rfl) (E_bare (by rw [ec]; decide) ev) r
    | succ m ih =>
      intro a B S σ hm ha hB2 hB hx hp hk K1 K0
      refine rg_X6_readsPart_7 ?_
      rw [if_neg (show ¬ (96 : Int32) ≤ nI a from nI_ge (b := 96) (by omega) (by omega))]
      refine c_nw49 hc hx (fun σ1 x1 => ?_)
      have hS := hx.2.1.1
      have b1 := BL_ge t n S.1
      have b2 := BL_le (t := t) hS
      have x1n : gtx t n (sBl t n S).1 = gtx t n (BL t n S.1) := rfl
      -- a mark more
      have more : ∀ B2 : Nat, B2 < 2147483648 → B2 < 2 ^ (a + 1) → (∀ i, i < a → B2.testBit i = B.testBit i) → (B2.testBit a = true ↔ gtx t n (BL t n S.1) = 33) → (gtx t n (BL t n S.1) = 33 ∨ gtx t n (BL t n S.1) = 45) → a < 20 →
          ∀ σ2, CX49 n ρ k0 (sAdv (sBl t n S)) σ2 → WJ G M_X6_readsPart (D + 7) (RI Φ) 7 [some (.inr (.inr 48)), some (.inl (nI dep)), some (.inl (nI B2)), some (.inl (nI (a + 1))), some (.inl (nI (a + 1))), none] [] σ2 := by
        intro B2 q1 q2 q3 q4 q5 q6 σ2 x2
        have lt : BL t n S.1 < n := gtx_in (fun z => by rw [z] at q5; revert q5; decide)
        have hks : S.2.2.1 ≤ BL t n S.1 + 1 := by omega
        refine ih (a + 1) B2 (sAdv (sBl t n S)) σ2 (by show n - (BL t n S.1 + 1) ≤ m; omega) (by omega) q1 q2 x2 (by show p0 ≤ BL t n S.1 + 1; omega) hks (fun R σ' B' w1 w2 ev r => ?_) (fun R σ' w ev r => ?_)
        · refine rg_X6_readsPart_96 ?_
          have e1 : nI (a + 1) - 1 = nI a := nI_p2 (by omega)
          obtain ⟨y1, y2, y3⟩ := ev.good hN (by decide) (show BL t n S.1 + 1 ≤ n by omega)
          have f1 := r.1
          rw [e1, if_neg (nI_pos (by omega)), hc.e3 f1, zr49, cond_true, nI_m1]
          have bt := bt_test w1 (show a < 24 by omega)
          rw [w2 a (by omega), q4] at bt
          have K := fun σ3 r3 => K1 (if R.1 = true then (true, sEm (mrk (gtx t n (BL t n S.1))) 0 R.2) else R) σ3 B' w1 (fun i hi => (w2 i (by omega)).trans (q3 i hi)) (E_mark q5 q6 ev) r3
          by_cases e : R.1 = true
          · have x3 := r.y e
            obtain ⟨y4, _⟩ := y3 e
            have y4 : R.2.2.2.1 + (BL t n S.1 + 1) ≤ S.2.2.1 + R.2.1 := y4
            simp only [if_pos e] at K
            rw [e]
            by_cases c33 : gtx t n (BL t n S.1) = 33
            · rw [if_pos (bt.2 c33)]
              refine c_em49 (s := mrk (gtx t n (BL t n S.1))) (v := 0) x3 (by omega) (by rw [c33]; decide) (fun σ4 x4 => ?_)
              exact K σ4 x4.ok
            · rw [if_neg (fun z => c33 (bt.1 z))]
              have c45 : gtx t n (BL t n S.1) = 45 := by rcases q5 with z | z; exact absurd z c33; exact z
              refine c_em49 (s := mrk (gtx t n (BL t n S.1))) (v := 0) x3 (by omega) (by rw [c45]; decide) (fun σ4 x4 => ?_)
              exact K σ4 x4.ok
          · simp only [if_neg e] at K
            by_cases c33 : gtx t n (BL t n S.1) = 33
            · rw [if_pos (bt.2 c33)]
              exact c_fr49 r e (fun σ4 r4 => K σ4 r4)
            · rw [if_neg (fun z => c33 (bt.1 z))]
              exact c_fr49 r e (fun σ4 r4 => K σ4 r4)
        · have E := E_mark q5 q6 ev
          rw [if_neg (by rw [w]; decide)] at E
          exact K0 R σ' w E r
      have lt3 : a < 20 → (nI a < (20 : Int32)) := fun w => by rw [fa_lt, tin (by omega), ti20]; omega
      have ge3 : ¬ a < 20 → ¬ (nI a < (20 : Int32)) := fun w => by rw [fa_lt, tin (by omega), ti20]; omega
      have pw : 2 ^ (a + 1) = 2 * 2 ^ a := by rw [Nat.pow_succ, Nat.mul_comm]
      have p20 : 2 ^ a ≤ 1048576 := by
        have := Nat.pow_le_pow_right (n := 2) (by decide) ha
        exact this
      have za : B.testBit a = false := Nat.testBit_lt_two_pow hB
      by_cases c33 : gtx t n (BL t n S.1) = 33
      · rw [if_pos c33]
        by_cases a20 : a < 20
        · rw [if_pos (lt3 a20)]
          have lt : BL t n S.1 < n := gtx_in (fun z => by rw [z] at c33; exact absurd c33 (by decide))
          refine c_nx49 hc x1 ?_
          rw [x1n, if_pos c33]
          refine c_truth1 ?_
          refine c_st49 x1 lt (fun σ2 x2 => ?_)
          rw [bt_shl a (by omega), bt_or, nI_1]
          have o1 : B ||| 2 ^ a < 2 ^ (a + 1) := Nat.or_lt_two_pow (by omega) (by omega)
          refine more (B ||| 2 ^ a) (by omega) o1 (fun i hi => ?_) ?_ (Or.inl c33) a20 σ2 x2
          · rw [Nat.testBit_or, Nat.testBit_two_pow_of_ne (by omega), Bool.or_false]
          · rw [Nat.testBit_or, Nat.testBit_two_pow_self, Bool.or_true]
            exact ⟨fun _ => c33, fun _ => rfl⟩
        · rw [if_neg (ge3 a20)]
          exact K0 _ σ1 rfl (E_marks (Or.inl c33) a20) x1.no
      · rw [if_neg c33]
        refine c_nx49 hc x1 ?_
        rw [x1n]
        by_cases c45 : gtx t n (BL t n S.1) = 45
        · rw [if_pos c45]
          by_cases a20 : a < 20
          · rw [if_pos (lt3 a20)]
            have lt : BL t n S.1 < n := gtx_in (fun z => by rw [z] at c45; exact absurd c45 (by decide))
            refine c_nx49 hc x1 ?_
            rw [x1n, if_neg c33]
            refine c_truth0 ?_
            refine c_st49 x1 lt (fun σ2 x2 => ?_)
            rw [sh_0 a (by omega), show (0 : Int32) = nI 0 from rfl, bt_or, Nat.or_zero, nI_1]
            refine more B hB2 (by omega) (fun i hi => rfl) ?_ (Or.inr c45) a20 σ2 x2
            rw [za]
            exact ⟨fun z => (by cases z), fun z => absurd z c33⟩
          · rw [if_neg (ge3 a20)]
            exact K0 _ σ1 rfl (E_marks (Or.inr c45) a20) x1.no
        · rw [if_neg c45]
          refine c_bare49 hc hH hd x1 (by show p0 ≤ BL t n S.1; omega) (by show S.2.2.1 ≤ BL t n S.1; omega) (by omega) (fun R σ' ev r => ?_)
          exact K1 R σ' B hB2 (fun _ _ => rfl) (E_bare (fun z => by rcases z with z | z; exact c33 z; exact c45 z) ev) r
  refine L (n - S.1) 0 0 S σ (Nat.le_refl _) (by decide) (by decide) (by decide) hx hp hk (fun R σ' B' _ _ ev r => ?_) (fun R σ' w ev r => ?_)
  · refine rg_X6_readsPart_96 ?_
    rw [if_pos (by decide), if_pos (bI_01 R.1)]
    exact h R σ' ev r
  · have hh := h R σ' ev r
    rw [w] at hh
    exact hh
theorem c_level49 {G : zGT} {t : Nat → Int32} {n : Nat} {ρ : zMem} {k0 : Nat} (hN : ¬ isPn (-1)) (hc : CC49 t n ρ) : ∀ (m q dep D : Nat) (S : zPS) (σ : zMem) (Φ : Int32 → zMem → Prop), 40 * (n - S.1) + 30 - 2 * q ≤ m → q ≤ 5 → dep ≤ 8 → 9 * (8 - dep) + (30 - q) ≤ D → CX49 n ρ k0 S σ → S.2.2.1 ≤ S.1 →
    (∀ R σ', Ev t n isPn q 0 dep S R → CR49 n ρ k0 R σ' → Φ (bI R.1) σ') → CTI G D Y_X6_readsLevel [.inr (.inr 48), .inl (nI q), .inl (nI dep)] σ Φ := by
  intro m
  have n96 := hc.1.1
  induction m with
  | zero => intro q dep D S σ Φ hm hq; omega
  | succ m IH =>
    intro q dep D S σ Φ hm hq hd hD hx hk h
    obtain ⟨D, rfl⟩ : ∃ x, D = x + 8 := ⟨D - 8, by omega⟩
    have hS := hx.2.1.1
    refine en_X6_readsLevel ?_
    by_cases q5 : q = 5
    · subst q5
      rw [if_neg (by decide)]
      refine c_part49 (p0 := S.1) hN hc (fun D' S' σ' Φ' d8 p1 k1 hD' hx' h' => ?_) hd hx (Nat.le_refl _) hk (by omega) (fun R σ' ev r => ?_)
      · have hS' := hx'.2.1.1
        exact IH 0 (dep + 1) D' S' σ' Φ' (by omega) (by decide) (by omega) (by omega) hx' k1 h'
      · rw [if_pos (bI_01 R.1)]
        exact h R σ' ev r
    rw [if_pos (show nI q ≤ (4 : Int32) from nI_le (b := 4) (by omega) (by omega)), nI_1]
    refine IH (q + 1) dep (D + 7) S σ _ (by omega) (by omega) hd (by omega) hx hk (fun R1 σ1 ev1 r1 => ?_)
    by_cases e1 : R1.1 = true
    rotate_left
    · have eb : bI R1.1 = 0 := by unfold bI; rw [if_neg e1]
      have hh := h R1 σ1 (E_levN (by omega) ev1 e1) r1
      rw [eb] at hh ⊢
      refine rg_X6_readsLevel_23 ?_
      rw [if_neg (by decide), if_pos rfl, if_pos (Or.inl rfl)]
      exact hh
    have L : ∀ m2 : Nat, ∀ (S2 : zPS) (τ : zMem) (i : Nat), n - S2.1 ≤ m2 → i + (n - S2.1) ≤ 96 → S.1 ≤ S2.1 → S2.2.2.1 ≤ S2.1 → CX49 n ρ k0 S2 τ → (∀ R σ', Ev t n isPn (q + 10) 0 dep S2 R → CR49 n ρ k0 R σ' → Φ (bI R.1) σ') →
        WJ G M_X6_readsLevel (D + 8) (RI Φ) 23 [some (.inr (.inr 48)), some (.inl (nI q)), some (.inl (nI dep)), some (.inl 1), some (.inl (nI i)), none] [] τ := by
      intro m2
      induction m2 with
      | zero =>
        intro S2 τ i hm2 hi hp2 hk2 x2 H
        have hS2 := x2.2.1.1
        refine rg_X6_readsLevel_23 ?_
        have eB : gtx t n S2.1 = -1 := gtx_ge (by omega)
        have eB2 : BL t n S2.1 = S2.1 := BL_n (by rw [eB]; decide)
        have ec : gtx t n (BL t n S2.1) = -1 := by rw [eB2]; exact eB
        have l9 : lvl (gtx t n (BL t n S2.1)) = 9 := by rw [ec]; rfl
        have es : sBl t n S2 = S2 := by unfold sBl; rw [eB2]
        have ee : Ev t n isPn (q + 10) 0 dep S2 (true, sBl t n S2) := E_end (by omega) (by rw [l9]; omega)
        by_cases g : 96 ≤ i
        · rw [if_pos (show (96 : Int32) ≤ nI i from nI_le (a := 96) g (by omega)), if_pos (Or.inr rfl)]
          exact H _ τ ee (by rw [es]; exact x2.ok)
        · rw [if_neg (show ¬ (96 : Int32) ≤ nI i from nI_ge (b := 96) (by omega) (by omega)), if_neg (by decide)]
          refine c_nw49 hc x2 (fun σ3 x3 => ?_)
          refine c_levelOf (q := q) (by omega) (fun v hv => ?_)
          rw [if_neg (fun z => by rw [hv, l9] at z; omega), if_pos (Or.inr rfl)]
          exact H _ σ3 ee x3.ok
      | succ m2 ih2 =>
        intro S2 τ i hm2 hi hp2 hk2 x2 H
        have hS2 := x2.2.1.1
        refine rg_X6_readsLevel_23 ?_
        by_cases g : 96 ≤ i
        · have eB : gtx t n S2.1 = -1 := gtx_ge (by omega)
          have eB2 : BL t n S2.1 = S2.1 := BL_n (by rw [eB]; decide)
          have ec : gtx t n (BL t n S2.1) = -1 := by rw [eB2]; exact eB
          have l9 : lvl (gtx t n (BL t n S2.1)) = 9 := by rw [ec]; rfl
          have es : sBl t n S2 = S2 := by unfold sBl; rw [eB2]
          rw [if_pos (show (96 : Int32) ≤ nI i from nI_le (a := 96) g (by omega)), if_pos (Or.inr rfl)]
          exact H _ τ (E_end (by omega) (by rw [l9]; omega)) (by rw [es]; exact x2.ok)
        rw [if_neg (show ¬ (96 : Int32) ≤ nI i from nI_ge (b := 96) (by omega) (by omega)), if_neg (by decide)]
        have b1 := BL_ge t n S2.1
        refine c_nw49 hc x2 (fun σ3 x3 => ?_)
        refine c_levelOf (q := q) (by omega) (fun v hv => ?_)
        by_cases l : lvl (gtx t n (BL t n S2.1)) = q
        · rw [if_pos (hv.2 l)]
          obtain ⟨o1, o2, o3, o4, o5, o6⟩ := lvl_op (t := t) (n := n) (q := q) (S := sBl t n S2) l (by omega)
          have o2 : BL t n S2.1 < n := o2
          have o4 : BL t n S2.1 < (sSg t n (sBl t n S2)).1 := o4
          have o6 : (sSg t n (sBl t n S2)).2.2 = S2.2.2 := o6
          refine c_sg49 hc x3 (by show lvl (gtx t n (BL t n S2.1)) ≤ 4; omega) (fun σ4 x4 => ?_)
          rw [nI_1]
          refine IH (q + 1) dep (D + 7) (sSg t n (sBl t n S2)) σ4 _ (by omega) (by omega) hd (by omega) x4 (by rw [o6]; omega) (fun R5 σ5 ev5 r5 => ?_)
          rw [hc.e3 r5.1, zr49, cond_true]
          obtain ⟨y1, y2, y3⟩ := ev5.good hN (by omega) o3
          have ql : lvl (gtx t n (BL t n S2.1)) + 10 = q + 10 := by omega
          have ev5' : Ev t n isPn (q + 10 - 9) 0 dep (sSg t n (sBl t n S2)) R5 := by
            rw [show q + 10 - 9 = q + 1 by omega]; exact ev5
          by_cases e5 : R5.1 = true
          · obtain ⟨y4, _⟩ := y3 e5
            rw [o6] at y4
            have eb : bI R5.1 = 1 := by unfold bI; rw [if_pos e5]
            refine c_em49 (s := sgs t n (sBl t n S2)) (v := 0) (r5.y e5) (by omega) rfl (fun σ6 x6 => ?_)
            rw [eb]
            by_cases q2 : q = 2
            · rw [if_pos (show nI q = (2 : Int32) from by rw [q2]; rfl), if_pos (Or.inr rfl)]
              exact H _ σ6 (E_go2 (by omega) ql ev5' e5) x6.ok
            · rw [if_neg (show ¬ nI q = (2 : Int32) from fun z => q2 ((nI_inj (b := 2) (by omega) (by omega)).1 z)), nI_1]
              refine ih2 (sEm (sgs t n (sBl t n S2)) 0 R5.2) σ6 (i + 1) (by show n - R5.2.1 ≤ m2; omega) (by show i + 1 + (n - R5.2.1) ≤ 96; omega) (by show S.1 ≤ R5.2.1; omega) (by show R5.2.2.2.1 + 1 ≤ R5.2.1; omega) x6 (fun R σ' ev r => ?_)
              exact H R σ' (E_go (by omega) (by omega) ql ev5' e5 ev) r
          · have eb : bI R5.1 = 0 := by unfold bI; rw [if_neg e5]
            refine c_fr49 r5 e5 (fun σ6 r6 => ?_)
            have hh := H R5 σ6 (E_goF (by omega) ql ev5' e5) r6
            rw [eb] at hh ⊢
            by_cases q2 : nI q = (2 : Int32)
            · rw [if_pos q2, if_pos (Or.inl rfl)]
              exact hh
            · rw [if_neg q2]
              refine rg_X6_readsLevel_23 ?_
              by_cases g9 : (96 : Int32) ≤ nI i + 1
              · rw [if_pos g9, if_pos (Or.inl rfl)]; exact hh
              · rw [if_neg g9, if_pos rfl, if_pos (Or.inl rfl)]; exact hh
        · rw [if_neg (fun z => l (hv.1 z)), if_pos (Or.inr rfl)]
          exact H _ σ3 (E_end (by omega) (by omega)) x3.ok
    obtain ⟨y1, y2, y3⟩ := ev1.good hN (by omega) hS
    obtain ⟨y4, _⟩ := y3 e1
    have eb : bI R1.1 = 1 := by unfold bI; rw [if_pos e1]
    rw [eb]
    exact L (n - R1.2.1) R1.2 σ1 0 (Nat.le_refl _) (by omega) y1 (by omega) (r1.y e1) (fun R σ' ev r => h R σ' (E_levY (by omega) ev1 e1 ev) r)
-- the class reads a law: into 52
def CF52 (ρ σ : zMem) : Prop := (∀ a, a ≠ 46 → a ≠ 48 → a ≠ 52 → a ≠ 53 → σ a = ρ a) ∧ (∀ j, j ≠ 2 → σ 46 j = ρ 46 j) ∧ ∀ j, j ≠ 5 → σ 48 j = ρ 48 j
theorem CF52.wr {ρ σ : zMem} (h : CF52 ρ σ) {k j : Nat} {v : Int32} (hk : k = 52 ∨ k = 53 ∨ (k = 46 ∧ j = 2) ∨ (k = 48 ∧ j = 5)) : CF52 ρ (zwr σ k j v) := by
  obtain ⟨h1, h2, h3⟩ := h
  refine ⟨fun a a1 a2 a3 a4 => ?_, fun i hi => ?_, fun i hi => ?_⟩
  · rw [zwr_rne (by omega)]; exact h1 a a1 a2 a3 a4
  · by_cases e : k = 46
    · subst e
      rw [zwr_req, upd_ne (by omega)]; exact h2 i hi
    · rw [zwr_rne (by omega)]; exact h2 i hi
  · by_cases e : k = 48
    · subst e
      rw [zwr_req, upd_ne (by omega)]; exact h3 i hi
    · rw [zwr_rne (by omega)]; exact h3 i hi
theorem CF52.nx {ρ σ σ' : zMem} (h : CF52 ρ σ) (f1 : ∀ a, a ≠ 46 → σ' a = σ a) (f2 : ∀ j, j ≠ 2 → σ' 46 j = σ 46 j) : CF52 ρ σ' :=
  ⟨fun a a1 a2 a3 a4 => (f1 a a1).trans (h.1 a a1 a2 a3 a4), fun j hj => (f2 j hj).trans (h.2.1 j hj), fun j hj => by rw [f1 48 (by decide)]; exact h.2.2 j hj⟩
theorem CF52.ad {ρ σ σ' : zMem} (h : CF52 ρ σ) (f : ∀ a, a ≠ 52 → a ≠ 53 → σ' a = σ a) : CF52 ρ σ' :=
  ⟨fun a a1 a2 a3 a4 => (f a a3 a4).trans (h.1 a a1 a2 a3 a4), fun j hj => by rw [f 46 (by decide) (by decide)]; exact h.2.1 j hj, fun j hj => by rw [f 48 (by decide) (by decide)]; exact h.2.2 j hj⟩
def CC52 (t : Nat → Int32) (n : Nat) (ρ : zMem) : Prop := CT t n ρ ∧ ρ 48 3 = nI 52 ∧ ρ 48 4 = nI 1001
theorem CC52.ct {t : Nat → Int32} {n : Nat} {ρ σ : zMem} (h : CC52 t n ρ) (f : CF52 ρ σ) : CT t n σ := h.1.mv (f.2.1 1 (by decide)) (f.1 47 (by decide) (by decide) (by decide) (by decide))
theorem CC52.e3 {t : Nat → Int32} {n : Nat} {ρ σ : zMem} (h : CC52 t n ρ) (f : CF52 ρ σ) : (σ 48 3).toNatClampNeg = 52 := by
  rw [f.2.2 3 (by decide), h.2.1]; decide
theorem CC52.e4 {t : Nat → Int32} {n : Nat} {ρ σ : zMem} (h : CC52 t n ρ) (f : CF52 ρ σ) : (σ 48 4).toNatClampNeg = 1001 := by
  rw [f.2.2 4 (by decide), h.2.2]; decide
theorem zr52 : (zrcv 52 4 && true) = true := by decide
def CX52 (n : Nat) (ρ : zMem) (k0 : Nat) (S : zPS) (σ : zMem) : Prop := CF52 ρ σ ∧ (S.1 ≤ n ∧ S.2.2.1 ≤ 96 ∧ k0 ≤ S.2.2.1) ∧ σ 46 2 = nI S.1 ∧ σ 48 5 = nI S.2.1 ∧ σ 52 2 = nI (S.2.2.1 - k0) ∧ ∀ i, i < S.2.2.1 - k0 → σ 53 i = cod (S.2.2.2.1 (k0 + i)) (S.2.2.2.2 (k0 + i))
def CR52 (n : Nat) (ρ : zMem) (k0 : Nat) (R : Bool × zPS) (σ : zMem) : Prop := CF52 ρ σ ∧ R.2.1 ≤ n ∧ σ 46 2 = nI R.2.1 ∧ 0 ≤ (σ 52 2).toInt ∧ (R.1 = true → CX52 n ρ k0 R.2 σ)
theorem CX52.nn {n : Nat} {ρ : zMem} {k0 : Nat} {S : zPS} {σ : zMem} (h : CX52 n ρ k0 S σ) : 0 ≤ (σ 52 2).toInt := by
  obtain ⟨h1, ⟨h2, h3, h4⟩, h5, h6, h7, h8⟩ := h
  rw [h7, tin (by omega)]; omega
theorem CX52.ok {n : Nat} {ρ : zMem} {k0 : Nat} {S : zPS} {σ : zMem} (h : CX52 n ρ k0 S σ) : CR52 n ρ k0 (true, S) σ := ⟨h.1, h.2.1.1, h.2.2.1, h.nn, fun _ => h⟩
theorem CX52.no {n : Nat} {ρ : zMem} {k0 : Nat} {S : zPS} {σ : zMem} (h : CX52 n ρ k0 S σ) : CR52 n ρ k0 (false, S) σ := ⟨h.1, h.2.1.1, h.2.2.1, h.nn, fun w => by cases w⟩
theorem CR52.y {n : Nat} {ρ : zMem} {k0 : Nat} {R : Bool × zPS} {σ : zMem} (h : CR52 n ρ k0 R σ) (e : R.1 = true) : CX52 n ρ k0 R.2 σ := h.2.2.2.2 e
theorem CX52.nx {t : Nat → Int32} {n : Nat} {ρ : zMem} {k0 : Nat} {S : zPS} {σ σ' : zMem} (h : CX52 n ρ k0 S σ) (f1 : ∀ a, a ≠ 46 → σ' a = σ a) (f2 : ∀ j, j ≠ 2 → σ' 46 j = σ 46 j) (f3 : σ' 46 2 = nI (BL t n S.1)) : CX52 n ρ k0 (sBl t n S) σ' := by
  obtain ⟨h1, ⟨h2, h3, h4⟩, h5, h6, h7, h8⟩ := h
  refine ⟨h1.nx f1 f2, ⟨BL_le h2, h3, h4⟩, f3, ?_, ?_, ?_⟩
  · rw [f1 48 (by decide)]; exact h6
  · rw [f1 52 (by decide)]; exact h7
  · rw [f1 53 (by decide)]; exact h8
theorem c_nw52 {G : zGT} {d : Nat} {Φ : Int32 → zMem → Prop} {t : Nat → Int32} {n : Nat} {ρ : zMem} {k0 : Nat} {S : zPS} {σ : zMem} (hc : CC52 t n ρ) (hx : CX52 n ρ k0 S σ) (h : ∀ σ', CX52 n ρ k0 (sBl t n S) σ' → Φ (gtx t n (BL t n S.1)) σ') : CTI G (d + 1) Y_X9_nextWord [.inr (.inr 46)] σ Φ :=
  c_nextWord (hc.ct hx.1) hx.2.2.1 hx.2.1.1 (fun σ' f1 f2 f3 => h σ' (hx.nx f1 f2 f3))
theorem c_nx52 {G : zGT} {d : Nat} {Φ : Int32 → zMem → Prop} {t : Nat → Int32} {n : Nat} {ρ : zMem} {k0 : Nat} {S : zPS} {σ : zMem} (hc : CC52 t n ρ) (hx : CX52 n ρ k0 S σ) (h : Φ (gtx t n S.1) σ) : CTI G d Y_X9_next [.inr (.inr 46)] σ Φ :=
  c_next (hc.ct hx.1) hx.2.2.1 hx.2.1.1 h
theorem c_st52 {G : zGT} {d : Nat} {Φ : zMem → Prop} {n : Nat} {ρ : zMem} {k0 : Nat} {S : zPS} {σ : zMem} (hx : CX52 n ρ k0 S σ) (lt : S.1 < n) (h : ∀ σ', CX52 n ρ k0 (sAdv S) σ' → Φ σ') : CTV G d Y_X6_step [.inr (.inr 48)] σ Φ := by
  obtain ⟨h1, ⟨h2, h3, h4⟩, h5, h6, h7, h8⟩ := hx
  refine en_X6_step ?_
  rintro _ rfl _ rfl
  refine h _ ⟨(h1.wr (by simp)).wr (by simp), ⟨by show S.1 + 1 ≤ n; omega, h3, h4⟩, ?_, ?_, ?_, ?_⟩
  · simp only [zwr_rne, zwr_req, upd_ne, upd_eq, ne_eq, Nat.reduceEqDiff, not_false_eq_true]; rw [h5, nI_1]; rfl
  · simp only [zwr_rne, zwr_req, upd_ne, upd_eq, ne_eq, Nat.reduceEqDiff, not_false_eq_true]; rw [h6, nI_1]; rfl
  · simp only [zwr_rne, zwr_req, upd_ne, upd_eq, ne_eq, Nat.reduceEqDiff, not_false_eq_true]; exact h7
  · simp only [zwr_rne, zwr_req, upd_ne, upd_eq, ne_eq, Nat.reduceEqDiff, not_false_eq_true]; exact h8
theorem c_em52 {G : zGT} {d : Nat} {Φ : zMem → Prop} {n : Nat} {ρ : zMem} {k0 : Nat} {S : zPS} {σ : zMem} {s v x : Int32} (hx : CX52 n ρ k0 S σ) (lt : S.2.2.1 < 96) (e : x = cod s v) (h : ∀ σ', CX52 n ρ k0 (sEm s v S) σ' → Φ σ') : CTV G d Y_X4_add [.inr (.inr 52), .inl x] σ Φ := by
  obtain ⟨h1, ⟨h2, h3, h4⟩, h5, h6, h7, h8⟩ := hx
  refine en_X4_add_i52 ?_
  rw [h7, if_neg (show ¬ Int32.ofNat 96 ≤ nI (S.2.2.1 - k0) from nI_ge (b := 96) (by omega) (by omega)), cln (by omega)]
  refine ⟨vin (by omega), ?_⟩
  rintro _ rfl _ rfl
  refine h _ ⟨(h1.wr (by simp)).wr (by simp), ⟨h2, by show S.2.2.1 + 1 ≤ 96; omega, by show k0 ≤ S.2.2.1 + 1; omega⟩, ?_, ?_, ?_, ?_⟩
  · simp only [zwr_rne, zwr_req, upd_ne, upd_eq, ne_eq, Nat.reduceEqDiff, not_false_eq_true]; exact h5
  · simp only [zwr_rne, zwr_req, upd_ne, upd_eq, ne_eq, Nat.reduceEqDiff, not_false_eq_true]; exact h6
  · simp only [zwr_rne, zwr_req, upd_ne, upd_eq, ne_eq, Nat.reduceEqDiff, not_false_eq_true]
    rw [h7, nI_1]
    show nI (S.2.2.1 - k0 + 1) = nI (S.2.2.1 + 1 - k0)
    rw [show S.2.2.1 - k0 + 1 = S.2.2.1 + 1 - k0 by omega]
  · intro i hi
    have hi : i < S.2.2.1 + 1 - k0 := hi
    simp only [zwr_rne, zwr_req, upd_ne, upd_eq, ne_eq, Nat.reduceEqDiff, not_false_eq_true]
    show upd (σ 53) (S.2.2.1 - k0) x i = cod (upd S.2.2.2.1 S.2.2.1 s (k0 + i)) (upd S.2.2.2.2 S.2.2.1 v (k0 + i))
    by_cases q : i = S.2.2.1 - k0
    · subst q
      rw [show k0 + (S.2.2.1 - k0) = S.2.2.1 by omega, upd_eq, upd_eq, upd_eq]
      exact e
    · rw [upd_ne q, upd_ne (show k0 + i ≠ S.2.2.1 by omega), upd_ne (show k0 + i ≠ S.2.2.1 by omega)]
      exact h8 i (by omega)
theorem c_fr52 {G : zGT} {d : Nat} {Φ : zMem → Prop} {n : Nat} {ρ : zMem} {k0 : Nat} {R : Bool × zPS} {σ : zMem} {x : Int32} (hx : CR52 n ρ k0 R σ) (e : ¬ R.1 = true) (h : ∀ σ', CR52 n ρ k0 R σ' → Φ σ') : CTV G d Y_X4_add [.inr (.inr 52), .inl x] σ Φ := by
  obtain ⟨h1, h2, h3, h4, h5⟩ := hx
  refine en_X4_add_i52 ?_
  have t96 : (Int32.ofNat 96).toInt = 96 := rfl
  refine zle (fun g => ?_) (fun g => ?_)
  · exact h σ ⟨h1, h2, h3, h4, h5⟩
  · rw [t96] at g
    refine ⟨vp_in_I.2 ⟨h4, by omega⟩, ?_⟩
    rintro _ rfl _ rfl
    refine h _ ⟨(h1.wr (by simp)).wr (by simp), h2, ?_, ?_, fun w => absurd w e⟩
    · simp only [zwr_rne, zwr_req, upd_ne, upd_eq, ne_eq, Nat.reduceEqDiff, not_false_eq_true]; exact h3
    · simp only [zwr_rne, zwr_req, upd_ne, upd_eq, ne_eq, Nat.reduceEqDiff, not_false_eq_true]
      rw [fb_addI (by rw [ti1]; omega) (by rw [ti1]; omega), ti1]; omega
theorem c_num52 {G : zGT} {d : Nat} {Φ : Int32 → zMem → Prop} {t : Nat → Int32} {n : Nat} {ρ : zMem} {k0 : Nat} {S : zPS} {σ : zMem} (hc : CC52 t n ρ) (hx : CX52 n ρ k0 S σ) (hk : S.2.2.1 < 96) (hd : isD (gtx t n S.1))
    (h1 : ¬ isD (gtx t n (dgs t n 6 0 S.1).2) → ∀ σ', CR52 n ρ k0 (true, sNum t n S) σ' → Φ 1 σ') (h0 : isD (gtx t n (dgs t n 6 0 S.1).2) → ∀ σ', CR52 n ρ k0 (false, sNum t n S) σ' → Φ 0 σ') : CTI G (d + 2) Y_X6_readsNumber [.inr (.inr 48)] σ Φ := by
  refine en_X6_readsNumber ?_
  have fin : ∀ (v : Int32) (p : Nat) (τ : zMem), CX52 n ρ k0 (sAt S p) τ → dgs t n 6 0 S.1 = (v, p) →
      (∀ s1 : zMem, s1 = zwr τ 48 5 ((τ 48 5) + 1) → (bif (zrcv (s1 48 3).toNatClampNeg 4 && true) then (CTV G (d + 1) Y_X4_add [.inr (.inr (s1 48 3).toNatClampNeg), .inl v] s1 (fun (s2 : zMem) => CTI G (d + 1) Y_X9_next [.inr (.inr 46)] s2 (fun (r4 : Int32) (s3 : zMem) => CTI G (d + 1) Y_X9_isDigit [.inl r4] s3 (fun (r6 : Int32) (s5 : zMem) => if r6 = 0 then (Φ 1 s5) else (Φ 0 s5))))) else False)) := by
    intro v p τ ht hv
    rintro _ rfl
    obtain ⟨g1, ⟨g2, g3, g4⟩, g5, g6, g7, g8⟩ := ht
    have f1 : CF52 ρ (zwr τ 48 5 ((τ 48 5) + 1)) := g1.wr (by simp)
    have x1 : CX52 n ρ k0 (p, S.2.1 + 1, S.2.2) (zwr τ 48 5 ((τ 48 5) + 1)) := by
      refine ⟨f1, ⟨g2, g3, g4⟩, ?_, ?_, ?_, ?_⟩
      · simp only [zwr_rne, zwr_req, upd_ne, upd_eq, ne_eq, Nat.reduceEqDiff, not_false_eq_true]; exact g5
      · rw [zwr_same, g6, nI_1]; rfl
      · simp only [zwr_rne, zwr_req, upd_ne, upd_eq, ne_eq, Nat.reduceEqDiff, not_false_eq_true]; exact g7
      · simp only [zwr_rne, zwr_req, upd_ne, upd_eq, ne_eq, Nat.reduceEqDiff, not_false_eq_true]; exact g8
    rw [hc.e3 f1, zr52, cond_true]
    refine c_em52 (s := 1) (v := v) x1 hk rfl (fun σ2 x2 => ?_)
    refine c_nx52 hc x2 ?_
    have es : sEm 1 v (p, S.2.1 + 1, S.2.2) = sNum t n S := by unfold sNum; rw [hv]
    rw [es] at x2
    have ep : gtx t n (sEm 1 v (p, S.2.1 + 1, S.2.2)).1 = gtx t n (dgs t n 6 0 S.1).2 := by rw [hv]; rfl
    rw [ep]
    refine c_isDigit (fun q => ?_) (fun q => ?_)
    · rw [if_neg (by decide)]
      exact h0 q _ x2.no
    · rw [if_pos rfl]
      exact h1 q _ x2.ok
  have L : ∀ f (v : Int32) p, f ≤ 6 → p ≤ n → ∀ τ : zMem, CX52 n ρ k0 (sAt S p) τ → dgs t n 6 0 S.1 = dgs t n f v p →
      WJ G M_X6_readsNumber (d + 2) (RI Φ) 4 [some (.inr (.inr 48)), some (.inl v), some (.inl (nI (6 - f)))] [] τ := by
    intro f
    induction f with
    | zero =>
      intro v p hf hp τ ht hv
      refine rg_X6_readsNumber_4 ?_
      rw [if_pos (by decide)]
      exact fin v p τ ht hv
    | succ f ih =>
      intro v p hf hp τ ht hv
      refine rg_X6_readsNumber_4 ?_
      rw [if_neg (show ¬ (6 : Int32) ≤ nI (6 - (f + 1)) from nI_ge (b := 6) (by omega) (by omega))]
      refine c_nx52 hc ht ?_
      show CTI G (d + 1) Y_X9_isDigit [.inl (gtx t n p)] τ _
      refine c_isDigit (fun q => ?_) (fun q => ?_)
      · rw [if_neg (by decide)]
        rw [dgs_y q] at hv
        have lt := isD_in q
        refine c_nx52 hc ht ?_
        show ∀ s19 : zMem, s19 = zwr τ 46 2 ((τ 46 2) + 1) → _
        rintro _ rfl
        rw [nI_1, show 6 - (f + 1) + 1 = 6 - f by omega]
        refine ih _ (p + 1) (by omega) (by omega) _ ?_ hv
        obtain ⟨g1, ⟨g2, g3, g4⟩, g5, g6, g7, g8⟩ := ht
        have g5 : τ 46 2 = nI p := g5
        refine ⟨g1.wr (by simp), ⟨by show p + 1 ≤ n; omega, g3, g4⟩, ?_, ?_, ?_, ?_⟩
        · rw [zwr_same, g5, nI_1]; rfl
        · simp only [zwr_rne, zwr_req, upd_ne, upd_eq, ne_eq, Nat.reduceEqDiff, not_false_eq_true]; exact g6
        · simp only [zwr_rne, zwr_req, upd_ne, upd_eq, ne_eq, Nat.reduceEqDiff, not_false_eq_true]; exact g7
        · simp only [zwr_rne, zwr_req, upd_ne, upd_eq, ne_eq, Nat.reduceEqDiff, not_false_eq_true]; exact g8
      · rw [if_pos rfl]
        rw [dgs_n q] at hv
        exact fin v p τ ht hv
  exact L 6 0 S.1 (Nat.le_refl _) hx.2.1.1 σ hx rfl
theorem c_sg52 {G : zGT} {d : Nat} {Φ : Int32 → zMem → Prop} {t : Nat → Int32} {n : Nat} {ρ : zMem} {k0 : Nat} {S : zPS} {σ : zMem} (hc : CC52 t n ρ) (hx : CX52 n ρ k0 S σ) (hl : lvl (gtx t n S.1) ≤ 4) (h : ∀ σ', CX52 n ρ k0 (sSg t n S) σ' → Φ (cod (sgs t n S) 0) σ') : CTI G (d + 1) Y_X6_takeSign [.inr (.inr 48)] σ Φ := by
  obtain ⟨o1, o2, o3, o4, o5, o6⟩ := lvl_op (t := t) (n := n) (S := S) rfl hl
  refine en_X6_takeSign ?_
  refine c_nx52 hc hx ?_
  refine c_st52 hx o2 (fun σ1 x1 => ?_)
  have two : ∀ c w : Int32, gtx t n S.1 = c → (c = 60 ∧ w = 4) ∨ (c = 62 ∧ w = 5) → CTI G d Y_X9_next [.inr (.inr 46)] σ1 (fun (r5 : Int32) (s4 : zMem) => if r5 = (61 : Int32) then (∀ s6 : zMem, s6 = zwr s4 46 2 ((s4 46 2) + (1 : Int32)) → (Φ ((-c) - (256 : Int32)) s6)) else (Φ (-c) s4)) := by
    intro c w ec hcw
    have m : gtx t n S.1 = 60 ∨ gtx t n S.1 = 62 := by
      rw [ec]
      rcases hcw with ⟨a, _⟩ | ⟨a, _⟩
      · exact Or.inl a
      · exact Or.inr a
    refine c_nx52 hc x1 ?_
    show if gtx t n (S.1 + 1) = 61 then _ else _
    by_cases e : gtx t n (S.1 + 1) = 61
    · rw [if_pos e]
      rintro _ rfl
      have lt2 : S.1 + 1 < n := gtx_in (fun z => by rw [z] at e; exact absurd e (by decide))
      have es : sSg t n S = (S.1 + 2, S.2.1 + 1, S.2.2) := by unfold sSg; rw [if_pos ⟨m, e⟩]
      have eg : sgs t n S = w := by
        unfold sgs
        rw [if_pos ⟨m, e⟩, ec]
        rcases hcw with ⟨a, b⟩ | ⟨a, b⟩
        · rw [if_pos a, b]
        · rw [if_neg (by rw [a]; decide), b]
      rw [es, eg] at h
      obtain ⟨g1, ⟨g2, g3, g4⟩, g5, g6, g7, g8⟩ := x1
      have hh := h (zwr σ1 46 2 ((σ1 46 2) + 1)) ⟨g1.wr (by simp), ⟨by show S.1 + 2 ≤ n; omega, g3, g4⟩, by rw [zwr_same, g5, nI_1]; rfl, by simp only [zwr_rne, zwr_req, upd_ne, upd_eq, ne_eq, Nat.reduceEqDiff, not_false_eq_true]; exact g6, by simp only [zwr_rne, zwr_req, upd_ne, upd_eq, ne_eq, Nat.reduceEqDiff, not_false_eq_true]; exact g7, by simp only [zwr_rne, zwr_req, upd_ne, upd_eq, ne_eq, Nat.reduceEqDiff, not_false_eq_true]; exact g8⟩
      rcases hcw with ⟨a, b⟩ | ⟨a, b⟩
      · subst a; subst b; exact hh
      · subst a; subst b; exact hh
    · rw [if_neg e]
      have es : sSg t n S = sAdv S := by unfold sSg; rw [if_neg (fun z => e z.2)]
      have eg : sgs t n S = c := by unfold sgs; rw [if_neg (fun z => e z.2), ec]
      rw [es, eg] at h
      have hh := h σ1 x1
      rcases hcw with ⟨a, b⟩ | ⟨a, b⟩
      · subst a; exact hh
      · subst a; exact hh
  by_cases e60 : gtx t n S.1 = 60
  · rw [if_pos e60]
    exact two _ 4 rfl (Or.inl ⟨e60, rfl⟩)
  rw [if_neg e60]
  by_cases e62 : gtx t n S.1 = 62
  · rw [if_pos e62]
    exact two _ 5 rfl (Or.inr ⟨e62, rfl⟩)
  rw [if_neg e62]
  have nm : ¬ ((gtx t n S.1 = 60 ∨ gtx t n S.1 = 62) ∧ gtx t n (S.1 + 1) = 61) := fun z => by rcases z.1 with w | w; exact e60 w; exact e62 w
  have es : sSg t n S = sAdv S := by unfold sSg; rw [if_neg nm]
  have eg : sgs t n S = gtx t n S.1 := by unfold sgs; rw [if_neg nm]
  rw [es, eg] at h
  rw [eg] at o1
  have hh := h σ1 x1
  have ec : cod (gtx t n S.1) 0 = -(gtx t n S.1) := by
    obtain ⟨n1, n2, n3, n4⟩ := isOp_not o1
    unfold cod
    rw [if_neg n1, if_neg n2, if_neg n3]
    rcases lvl_val (gtx t n S.1) with ⟨a, b⟩ | ⟨a, b⟩ | ⟨a, b⟩ | ⟨a, b⟩ | ⟨a, b⟩ | ⟨a, b⟩ | ⟨a, b⟩ | ⟨a, b⟩ | ⟨g1, g2, g3, g4, g5, g6, g7, g8, b⟩
    · rw [a]; decide
    · rw [a]; decide
    · rw [a]; decide
    · rw [a]; decide
    · rw [a]; decide
    · rw [a]; decide
    · rw [a]; decide
    · rw [a]; decide
    · omega
  rw [ec] at hh
  exact hh
/-- what a level one deeper does -/
def HL52 (G : zGT) (t : Nat → Int32) (n : Nat) (ρ : zMem) (k0 p0 dep : Nat) : Prop := ∀ (D : Nat) (S : zPS) (σ : zMem) (Φ : Int32 → zMem → Prop), dep < 8 → p0 < S.1 → S.2.2.1 ≤ S.1 → 9 * (8 - (dep + 1)) + 30 ≤ D → CX52 n ρ k0 S σ →
  (∀ R σ', Ev t n isBn 0 0 (dep + 1) S R → CR52 n ρ k0 R σ' → Φ (bI R.1) σ') → CTI G D Y_X6_readsLevel [.inr (.inr 48), .inl (nI 0), .inl (nI (dep + 1))] σ Φ
theorem c_bare52 {G : zGT} {D : Nat} {Φ : Int32 → zMem → Prop} {t : Nat → Int32} {n : Nat} {ρ : zMem} {k0 p0 dep : Nat} {S : zPS} {σ : zMem} (hc : CC52 t n ρ) (hH : HL52 G t n ρ k0 p0 dep) (hd : dep ≤ 8) (hx : CX52 n ρ k0 S σ) (hp : p0 ≤ S.1) (hk : S.2.2.1 ≤ S.1) (hD : 9 * (8 - dep) + 22 ≤ D)
    (h : ∀ R σ', Ev t n isBn 6 0 dep S R → CR52 n ρ k0 R σ' → Φ (bI R.1) σ') : CTI G D Y_X6_readsBare [.inr (.inr 48), .inl (nI dep)] σ Φ := by
  obtain ⟨D, rfl⟩ : ∃ x, D = x + 6 := ⟨D - 6, by omega⟩
  have n96 := hc.1.1
  have hS := hx.2.1.1
  refine en_X6_readsBare ?_
  refine c_nx52 hc hx ?_
  refine c_isDigit (fun q => ?_) (fun q => ?_)
  · rw [if_neg (by decide)]
    have lt := isD_in q
    refine c_num52 hc hx (by omega) q (fun e σ' r => ?_) (fun e σ' r => ?_)
    · rw [if_pos (Or.inr rfl)]
      exact h _ σ' (E_numY q e) r
    · rw [if_pos (Or.inl rfl)]
      exact h _ σ' (E_numN q e) r
  · rw [if_pos rfl]
    have among : ¬ (gtx t n S.1 = 40 ∧ dep < 8) → CTI G (D + 5) Y_X11_isAmong [.inr (.inr (σ 48 4).toNatClampNeg), .inl (gtx t n S.1)] σ (fun (r16 : Int32) (s15 : zMem) => if r16 = 0 then (Φ 0 s15) else (bif (zrcv (s15 48 3).toNatClampNeg 4 && true) then (CTV G (D + 5) Y_X4_add [.inr (.inr (s15 48 3).toNatClampNeg), .inl (-(gtx t n S.1))] s15 (fun (s17 : zMem) => CTV G (D + 5) Y_X6_step [.inr (.inr 48)] s17 (fun (s18 : zMem) => Φ 1 s18))) else False)) := by
      intro np
      rw [hc.e4 hx.1]
      refine c_isAmong1001 (fun w => ?_) (fun w => ?_)
      · rw [if_neg (by decide), hc.e3 hx.1, zr52, cond_true]
        have lt : S.1 < n := gtx_in (fun z => by rw [z] at w; exact absurd w (by unfold isBn; decide))
        have ec : -(gtx t n S.1) = cod 2 (gtx t n S.1) := rfl
        refine c_em52 (s := 2) (v := gtx t n S.1) hx (by omega) ec (fun σ1 x1 => ?_)
        refine c_st52 x1 lt (fun σ2 x2 => ?_)
        exact h (true, sEm 2 (gtx t n S.1) (sAdv S)) σ2 (E_name q np w) x2.ok
      · rw [if_pos rfl]
        exact h (false, S) σ (E_no q np w) hx.no
    by_cases e40 : gtx t n S.1 = 40
    · rw [if_pos e40]
      by_cases d8 : dep < 8
      · rw [if_neg (show ¬ (8 : Int32) ≤ nI dep from nI_ge (b := 8) (by omega) (by omega)), nI_1]
        have lt : S.1 < n := gtx_in (fun z => by rw [z] at e40; exact absurd e40 (by decide))
        refine c_st52 hx lt (fun σ1 x1 => ?_)
        refine hH (D + 5) (sAdv S) σ1 _ d8 (by show p0 < S.1 + 1; omega) (by show S.2.2.1 ≤ S.1 + 1; omega) (by omega) x1 (fun R σ2 ev r => ?_)
        by_cases e : R.1 = true
        · rw [e, if_neg (by decide)]
          have x2 := r.y e
          refine c_nw52 hc x2 (fun σ3 x3 => ?_)
          by_cases e41 : gtx t n (BL t n R.2.1) = 41
          · rw [if_pos e41]
            have lt2 : BL t n R.2.1 < n := gtx_in (fun z => by rw [z] at e41; exact absurd e41 (by decide))
            refine c_st52 x3 lt2 (fun σ4 x4 => ?_)
            exact h _ σ4 (E_parY ⟨e40, d8⟩ ev e e41) x4.ok
          · rw [if_neg e41]
            exact h _ σ3 (E_parN ⟨e40, d8⟩ ev e e41) x3.no
        · have eb : bI R.1 = 0 := by unfold bI; rw [if_neg e]
          rw [eb, if_pos rfl]
          have hh := h R σ2 (E_parF ⟨e40, d8⟩ ev e) r
          rw [eb] at hh
          exact hh
      · rw [if_pos (show (8 : Int32) ≤ nI dep from nI_le (a := 8) (by omega) (by omega))]
        exact among (fun z => d8 z.2)
    · rw [if_neg e40]
      exact among (fun z => e40 z.1)
theorem c_part52 {G : zGT} {D : Nat} {Φ : Int32 → zMem → Prop} {t : Nat → Int32} {n : Nat} {ρ : zMem} {k0 p0 dep : Nat} {S : zPS} {σ : zMem} (hN : ¬ isBn (-1)) (hc : CC52 t n ρ) (hH : HL52 G t n ρ k0 p0 dep) (hd : dep ≤ 8) (hx : CX52 n ρ k0 S σ) (hp : p0 ≤ S.1) (hk : S.2.2.1 ≤ S.1) (hD : 9 * (8 - dep) + 23 ≤ D)
    (h : ∀ R σ', Ev t n isBn 5 0 dep S R → CR52 n ρ k0 R σ' → Φ (bI R.1) σ') : CTI G D Y_X6_readsPart [.inr (.inr 48), .inl (nI dep)] σ Φ := by
  obtain ⟨D, rfl⟩ : ∃ x, D = x + 7 := ⟨D - 7, by omega⟩
  have n96 := hc.1.1
  refine en_X6_readsPart ?_
  have L : ∀ m a B : Nat, ∀ (S : zPS) (σ : zMem), n - S.1 ≤ m → a ≤ 20 → B < 2147483648 → B < 2 ^ a → CX52 n ρ k0 S σ → p0 ≤ S.1 → S.2.2.1 ≤ S.1 →
      (∀ R σ' (B' : Nat), B' < 2147483648 → (∀ i, i < a → B'.testBit i = B.testBit i) → Ev t n isBn 5 a dep S R → CR52 n ρ k0 R σ' → WJ G M_X6_readsPart (D + 7) (RI Φ) 96 [some (.inr (.inr 48)), none, some (.inl (nI B')), none, some (.inl (bI R.1)), some (.inl (nI a - 1))] [] σ') →
      (∀ R σ', R.1 = false → Ev t n isBn 5 a dep S R → CR52 n ρ k0 R σ' → Φ 0 σ') →
      WJ G M_X6_readsPart (D + 7) (RI Φ) 7 [some (.inr (.inr 48)), some (.inl (nI dep)), some (.inl (nI B)), some (.inl (nI a)), some (.inl (nI a)), none] [] σ := by
    intro m
    induction m with
    | zero =>
      intro a B S σ hm ha hB2 hB hx hp hk K1 K0
      refine rg_X6_readsPart_7 ?_
      rw [if_neg (show ¬ (96 : Int32) ≤ nI a from nI_ge (b := 96) (by omega) (by omega))]
      refine c_nw52 hc hx (fun σ1 x1 => ?_)
      have hS := hx.2.1.1
      have eB : gtx t n S.1 = -1 := gtx_ge (by omega)
      have eB2 : BL t n S.1 = S.1 := BL_n (by rw [eB]; decide)
      have ec : gtx t n (BL t n S.1) = -1 := by rw [eB2]; exact eB
      have b1 := BL_ge t n S.1
      have x1n : gtx t n (sBl t n S).1 = gtx t n (BL t n S.1) := rfl
      rw [if_neg (by rw [ec]; decide)]
      refine c_nx52 hc x1 ?_
      rw [x1n, if_neg (by rw [ec]; decide)]
      refine c_bare52 hc hH hd x1 (by show p0 ≤ BL t n S.1; omega) (by show S.2.2.1 ≤ BL t n S.1; omega) (by omega) (fun R σ' ev r => ?_)
      exact K1 R σ' B hB2 (fun _ _ => rfl) (E_bare (by rw [ec]; decide) ev) r
    | succ m ih =>
      intro a B S σ hm ha hB2 hB hx hp hk K1 K0
      refine rg_X6_readsPart_7 ?_
      rw [if_neg (show ¬ (96 : Int32) ≤ nI a from nI_ge (b := 96) (by omega) (by omega))]
      refine c_nw52 hc hx (fun σ1 x1 => ?_)
      have hS := hx.2.1.1
      have b1 := BL_ge t n S.1
      have b2 := BL_le (t := t) hS
      have x1n : gtx t n (sBl t n S).1 = gtx t n (BL t n S.1) := rfl
      -- a mark more
      have more : ∀ B2 : Nat, B2 < 2147483648 → B2 < 2 ^ (a + 1) → (∀ i, i < a → B2.testBit i = B.testBit i) → (B2.testBit a = true ↔ gtx t n (BL t n S.1) = 33) → (gtx t n (BL t n S.1) = 33 ∨ gtx t n (BL t n S.1) = 45) → a < 20 →
          ∀ σ2, CX52 n ρ k0 (sAdv (sBl t n S)) σ2 → WJ G M_X6_readsPart (D + 7) (RI Φ) 7 [some (.inr (.inr 48)), some (.inl (nI dep)), some (.inl (nI B2)), some (.inl (nI (a + 1))), some (.inl (nI (a + 1))), none] [] σ2 := by
        intro B2 q1 q2 q3 q4 q5 q6 σ2 x2
        have lt : BL t n S.1 < n := gtx_in (fun z => by rw [z] at q5; revert q5; decide)
        have hks : S.2.2.1 ≤ BL t n S.1 + 1 := by omega
        refine ih (a + 1) B2 (sAdv (sBl t n S)) σ2 (by show n - (BL t n S.1 + 1) ≤ m; omega) (by omega) q1 q2 x2 (by show p0 ≤ BL t n S.1 + 1; omega) hks (fun R σ' B' w1 w2 ev r => ?_) (fun R σ' w ev r => ?_)
        · refine rg_X6_readsPart_96 ?_
          have e1 : nI (a + 1) - 1 = nI a := nI_p2 (by omega)
          obtain ⟨y1, y2, y3⟩ := ev.good hN (by decide) (show BL t n S.1 + 1 ≤ n by omega)
          have f1 := r.1
          rw [e1, if_neg (nI_pos (by omega)), hc.e3 f1, zr52, cond_true, nI_m1]
          have bt := bt_test w1 (show a < 24 by omega)
          rw [w2 a (by omega), q4] at bt
          have K := fun σ3 r3 => K1 (if R.1 = true then (true, sEm (mrk (gtx t n (BL t n S.1))) 0 R.2) else R) σ3 B' w1 (fun i hi => (w2 i (by omega)).trans (q3 i hi)) (E_mark q5 q6 ev) r3
          by_cases e : R.1 = true
          · have x3 := r.y e
            obtain ⟨y4, _⟩ := y3 e
            have y4 : R.2.2.2.1 + (BL t n S.1 + 1) ≤ S.2.2.1 + R.2.1 := y4
            simp only [if_pos e] at K
            rw [e]
            by_cases c33 : gtx t n (BL t n S.1) = 33
            · rw [if_pos (bt.2 c33)]
              refine c_em52 (s := mrk (gtx t n (BL t n S.1))) (v := 0) x3 (by omega) (by rw [c33]; decide) (fun σ4 x4 => ?_)
              exact K σ4 x4.ok
            · rw [if_neg (fun z => c33 (bt.1 z))]
              have c45 : gtx t n (BL t n S.1) = 45 := by rcases q5 with z | z; exact absurd z c33; exact z
              refine c_em52 (s := mrk (gtx t n (BL t n S.1))) (v := 0) x3 (by omega) (by rw [c45]; decide) (fun σ4 x4 => ?_)
              exact K σ4 x4.ok
          · simp only [if_neg e] at K
            by_cases c33 : gtx t n (BL t n S.1) = 33
            · rw [if_pos (bt.2 c33)]
              exact c_fr52 r e (fun σ4 r4 => K σ4 r4)
            · rw [if_neg (fun z => c33 (bt.1 z))]
              exact c_fr52 r e (fun σ4 r4 => K σ4 r4)
        · have E := E_mark q5 q6 ev
          rw [if_neg (by rw [w]; decide)] at E
          exact K0 R σ' w E r
      have lt3 : a < 20 → (nI a < (20 : Int32)) := fun w => by rw [fa_lt, tin (by omega), ti20]; omega
      have ge3 : ¬ a < 20 → ¬ (nI a < (20 : Int32)) := fun w => by rw [fa_lt, tin (by omega), ti20]; omega
      have pw : 2 ^ (a + 1) = 2 * 2 ^ a := by rw [Nat.pow_succ, Nat.mul_comm]
      have p20 : 2 ^ a ≤ 1048576 := by
        have := Nat.pow_le_pow_right (n := 2) (by decide) ha
        exact this
      have za : B.testBit a = false := Nat.testBit_lt_two_pow hB
      by_cases c33 : gtx t n (BL t n S.1) = 33
      · rw [if_pos c33]
        by_cases a20 : a < 20
        · rw [if_pos (lt3 a20)]
          have lt : BL t n S.1 < n := gtx_in (fun z => by rw [z] at c33; exact absurd c33 (by decide))
          refine c_nx52 hc x1 ?_
          rw [x1n, if_pos c33]
          refine c_truth1 ?_
          refine c_st52 x1 lt (fun σ2 x2 => ?_)
          rw [bt_shl a (by omega), bt_or, nI_1]
          have o1 : B ||| 2 ^ a < 2 ^ (a + 1) := Nat.or_lt_two_pow (by omega) (by omega)
          refine more (B ||| 2 ^ a) (by omega) o1 (fun i hi => ?_) ?_ (Or.inl c33) a20 σ2 x2
          · rw [Nat.testBit_or, Nat.testBit_two_pow_of_ne (by omega), Bool.or_false]
          · rw [Nat.testBit_or, Nat.testBit_two_pow_self, Bool.or_true]
            exact ⟨fun _ => c33, fun _ => rfl⟩
        · rw [if_neg (ge3 a20)]
          exact K0 _ σ1 rfl (E_marks (Or.inl c33) a20) x1.no
      · rw [if_neg c33]
        refine c_nx52 hc x1 ?_
        rw [x1n]
        by_cases c45 : gtx t n (BL t n S.1) = 45
        · rw [if_pos c45]
          by_cases a20 : a < 20
          · rw [if_pos (lt3 a20)]
            have lt : BL t n S.1 < n := gtx_in (fun z => by rw [z] at c45; exact absurd c45 (by decide))
            refine c_nx52 hc x1 ?_
            rw [x1n, if_neg c33]
            refine c_truth0 ?_
            refine c_st52 x1 lt (fun σ2 x2 => ?_)
            rw [sh_0 a (by omega), show (0 : Int32) = nI 0 from rfl, bt_or, Nat.or_zero, nI_1]
            refine more B hB2 (by omega) (fun i hi => rfl) ?_ (Or.inr c45) a20 σ2 x2
            rw [za]
            exact ⟨fun z => (by cases z), fun z => absurd z c33⟩
          · rw [if_neg (ge3 a20)]
            exact K0 _ σ1 rfl (E_marks (Or.inr c45) a20) x1.no
        · rw [if_neg c45]
          refine c_bare52 hc hH hd x1 (by show p0 ≤ BL t n S.1; omega) (by show S.2.2.1 ≤ BL t n S.1; omega) (by omega) (fun R σ' ev r => ?_)
          exact K1 R σ' B hB2 (fun _ _ => rfl) (E_bare (fun z => by rcases z with z | z; exact c33 z; exact c45 z) ev) r
  refine L (n - S.1) 0 0 S σ (Nat.le_refl _) (by decide) (by decide) (by decide) hx hp hk (fun R σ' B' _ _ ev r => ?_) (fun R σ' w ev r => ?_)
  · refine rg_X6_readsPart_96 ?_
    rw [if_pos (by decide), if_pos (bI_01 R.1)]
    exact h R σ' ev r
  · have hh := h R σ' ev r
    rw [w] at hh
    exact hh
theorem c_level52 {G : zGT} {t : Nat → Int32} {n : Nat} {ρ : zMem} {k0 : Nat} (hN : ¬ isBn (-1)) (hc : CC52 t n ρ) : ∀ (m q dep D : Nat) (S : zPS) (σ : zMem) (Φ : Int32 → zMem → Prop), 40 * (n - S.1) + 30 - 2 * q ≤ m → q ≤ 5 → dep ≤ 8 → 9 * (8 - dep) + (30 - q) ≤ D → CX52 n ρ k0 S σ → S.2.2.1 ≤ S.1 →
    (∀ R σ', Ev t n isBn q 0 dep S R → CR52 n ρ k0 R σ' → Φ (bI R.1) σ') → CTI G D Y_X6_readsLevel [.inr (.inr 48), .inl (nI q), .inl (nI dep)] σ Φ := by
  intro m
  have n96 := hc.1.1
  induction m with
  | zero => intro q dep D S σ Φ hm hq; omega
  | succ m IH =>
    intro q dep D S σ Φ hm hq hd hD hx hk h
    obtain ⟨D, rfl⟩ : ∃ x, D = x + 8 := ⟨D - 8, by omega⟩
    have hS := hx.2.1.1
    refine en_X6_readsLevel ?_
    by_cases q5 : q = 5
    · subst q5
      rw [if_neg (by decide)]
      refine c_part52 (p0 := S.1) hN hc (fun D' S' σ' Φ' d8 p1 k1 hD' hx' h' => ?_) hd hx (Nat.le_refl _) hk (by omega) (fun R σ' ev r => ?_)
      · have hS' := hx'.2.1.1
        exact IH 0 (dep + 1) D' S' σ' Φ' (by omega) (by decide) (by omega) (by omega) hx' k1 h'
      · rw [if_pos (bI_01 R.1)]
        exact h R σ' ev r
    rw [if_pos (show nI q ≤ (4 : Int32) from nI_le (b := 4) (by omega) (by omega)), nI_1]
    refine IH (q + 1) dep (D + 7) S σ _ (by omega) (by omega) hd (by omega) hx hk (fun R1 σ1 ev1 r1 => ?_)
    by_cases e1 : R1.1 = true
    rotate_left
    · have eb : bI R1.1 = 0 := by unfold bI; rw [if_neg e1]
      have hh := h R1 σ1 (E_levN (by omega) ev1 e1) r1
      rw [eb] at hh ⊢
      refine rg_X6_readsLevel_23 ?_
      rw [if_neg (by decide), if_pos rfl, if_pos (Or.inl rfl)]
      exact hh
    have L : ∀ m2 : Nat, ∀ (S2 : zPS) (τ : zMem) (i : Nat), n - S2.1 ≤ m2 → i + (n - S2.1) ≤ 96 → S.1 ≤ S2.1 → S2.2.2.1 ≤ S2.1 → CX52 n ρ k0 S2 τ → (∀ R σ', Ev t n isBn (q + 10) 0 dep S2 R → CR52 n ρ k0 R σ' → Φ (bI R.1) σ') →
        WJ G M_X6_readsLevel (D + 8) (RI Φ) 23 [some (.inr (.inr 48)), some (.inl (nI q)), some (.inl (nI dep)), some (.inl 1), some (.inl (nI i)), none] [] τ := by
      intro m2
      induction m2 with
      | zero =>
        intro S2 τ i hm2 hi hp2 hk2 x2 H
        have hS2 := x2.2.1.1
        refine rg_X6_readsLevel_23 ?_
        have eB : gtx t n S2.1 = -1 := gtx_ge (by omega)
        have eB2 : BL t n S2.1 = S2.1 := BL_n (by rw [eB]; decide)
        have ec : gtx t n (BL t n S2.1) = -1 := by rw [eB2]; exact eB
        have l9 : lvl (gtx t n (BL t n S2.1)) = 9 := by rw [ec]; rfl
        have es : sBl t n S2 = S2 := by unfold sBl; rw [eB2]
        have ee : Ev t n isBn (q + 10) 0 dep S2 (true, sBl t n S2) := E_end (by omega) (by rw [l9]; omega)
        by_cases g : 96 ≤ i
        · rw [if_pos (show (96 : Int32) ≤ nI i from nI_le (a := 96) g (by omega)), if_pos (Or.inr rfl)]
          exact H _ τ ee (by rw [es]; exact x2.ok)
        · rw [if_neg (show ¬ (96 : Int32) ≤ nI i from nI_ge (b := 96) (by omega) (by omega)), if_neg (by decide)]
          refine c_nw52 hc x2 (fun σ3 x3 => ?_)
          refine c_levelOf (q := q) (by omega) (fun v hv => ?_)
          rw [if_neg (fun z => by rw [hv, l9] at z; omega), if_pos (Or.inr rfl)]
          exact H _ σ3 ee x3.ok
      | succ m2 ih2 =>
        intro S2 τ i hm2 hi hp2 hk2 x2 H
        have hS2 := x2.2.1.1
        refine rg_X6_readsLevel_23 ?_
        by_cases g : 96 ≤ i
        · have eB : gtx t n S2.1 = -1 := gtx_ge (by omega)
          have eB2 : BL t n S2.1 = S2.1 := BL_n (by rw [eB]; decide)
          have ec : gtx t n (BL t n S2.1) = -1 := by rw [eB2]; exact eB
          have l9 : lvl (gtx t n (BL t n S2.1)) = 9 := by rw [ec]; rfl
          have es : sBl t n S2 = S2 := by unfold sBl; rw [eB2]
          rw [if_pos (show (96 : Int32) ≤ nI i from nI_le (a := 96) g (by omega)), if_pos (Or.inr rfl)]
          exact H _ τ (E_end (by omega) (by rw [l9]; omega)) (by rw [es]; exact x2.ok)
        rw [if_neg (show ¬ (96 : Int32) ≤ nI i from nI_ge (b := 96) (by omega) (by omega)), if_neg (by decide)]
        have b1 := BL_ge t n S2.1
        refine c_nw52 hc x2 (fun σ3 x3 => ?_)
        refine c_levelOf (q := q) (by omega) (fun v hv => ?_)
        by_cases l : lvl (gtx t n (BL t n S2.1)) = q
        · rw [if_pos (hv.2 l)]
          obtain ⟨o1, o2, o3, o4, o5, o6⟩ := lvl_op (t := t) (n := n) (q := q) (S := sBl t n S2) l (by omega)
          have o2 : BL t n S2.1 < n := o2
          have o4 : BL t n S2.1 < (sSg t n (sBl t n S2)).1 := o4
          have o6 : (sSg t n (sBl t n S2)).2.2 = S2.2.2 := o6
          refine c_sg52 hc x3 (by show lvl (gtx t n (BL t n S2.1)) ≤ 4; omega) (fun σ4 x4 => ?_)
          rw [nI_1]
          refine IH (q + 1) dep (D + 7) (sSg t n (sBl t n S2)) σ4 _ (by omega) (by omega) hd (by omega) x4 (by rw [o6]; omega) (fun R5 σ5 ev5 r5 => ?_)
          rw [hc.e3 r5.1, zr52, cond_true]
          obtain ⟨y1, y2, y3⟩ := ev5.good hN (by omega) o3
          have ql : lvl (gtx t n (BL t n S2.1)) + 10 = q + 10 := by omega
          have ev5' : Ev t n isBn (q + 10 - 9) 0 dep (sSg t n (sBl t n S2)) R5 := by
            rw [show q + 10 - 9 = q + 1 by omega]; exact ev5
          by_cases e5 : R5.1 = true
          · obtain ⟨y4, _⟩ := y3 e5
            rw [o6] at y4
            have eb : bI R5.1 = 1 := by unfold bI; rw [if_pos e5]
            refine c_em52 (s := sgs t n (sBl t n S2)) (v := 0) (r5.y e5) (by omega) rfl (fun σ6 x6 => ?_)
            rw [eb]
            by_cases q2 : q = 2
            · rw [if_pos (show nI q = (2 : Int32) from by rw [q2]; rfl), if_pos (Or.inr rfl)]
              exact H _ σ6 (E_go2 (by omega) ql ev5' e5) x6.ok
            · rw [if_neg (show ¬ nI q = (2 : Int32) from fun z => q2 ((nI_inj (b := 2) (by omega) (by omega)).1 z)), nI_1]
              refine ih2 (sEm (sgs t n (sBl t n S2)) 0 R5.2) σ6 (i + 1) (by show n - R5.2.1 ≤ m2; omega) (by show i + 1 + (n - R5.2.1) ≤ 96; omega) (by show S.1 ≤ R5.2.1; omega) (by show R5.2.2.2.1 + 1 ≤ R5.2.1; omega) x6 (fun R σ' ev r => ?_)
              exact H R σ' (E_go (by omega) (by omega) ql ev5' e5 ev) r
          · have eb : bI R5.1 = 0 := by unfold bI; rw [if_neg e5]
            refine c_fr52 r5 e5 (fun σ6 r6 => ?_)
            have hh := H R5 σ6 (E_goF (by omega) ql ev5' e5) r6
            rw [eb] at hh ⊢
            by_cases q2 : nI q = (2 : Int32)
            · rw [if_pos q2, if_pos (Or.inl rfl)]
              exact hh
            · rw [if_neg q2]
              refine rg_X6_readsLevel_23 ?_
              by_cases g9 : (96 : Int32) ≤ nI i + 1
              · rw [if_pos g9, if_pos (Or.inl rfl)]; exact hh
              · rw [if_neg g9, if_pos rfl, if_pos (Or.inl rfl)]; exact hh
        · rw [if_neg (fun z => l (hv.1 z)), if_pos (Or.inr rfl)]
          exact H _ σ3 (E_end (by omega) (by omega)) x3.ok
    obtain ⟨y1, y2, y3⟩ := ev1.good hN (by omega) hS
    obtain ⟨y4, _⟩ := y3 e1
    have eb : bI R1.1 = 1 := by unfold bI; rw [if_pos e1]
    rw [eb]
    exact L (n - R1.2.1) R1.2 σ1 0 (Nat.le_refl _) (by omega) y1 (by omega) (r1.y e1) (fun R σ' ev r => h R σ' (E_levY (by omega) ev1 e1 ev) r)
