-- the first claim of a class
def fst1 (β : zMem) (k c : Nat) : Prop := c < bN β ∧ β 82 c = nI k ∧ ∀ j, j < c → ¬ β 82 j = nI k
def hasC (β : zMem) (k : Nat) : Prop := ∃ c, c < bN β ∧ β 82 c = nI k
theorem fst1.uniq {β : zMem} {k c c' : Nat} (h : fst1 β k c) (h' : fst1 β k c') : c = c' := by
  by_cases g : c < c'
  · exact absurd h.2.1 (h'.2.2 c g)
  · by_cases g2 : c' < c
    · exact absurd h'.2.1 (h.2.2 c' g2)
    · omega
theorem c_firstOf {G : zGT} {d : Nat} {Φ : Int32 → zMem → Prop} {β σ : zMem} {k : Nat} (hb : PB β σ) (hβ : Rall β) (hk : k < 6) (h1 : ∀ c, fst1 β k c → Φ (nI c) σ) (h0 : ¬ hasC β k → Φ (-1000000005) σ) : CTI G (d + 1) Y_X2_firstOf [.inr (.inr 55), .inl (nI k)] σ Φ := by
  have n24 := bN_24 hβ.any
  have en8 : σ 1 6 = nI (bN β) := by
    rw [hb.1.1 1 (by decide) (by decide) (by decide), hβ.1.2.2.1.1]
    have := hβ.1.2.2.1.2.1
    exact nI_of_toInt (by omega) (by unfold bN; omega)
  refine en_X2_firstOf ?_
  have L : ∀ m i : Nat, i + m = bN β → (∀ j, j < i → ¬ β 82 j = nI k) → WJ G M_X2_firstOf (d + 1) (RI Φ) 2 [some (.inr (.inr 55)), some (.inl (nI k)), some (.inl (nI i))] [] σ := by
    intro m
    induction m with
    | zero =>
      intro i hi hI
      refine rg_X2_firstOf_2 ?_
      rw [en8, if_pos (nI_le (by omega) (by omega))]
      exact h0 (fun ⟨c, hc, q⟩ => hI c (by omega) q)
    | succ m ih =>
      intro i hi hI
      refine rg_X2_firstOf_2 ?_
      have hc' := (bN_c hβ.any).1 (show i < bN β by omega)
      obtain ⟨p1, p2, p3, p4, p5, p6⟩ := hβ.2.2.2.2.2.1.1 i hc'
      rw [en8, if_neg (nI_ge (by omega) (by omega)), cln (by omega), nI_1, hb.1.1 35 (by decide) (by decide) (by decide), p1]
      refine ⟨vin (by omega), ?_⟩
      by_cases g : β 82 i = nI k
      · rw [if_pos ((enc_nI p3 (by omega)).2 g)]
        exact h1 i ⟨by omega, g, hI⟩
      · rw [if_neg (fun q => g ((enc_nI p3 (by omega)).1 q))]
        refine ih (i + 1) (by omega) (fun j hj => ?_)
        by_cases e : j = i
        · subst e; exact g
        · exact hI j (by omega)
  exact L (bN β) 0 (by omega) (fun j hj => by omega)
theorem m_firstOf {G : zGT} {d : Nat} {Φ : Int32 → zMem → Prop} {β σ : zMem} {k : Nat} (hb : PB β σ) (hβ : Rall β) (hh : hasC β k) (h1 : ∀ c, fst1 β k c → Φ (nI c) σ) : CTI G (d + 1) Y_X12_firstOf [.inr (.inr 72), .inl (nI k)] σ Φ := by
  have n24 := bN_24 hβ.any
  refine en_X12_firstOf ?_
  have L : ∀ m i : Nat, i + m = bN β → (∀ j, j < i → ¬ β 82 j = nI k) → WJ G M_X12_firstOf (d + 1) (RI Φ) 2 [some (.inr (.inr 72)), some (.inl (nI k)), some (.inl (nI i))] [] σ := by
    intro m
    induction m with
    | zero =>
      intro i hi hI
      obtain ⟨c, hc, q⟩ := hh
      exact absurd q (hI c (by omega))
    | succ m ih =>
      intro i hi hI
      refine rg_X12_firstOf_2 ?_
      rw [cln (by omega), nI_1, hb.1.1 82 (by decide) (by decide) (by decide)]
      refine ⟨vin (by omega), ?_⟩
      by_cases g : β 82 i = nI k
      · rw [if_pos g]
        exact h1 i ⟨by omega, g, hI⟩
      · rw [if_neg g]
        refine ih (i + 1) (by omega) (fun j hj => ?_)
        by_cases e : j = i
        · subst e; exact g
        · exact hI j (by omega)
  exact L (bN β) 0 (by omega) (fun j hj => by omega)
theorem c_hasClaims {G : zGT} {d : Nat} {Φ : Int32 → zMem → Prop} {β σ : zMem} {k : Nat} (hb : PB β σ) (hβ : Rall β) (hk : k < 6) (h1 : hasC β k → Φ 1 σ) (h0 : ¬ hasC β k → Φ 0 σ) : CTI G (d + 2) Y_X2_hasClaims [.inr (.inr 55), .inl (nI k)] σ Φ := by
  have n24 := bN_24 hβ.any
  refine en_X2_hasClaims ?_
  refine c_firstOf hb hβ hk (fun c hc => ?_) (fun q => ?_)
  · have := hc.1
    rw [if_neg (by rw [fa_eq, tin (by omega), tiN]; omega)]
    exact h1 ⟨c, hc.1, hc.2.1⟩
  · rw [if_pos rfl]; exact h0 q
theorem c_isSecured {G : zGT} {d : Nat} {Φ : Int32 → zMem → Prop} {β σ : zMem} {k : Nat} (hb : PB β σ) (hβ : Rall β) (hk : k < 6) (h1 : (∃ c, fst1 β k c ∧ β 78 c = 1) → Φ 1 σ) (h0 : ¬ (∃ c, fst1 β k c ∧ β 78 c = 1) → Φ 0 σ) : CTI G (d + 2) Y_X2_isSecuredAtFirst [.inr (.inr 55), .inl (nI k)] σ Φ := by
  have n24 := bN_24 hβ.any
  refine en_X2_isSecuredAtFirst ?_
  refine c_firstOf hb hβ hk (fun c hc => ?_) (fun q => ?_)
  · have hc1 := hc.1
    have hc' := (bN_c hβ.any).1 hc1
    rw [if_neg (by rw [fa_lt, tin (by omega), ti0]; omega), cln (by omega), hb.1.1 2 (by decide) (by decide) (by decide), (hβ.2.2.1.1 c hc').1]
    refine ⟨vin (by omega), ?_⟩
    by_cases g : β 78 c = 1
    · rw [if_pos g]; exact h1 ⟨c, hc, g⟩
    · rw [if_neg g]
      exact h0 (fun ⟨c', w, w2⟩ => g (by rw [hc.uniq w]; exact w2))
  · rw [if_pos (by decide)]
    exact h0 (fun ⟨c', w, w2⟩ => q ⟨c', w.1, w.2.1⟩)
theorem sob_hasC {β : zMem} {k : Nat} : sob (bIn β k) (bN β) = 0 ↔ ¬ hasC β k := by
  rw [sob_zero]
  refine ⟨fun h ⟨c, hc, q⟩ => ?_, fun h c hc => ?_⟩
  · have := h c hc
    unfold bIn at this
    rw [decide_eq_true q] at this
    exact absurd this (by decide)
  · exact decide_eq_false (fun q => h ⟨c, hc, q⟩)
-- what does not change with what is not spoken of
theorem PB.eN {β σ : zMem} (h : PB β σ) : bN σ = bN β := by
  unfold bN
  rw [h.1.2 8 (by decide)]
theorem PB.eWd {β σ : zMem} (h : PB β σ) (s : Nat) : Wd σ s = Wd β s := by
  unfold Wd
  rw [h.1.1 73 (by decide) (by decide) (by decide)]
  rw [h.1.1 74 (by decide) (by decide) (by decide)]
  rw [h.1.1 75 (by decide) (by decide) (by decide)]
  rw [h.1.1 76 (by decide) (by decide) (by decide)]
  rw [h.1.1 77 (by decide) (by decide) (by decide)]
  rw [h.1.1 78 (by decide) (by decide) (by decide)]
  rw [h.1.1 79 (by decide) (by decide) (by decide)]
  rw [h.1.1 80 (by decide) (by decide) (by decide)]
  rw [h.1.1 84 (by decide) (by decide) (by decide)]
  rw [h.1.1 85 (by decide) (by decide) (by decide)]
  rw [h.1.1 86 (by decide) (by decide) (by decide)]
  rw [h.1.1 87 (by decide) (by decide) (by decide)]
  rw [h.1.1 88 (by decide) (by decide) (by decide)]
  rw [h.1.1 89 (by decide) (by decide) (by decide)]
  rw [h.1.2 0 (by decide)]
  rw [h.1.2 1 (by decide)]
  rw [h.1.2 2 (by decide)]
  rw [h.1.2 8 (by decide)]
  rw [h.1.2 23 (by decide)]
theorem PB.eWs {β σ : zMem} (h : PB β σ) (s k : Nat) : isWs σ s k ↔ isWs β s k := by
  unfold isWs
  rw [h.eWd s, h.eN, h.1.1 82 (by decide) (by decide) (by decide), h.1.1 84 (by decide) (by decide) (by decide), h.1.1 85 (by decide) (by decide) (by decide), h.1.1 86 (by decide) (by decide) (by decide), h.1.1 90 (by decide) (by decide) (by decide), h.1.2 0 (by decide), h.1.2 24 (by decide)]
theorem PB.eQb {β σ : zMem} (h : PB β σ) (k c d : Nat) : qbad σ k c d ↔ qbad β k c d := by
  unfold qbad alk chgd
  rw [h.1.1 82 (by decide) (by decide) (by decide), h.1.1 79 (by decide) (by decide) (by decide), h.1.1 78 (by decide) (by decide) (by decide), h.1.1 77 (by decide) (by decide) (by decide), h.1.2 2 (by decide)]
theorem PB.eQn {β σ : zMem} (h : PB β σ) (k n : Nat) : qNone σ k n ↔ qNone β k n := by
  unfold qNone
  simp only [h.eQb]
-- the names of bind
def bnd (β : zMem) (L : Int32) (k : Nat) : Prop := if L = 121 then dpT β (clT β k) else if L = 99 then hasC β k else if L = 119 then isWs β 0 k else if L = 117 then isWs β 1 k else
  if L = 115 then ((∃ c, fst1 β k c ∧ β 78 c = 1) ∧ dpT β (clT β k)) else ¬ qNone β k (bN β)
theorem bnd.hasK {β : zMem} {L : Int32} {k : Nat} (h : bnd β L k) : hasC β k := by
  have hd : dpT β (clT β k) → hasC β k := by
    intro w
    obtain ⟨c, hc, q⟩ := (tly5 (bN β)).2.1 w.2.1
    exact ⟨c, hc, of_decide_eq_true q⟩
  have hw : ∀ s, isWs β s k → hasC β k := fun s ⟨c, hc, q, _⟩ => ⟨c, hc, q⟩
  unfold bnd at h
  split at h
  · exact hd h
  split at h
  · exact h
  split at h
  · exact hw 0 h
  split at h
  · exact hw 1 h
  split at h
  · exact hd h.2
  · refine Classical.byContradiction (fun q => h (fun c d hcd hd hb => q ⟨c, by omega, hb.1⟩))
noncomputable def nbd (β : zMem) (L : Int32) : Nat → Nat
  | 0 => 0
  | k + 1 => nbd β L k + @ite Nat (bnd β L k) (Classical.propDecidable _) 1 0
theorem nbd_1 {β : zMem} {L : Int32} {k : Nat} (h : bnd β L k) : nbd β L (k + 1) = nbd β L k + 1 := by
  show _ + @ite Nat (bnd β L k) (Classical.propDecidable _) 1 0 = _
  rw [if_pos h]
theorem nbd_0 {β : zMem} {L : Int32} {k : Nat} (h : ¬ bnd β L k) : nbd β L (k + 1) = nbd β L k := by
  show _ + @ite Nat (bnd β L k) (Classical.propDecidable _) 1 0 = _
  rw [if_neg h]; rfl
theorem nbd_le (β : zMem) (L : Int32) : ∀ k, nbd β L k ≤ k
  | 0 => Nat.le_refl _
  | k + 1 => by
    have := nbd_le β L k
    by_cases h : bnd β L k
    · rw [nbd_1 h]; omega
    · rw [nbd_0 h]; omega
noncomputable def bnv (β : zMem) (L : Int32) : Int32 := if L = 115 ∨ L = 113 then (if nbd β L 6 = 0 then 0 else 1) else nI (nbd β L 6)
theorem c_truthB {G : zGT} {d : Nat} {Φ : Int32 → zMem → Prop} {σ : zMem} {n : Nat} {p : Prop} (r : Int32) (hr : (p ∧ r = 1) ∨ (¬ p ∧ r = 0)) (h1 : p → Φ 1 σ) (h0 : ¬ p → Φ 0 σ) : CTI G d Y_X11_truth [.inl r] σ Φ := by
  rcases hr with ⟨a, rfl⟩ | ⟨a, rfl⟩
  · exact c_truth1 (h1 a)
  · exact c_truth0 (h0 a)
theorem c_bindName {G : zGT} {d : Nat} {Φ : Int32 → zMem → Prop} {β σ : zMem} {L : Int32} (hb : PB β σ) (hβ : Rall β) (hL : isBn L) (h : ∀ σ', PB β σ' → K63 σ σ' → Φ (bnv β L) σ') : CTI G (d + 7) Y_X11_bindName [.inr (.inr 0), .inl L] σ Φ := by
  have n24 := bN_24 hβ.any
  have tn : (β 72 8).toInt = ((bN β : Nat) : Int) := by
    have := hβ.1.2.2.1.2.1
    unfold bN; omega
  refine en_X11_bindName ?_
  have Lp : ∀ m k : Nat, k + m = 6 → ∀ τ, PB β τ → K63 σ τ → WJ G M_X11_bindName (d + 7) (RI Φ) 4 [some (.inr (.inr 0)), some (.inl L), some (.inl (nI (nbd β L k))), some (.inl (nI k)), none] [] τ := by
    intro m
    induction m with
    | zero =>
      intro k hk τ hbt hkt
      refine rg_X11_bindName_4 ?_
      have : k = 6 := by omega
      subst this
      have H := h τ hbt hkt
      have le := nbd_le β L 6
      unfold bnv at H
      rw [if_pos (by decide)]
      have mn : (if 1 < nI (nbd β L 6) then (1 : Int32) else nI (nbd β L 6)) = (if nbd β L 6 = 0 then 0 else 1) := by
        by_cases z : nbd β L 6 = 0
        · rw [z]; decide
        · rw [if_neg z]
          by_cases z1 : nbd β L 6 = 1
          · rw [z1]; decide
          · rw [if_pos (by rw [fa_lt, ti1, tin (by omega)]; omega)]
      by_cases g1 : L = 115
      · rw [if_pos g1, mn]
        rw [if_pos (Or.inl g1)] at H
        exact H
      rw [if_neg g1]
      by_cases g2 : L = 113
      · rw [if_pos g2, mn]
        rw [if_pos (Or.inr g2)] at H
        exact H
      rw [if_neg g2]
      rw [if_neg (fun w => by rcases w with w | w; exact g1 w; exact g2 w)] at H
      exact H
    | succ m ih =>
      intro k hk τ hbt hkt
      refine rg_X11_bindName_4 ?_
      have q6 : ¬ (nI 6 ≤ nI k) := nI_ge (by omega) (by omega)
      rw [if_neg (show ¬ ((6 : Int32) ≤ nI k) from q6), nI_1]
      have y1 : ∀ σ', PB β σ' → K63 τ σ' → bnd β L k → WJ G M_X11_bindName (d + 7) (RI Φ) 4 [some (.inr (.inr 0)), some (.inl L), some (.inl (nI (nbd β L k) + 1)), some (.inl (nI (k + 1))), none] [] σ' := by
        intro σ' a b c
        rw [nI_1]
        have := ih (k + 1) (by omega) σ' a (hkt.trans b)
        rw [nbd_1 c] at this
        exact this
      have y0 : ∀ σ', PB β σ' → K63 τ σ' → ¬ bnd β L k → WJ G M_X11_bindName (d + 7) (RI Φ) 4 [some (.inr (.inr 0)), some (.inl L), some (.inl (nI (nbd β L k) + 0)), some (.inl (nI (k + 1))), none] [] σ' := by
        intro σ' a b c
        rw [Int32.add_zero]
        have := ih (k + 1) (by omega) σ' a (hkt.trans b)
        rw [nbd_0 c] at this
        exact this
      have hw : ∀ (s W pc : Nat), True := fun _ _ _ => trivial
      unfold isBn at hL
      rcases hL with rfl | rfl | rfl | rfl | rfl | rfl
      · -- y
        have eb : bnd β 121 k = dpT β (clT β k) := if_pos rfl
        rw [if_neg (by decide), if_neg (by decide), if_neg (by decide), if_neg (by decide), if_neg (by decide), if_pos rfl]
        refine c_classPasses hbt hβ (by omega) (fun σ' a b c => ?_) (fun σ' a b c => ?_)
        · exact c_truth1 (y1 σ' a b (by rw [eb]; exact c))
        · exact c_truth0 (y0 σ' a b (by rw [eb]; exact c))
      · -- c
        have eb : bnd β 99 k = hasC β k := rfl
        rw [if_pos rfl]
        refine c_hasClaims hbt hβ (by omega) (fun c => ?_) (fun c => ?_)
        · exact c_truth1 (y1 τ hbt (K63.refl τ) (by rw [eb]; exact c))
        · exact c_truth0 (y0 τ hbt (K63.refl τ) (by rw [eb]; exact c))
      · -- w
        have eb : bnd β 119 k = isWs β 0 k := rfl
        rw [if_neg (by decide), if_neg (by decide), if_neg (by decide), if_neg (by decide), if_pos rfl]
        refine c_wound (s := 0) hbt.2.any (by decide) (fun _ σ1 hf h1 h11 => ?_) (fun q => absurd q (by decide))
        have hb1 := hbt.wound h1 hf
        refine rg_X11_bindName_105w20 ?_
        rw [nI_1]
        refine c_isWorse20 hb1.2 h11 (by omega) (fun c => ?_) (fun c => ?_)
        · exact c_truth1 (y1 σ1 hb1 (K63.row (hf 63 (by decide))) (by rw [eb]; exact (hb1.eWs 0 k).1 c))
        · exact c_truth0 (y0 σ1 hb1 (K63.row (hf 63 (by decide))) (by rw [eb]; exact fun w => c ((hb1.eWs 0 k).2 w)))
      · -- u
        have eb : bnd β 117 k = isWs β 1 k := rfl
        rw [if_neg (by decide), if_neg (by decide), if_neg (by decide), if_pos rfl]
        refine c_wound (s := 1) hbt.2.any (by decide) (fun q => absurd q (by decide)) (fun _ σ1 hf h1 h11 => ?_)
        have hb1 := hbt.wound h1 hf
        refine rg_X11_bindName_120w27 ?_
        rw [nI_1]
        refine c_isWorse27 hb1.2 h11 (by omega) (fun c => ?_) (fun c => ?_)
        · exact c_truth1 (y1 σ1 hb1 (K63.row (hf 63 (by decide))) (by rw [eb]; exact (hb1.eWs 1 k).1 c))
        · exact c_truth0 (y0 σ1 hb1 (K63.row (hf 63 (by decide))) (by rw [eb]; exact fun w => c ((hb1.eWs 1 k).2 w)))
      · -- s
        have eb : bnd β 115 k = ((∃ c, fst1 β k c ∧ β 78 c = 1) ∧ dpT β (clT β k)) := rfl
        rw [if_neg (by decide), if_neg (by decide), if_pos rfl]
        refine c_isSecured hbt hβ (by omega) (fun c => ?_) (fun c => ?_)
        · rw [if_neg (by decide)]
          refine c_classPasses hbt hβ (by omega) (fun σ' a b c2 => ?_) (fun σ' a b c2 => ?_)
          · rw [if_neg (by decide)]
            exact c_truth1 (y1 σ' a b (by rw [eb]; exact ⟨c, c2⟩))
          · rw [if_pos rfl]
            exact c_truth0 (y0 σ' a b (by rw [eb]; exact fun w => c2 w.2))
        · rw [if_pos rfl]
          exact c_truth0 (y0 τ hbt (K63.refl τ) (by rw [eb]; exact fun w => c w.1))
      · -- q
        have eb : bnd β 113 k = ¬ qNone β k (bN β) := rfl
        rw [if_neg (by decide), if_pos rfl]
        refine c_firstQuarrel (n := bN β) hbt.2 (by omega) (by rw [hbt.1.2 8 (by decide)]; exact tn) (fun c e q => ?_) (fun q => ?_)
        · have := q.1
          have := q.2.1
          rw [if_neg (by rw [fa_eq, tin (by omega), tiN]; omega)]
          exact c_truth1 (y1 τ hbt (K63.refl τ) (by rw [eb, ← hbt.eQn]; exact fun w => q.not w))
        · rw [if_pos rfl]
          exact c_truth0 (y0 τ hbt (K63.refl τ) (by rw [eb, ← hbt.eQn]; exact fun w => w q))
  exact Lp 6 0 (by omega) σ hb (K63.refl σ)
theorem m_bindName {G : zGT} {d : Nat} {Φ : Int32 → zMem → Prop} {β σ : zMem} {L : Int32} (hb : PB β σ) (hβ : Rall β) (hL : isBn L) (h : ∀ σ', PB β σ' → σ' 111 = σ 111 → Φ (bnv β L) σ') : CTI G (d + 7) Y_X12_bindName [.inr (.inr 72), .inl L] σ Φ := by
  have n24 := bN_24 hβ.any
  have tn : (β 72 8).toInt = ((bN β : Nat) : Int) := by
    have := hβ.1.2.2.1.2.1
    unfold bN; omega
  have b2 := hβ.1.2.1.2
  refine en_X12_bindName ?_
  have Lp : ∀ m k : Nat, k + m = 6 → ∀ τ, PB β τ → τ 111 = σ 111 → WJ G M_X12_bindName (d + 7) (RI Φ) 4 [some (.inr (.inr 72)), some (.inl L), some (.inl (nI (nbd β L k))), some (.inl (nI k)), none] [] τ := by
    intro m
    induction m with
    | zero =>
      intro k hk τ hbt hkt
      refine rg_X12_bindName_4 ?_
      have : k = 6 := by omega
      subst this
      have H := h τ hbt hkt
      have le := nbd_le β L 6
      unfold bnv at H
      rw [if_pos (by decide)]
      have mn : ∀ P Q : Prop, (if nbd β L 6 = 0 then P else Q) → (if nI (nbd β L 6) ≤ 0 then P else Q) := by
        intro P Q w
        by_cases z : nbd β L 6 = 0
        · rw [if_pos z] at w
          rw [if_pos (by rw [z]; decide)]; exact w
        · rw [if_neg z] at w
          rw [if_neg (by rw [fa_le, ti0, tin (by omega)]; omega)]; exact w
      by_cases g1 : L = 115
      · rw [if_pos g1]
        rw [if_pos (Or.inl g1)] at H
        refine mn _ _ ?_
        split
        · rename_i z; rw [if_pos z] at H; exact H
        · rename_i z; rw [if_neg z] at H; exact H
      rw [if_neg g1]
      by_cases g2 : L = 113
      · rw [if_pos g2]
        rw [if_pos (Or.inr g2)] at H
        refine mn _ _ ?_
        split
        · rename_i z; rw [if_pos z] at H; exact H
        · rename_i z; rw [if_neg z] at H; exact H
      rw [if_neg g2]
      rw [if_neg (fun w => by rcases w with w | w; exact g1 w; exact g2 w)] at H
      exact H
    | succ m ih =>
      intro k hk τ hbt hkt
      refine rg_X12_bindName_4 ?_
      have q6 : ¬ (nI 6 ≤ nI k) := nI_ge (by omega) (by omega)
      rw [if_neg (show ¬ ((6 : Int32) ≤ nI k) from q6), nI_1, nI_1]
      have y1 : ∀ σ', PB β σ' → σ' 111 = τ 111 → bnd β L k → WJ G M_X12_bindName (d + 7) (RI Φ) 4 [some (.inr (.inr 72)), some (.inl L), some (.inl (nI (nbd β L k + 1))), some (.inl (nI (k + 1))), none] [] σ' := by
        intro σ' a b c
        have := ih (k + 1) (by omega) σ' a (b.trans hkt)
        rw [nbd_1 c] at this
        exact this
      have y0 : ∀ σ', PB β σ' → σ' 111 = τ 111 → ¬ bnd β L k → WJ G M_X12_bindName (d + 7) (RI Φ) 4 [some (.inr (.inr 72)), some (.inl L), some (.inl (nI (nbd β L k) + 0)), some (.inl (nI (k + 1))), none] [] σ' := by
        intro σ' a b c
        rw [Int32.add_zero]
        have := ih (k + 1) (by omega) σ' a (b.trans hkt)
        rw [nbd_0 c] at this
        exact this
      refine m_setOf hbt hβ ?_
      by_cases hz : hasC β k
      · have hz' : ¬ sob (bIn β k) (bN β) = 0 := fun q => (sob_hasC.1 q) hz
        have lt := sob_24 (bIn β k) n24
        rw [if_neg (by rw [fa_eq, tin (by omega), ti0]; omega)]
        have mf111 : ∀ σ', MF τ σ' → σ' 111 = τ 111 := fun σ' f => f.1 111 (by decide) (by decide)
        unfold isBn at hL
        rcases hL with rfl | rfl | rfl | rfl | rfl | rfl
        · -- y
          have eb : bnd β 121 k = dpT β (clT β k) := if_pos rfl
          rw [if_neg (by decide), if_neg (by decide), if_neg (by decide), if_neg (by decide), if_pos rfl]
          refine m_doesPass hβ hbt (fun σ' a b c => ?_) (fun σ' a b c => ?_)
          · rw [if_neg (by decide)]
            exact y1 σ' a b (by rw [eb]; exact c)
          · rw [if_pos rfl]
            exact y0 σ' a b (by rw [eb]; exact c)
        · -- c
          rw [if_pos rfl]
          exact y1 τ hbt rfl hz
        · -- w
          have eb : bnd β 119 k = isWs β 0 k := rfl
          rw [if_neg (by decide), if_neg (by decide), if_neg (by decide), if_pos rfl]
          refine m_isWorse (s := 0) hbt.2 (by decide) (fun q σ' c hA hm => ?_) (fun q σ' c hA hm => ?_)
          · rw [if_neg (by decide)]
            exact y1 σ' (hbt.mf hm.1) (mf111 σ' hm.1) (by rw [eb]; exact (hbt.eWs 0 k).1 c)
          · rw [if_pos rfl]
            exact y0 σ' (hbt.mf hm.1) (mf111 σ' hm.1) (by rw [eb]; exact fun w => c ((hbt.eWs 0 k).2 w))
        · -- u
          have eb : bnd β 117 k = isWs β 1 k := rfl
          rw [if_neg (by decide), if_neg (by decide), if_pos rfl]
          refine m_isWorse (s := 1) hbt.2 (by decide) (fun q σ' c hA hm => ?_) (fun q σ' c hA hm => ?_)
          · rw [if_neg (by decide)]
            exact y1 σ' (hbt.mf hm.1) (mf111 σ' hm.1) (by rw [eb]; exact (hbt.eWs 1 k).1 c)
          · rw [if_pos rfl]
            exact y0 σ' (hbt.mf hm.1) (mf111 σ' hm.1) (by rw [eb]; exact fun w => c ((hbt.eWs 1 k).2 w))
        · -- s
          have eb : bnd β 115 k = ((∃ c, fst1 β k c ∧ β 78 c = 1) ∧ dpT β (clT β k)) := rfl
          rw [if_neg (by decide), if_pos rfl]
          refine m_firstOf hbt hβ hz (fun c hc => ?_)
          have hc1 := hc.1
          rw [cln (by omega), hbt.1.1 78 (by decide) (by decide) (by decide)]
          refine ⟨vin (by omega), ?_⟩
          by_cases g : β 78 c = 1
          · rw [if_pos g]
            refine m_doesPass hβ hbt (fun σ' a b c2 => ?_) (fun σ' a b c2 => ?_)
            · rw [if_neg (by decide)]
              exact y1 σ' a b (by rw [eb]; exact ⟨⟨c, hc, g⟩, c2⟩)
            · rw [if_pos rfl]
              exact y0 σ' a b (by rw [eb]; exact fun w => c2 w.2)
          · rw [if_neg g]
            refine y0 τ hbt rfl ?_
            rw [eb]
            rintro ⟨⟨c', w, w2⟩, -⟩
            exact g (by rw [hc.uniq w]; exact w2)
        · -- q
          have eb : bnd β 113 k = ¬ qNone β k (bN β) := rfl
          rw [if_neg (by decide), if_neg (by decide), if_neg (by decide), if_neg (by decide), if_neg (by decide)]
          refine m_quarrelOf (n := bN β) (by rw [hbt.1.2 2 (by decide)]; exact b2.1) (by rw [hbt.1.2 2 (by decide)]; exact b2.2) (by rw [hbt.1.2 8 (by decide)]; exact tn) n24 (fun c e q => ?_) (fun q => ?_)
          · have := q.1
            have := q.2.1
            rw [if_neg (by rw [fa_lt, tin (by omega), ti0]; omega)]
            exact y1 τ hbt rfl (by rw [eb, ← hbt.eQn]; exact fun w => q.not w)
          · rw [if_pos (by decide)]
            exact y0 τ hbt rfl (by rw [eb, ← hbt.eQn]; exact fun w => w q)
      · have hz' : sob (bIn β k) (bN β) = 0 := sob_hasC.2 hz
        rw [hz', if_pos (by rfl)]
        exact y0 τ hbt rfl (fun w => hz w.hasK)
  exact Lp 6 0 (by omega) σ hb rfl
