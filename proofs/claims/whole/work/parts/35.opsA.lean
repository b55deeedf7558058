def chgd (σ : zMem) (c : Nat) : Prop := ∃ a : Nat, (a : Int) < (σ 72 2).toInt ∧ σ 77 a = nI c
def alk (σ : zMem) (c d : Nat) : Prop := σ 79 c = σ 79 d ∧ σ 78 c = σ 78 d ∧ (σ 78 c = 1 → ¬ chgd σ c ∧ ¬ chgd σ d)
def qbad (σ : zMem) (k c d : Nat) : Prop := σ 82 c = nI k ∧ σ 82 d = nI k ∧ ¬ alk σ c d
theorem enc_nI {v : Int32} {c : Nat} (h : -1 ≤ v.toInt) (hc : c < 1000000) : enc v = nI c ↔ v = nI c := by
  by_cases g : v = -1
  · subst g
    rw [enc_m1, fa_eq, fa_eq, tin (by omega), tim1, tiN]
    omega
  · have g1 : 0 ≤ v.toInt := by rw [fa_eq, tim1] at g; omega
    rw [enc_nn g1]
theorem c_same {G : zGT} {d : Nat} {Φ : Int32 → zMem → Prop} {σ : zMem} {c e : Nat} (h : Rall σ) (hc : c < 24) (he : e < 24) (h1 : ¬ chgd σ c ∧ ¬ chgd σ e → Φ 1 σ) (h0 : ¬ (¬ chgd σ c ∧ ¬ chgd σ e) → Φ 0 σ) : CTI G (d + 1) Y_X0_haveSameCharged [.inr (.inr 14), .inl (nI c), .inl (nI e)] σ Φ := by
  obtain ⟨⟨k1, k2, k3, k4, k5, k6, k7, k8, k9⟩, kas, kcl, kda, kdh, kpl, kkp, ksh, kwt, ktp, klw, ksd, kw0, kw1⟩ := h
  obtain ⟨e2, b2, u2⟩ := id k2
  refine en_X0_haveSameCharged ?_
  obtain ⟨n, hn, hn2, hn3⟩ := num_of b2 u2
  have tn : (σ 72 2).toInt = (n : Int) := by rw [hn, tin hn3]
  have L : ∀ m i : Nat, i + m = n → (∀ a : Nat, a < i → σ 77 a ≠ nI c ∧ σ 77 a ≠ nI e) → WJ G M_X0_haveSameCharged (d + 1) (RI Φ) 2 [some (.inr (.inr 14)), some (.inl (nI c)), some (.inl (nI e)), some (.inl (nI i))] [] σ := by
    intro m
    induction m with
    | zero =>
      intro i hi hI
      refine rg_X0_haveSameCharged_2 ?_
      have : i = n := by omega
      subst this
      rw [e2, hn, if_pos (nI_le (by omega) (by omega))]
      refine h1 ⟨?_, ?_⟩
      · rintro ⟨a, ha, hb⟩
        exact (hI a (by omega)).1 hb
      · rintro ⟨a, ha, hb⟩
        exact (hI a (by omega)).2 hb
    | succ m ih =>
      intro i hi hI
      refine rg_X0_haveSameCharged_2 ?_
      obtain ⟨q1, q2, q3, q4, q5, q6, q7, q8, q9, q10, q11, q12, q13, q14, q15⟩ := kas i (by omega)
      rw [e2, hn, if_neg (nI_ge (by omega) (by omega)), cln (by omega), q5]
      have v16 : vp_in (nI i) 16 := vin (by omega)
      refine ⟨v16, ?_⟩
      by_cases g1 : σ 77 i = nI c
      · rw [if_pos ((enc_nI q14 (by omega)).2 g1)]
        exact h0 (fun q => q.1 ⟨i, by omega, g1⟩)
      · rw [if_neg (fun q => g1 ((enc_nI q14 (by omega)).1 q))]
        refine ⟨v16, ?_⟩
        by_cases g2 : σ 77 i = nI e
        · rw [if_pos ((enc_nI q14 (by omega)).2 g2)]
          exact h0 (fun q => q.2 ⟨i, by omega, g2⟩)
        · rw [if_neg (fun q => g2 ((enc_nI q14 (by omega)).1 q)), nI_1]
          refine ih (i + 1) (by omega) (fun a ha => ?_)
          by_cases ea : a = i
          · subst ea; exact ⟨g1, g2⟩
          · exact hI a (by omega)
  exact L n 0 (by omega) (fun a ha => by omega)
theorem m_isCharged {G : zGT} {d : Nat} {Φ : Int32 → zMem → Prop} {σ : zMem} {c : Nat} (b2 : 0 ≤ (σ 72 2).toInt) (u2 : (σ 72 2).toInt ≤ 16) (h1 : chgd σ c → Φ 1 σ) (h0 : ¬ chgd σ c → Φ 0 σ) : CTI G (d + 1) Y_X12_isCharged [.inr (.inr 72), .inl (nI c)] σ Φ := by
  refine en_X12_isCharged ?_
  obtain ⟨n, hn, hn2, hn3⟩ := num_of b2 u2
  have tn : (σ 72 2).toInt = (n : Int) := by rw [hn, tin hn3]
  have L1 : ∀ m i : Nat, i + m = n → chgd σ c → WJ G M_X12_isCharged (d + 1) (RI Φ) 4 [some (.inr (.inr 72)), some (.inl (nI c)), some (.inl 1), some (.inl (nI i))] [] σ := by
    intro m
    induction m with
    | zero =>
      intro i hi hI
      refine rg_X12_isCharged_4 ?_
      have : i = n := by omega
      subst this
      rw [hn, if_pos (nI_le (by omega) (by omega)), if_pos (Or.inr rfl)]
      exact h1 hI
    | succ m ih =>
      intro i hi hI
      refine rg_X12_isCharged_4 ?_
      rw [hn, if_neg (nI_ge (by omega) (by omega)), if_neg (by decide), nI_1]
      exact ih (i + 1) (by omega) hI
  have L : ∀ m i : Nat, i + m = n → (∀ a : Nat, a < i → σ 77 a ≠ nI c) → WJ G M_X12_isCharged (d + 1) (RI Φ) 4 [some (.inr (.inr 72)), some (.inl (nI c)), some (.inl 0), some (.inl (nI i))] [] σ := by
    intro m
    induction m with
    | zero =>
      intro i hi hI
      refine rg_X12_isCharged_4 ?_
      have : i = n := by omega
      subst this
      rw [hn, if_pos (nI_le (by omega) (by omega)), if_pos (Or.inl rfl)]
      refine h0 ?_
      rintro ⟨a, ha, hb⟩
      exact (hI a (by omega)) hb
    | succ m ih =>
      intro i hi hI
      refine rg_X12_isCharged_4 ?_
      rw [hn, if_neg (nI_ge (by omega) (by omega)), if_pos rfl, cln (by omega), nI_1]
      have v16 : vp_in (nI i) 16 := vin (by omega)
      refine ⟨v16, ?_⟩
      by_cases g1 : σ 77 i = nI c
      · rw [if_pos g1]
        exact L1 m (i + 1) (by omega) ⟨i, by omega, g1⟩
      · rw [if_neg g1]
        refine ih (i + 1) (by omega) (fun a ha => ?_)
        by_cases ea : a = i
        · subst ea; exact g1
        · exact hI a (by omega)
  exact L n 0 (by omega) (fun a ha => by omega)
theorem c_areAlike {G : zGT} {d : Nat} {Φ : Int32 → zMem → Prop} {σ : zMem} {c e : Nat} (h : Rall σ) (hc : (c : Int) < (σ 72 8).toInt) (he : (e : Int) < (σ 72 8).toInt) (h1 : alk σ c e → Φ 1 σ) (h0 : ¬ alk σ c e → Φ 0 σ) : CTI G (d + 2) Y_X11_areAlike [.inr (.inr 0), .inl (nI c), .inl (nI e)] σ Φ := by
  have hh := h
  obtain ⟨⟨k1, k2, k3, k4, k5, k6, k7, k8, k9⟩, kas, kcl, kda, kdh, kpl, kkp, ksh, kwt, ktp, klw, ksd, kw0, kw1⟩ := h
  have u3 := k3.2.2
  obtain ⟨q1, q2, -⟩ := kcl.1 c hc
  obtain ⟨r1, r2, -⟩ := kcl.1 e he
  have vc : vp_in (nI c) 24 := vin (by omega)
  have ve : vp_in (nI e) 24 := vin (by omega)
  refine en_X11_areAlike ?_
  rw [cln (by omega), cln (by omega), q1, q2, r1, r2]
  refine ⟨vc, ve, ?_⟩
  by_cases g1 : σ 79 c = σ 79 e
  · rw [if_pos g1]
    refine ⟨vc, ve, ?_⟩
    by_cases g2 : σ 78 c = σ 78 e
    · rw [if_pos g2]
      refine ⟨vc, ?_⟩
      by_cases g3 : σ 78 c = 1
      · rw [if_pos g3]
        refine c_same hh (by omega) (by omega) (fun q => ?_) (fun q => ?_)
        · rw [if_neg (by decide)]
          exact h1 ⟨g1, g2, fun _ => q⟩
        · rw [if_pos rfl]
          exact h0 (fun w => q (w.2.2 g3))
      · rw [if_neg g3]
        exact h1 ⟨g1, g2, fun w => absurd w g3⟩
    · rw [if_neg g2]
      exact h0 (fun w => g2 w.2.1)
  · rw [if_neg g1]
    exact h0 (fun w => g1 w.1)
theorem m_areAlike {G : zGT} {d : Nat} {Φ : Int32 → zMem → Prop} {σ : zMem} {c e : Nat} (b2 : 0 ≤ (σ 72 2).toInt) (u2 : (σ 72 2).toInt ≤ 16) (hc : c < 24) (he : e < 24) (h1 : alk σ c e → Φ 1 σ) (h0 : ¬ alk σ c e → Φ 0 σ) : CTI G (d + 2) Y_X12_areAlike [.inr (.inr 72), .inl (nI c), .inl (nI e)] σ Φ := by
  have vc : vp_in (nI c) 24 := vin (by omega)
  have ve : vp_in (nI e) 24 := vin (by omega)
  refine en_X12_areAlike ?_
  rw [cln (by omega), cln (by omega)]
  refine ⟨vc, ve, ?_⟩
  by_cases g1 : σ 79 c = σ 79 e
  · rw [if_pos g1]
    refine ⟨vc, ve, ?_⟩
    by_cases g2 : σ 78 c = σ 78 e
    · rw [if_pos g2]
      refine ⟨vc, ?_⟩
      by_cases g3 : σ 78 c = 1
      · rw [if_pos g3]
        refine m_isCharged b2 u2 (fun q => ?_) (fun q => ?_)
        · rw [if_neg (by decide)]
          exact h0 (fun w => (w.2.2 g3).1 q)
        · rw [if_pos rfl]
          refine m_isCharged b2 u2 (fun q2 => ?_) (fun q2 => ?_)
          · rw [if_neg (by decide)]
            exact h0 (fun w => (w.2.2 g3).2 q2)
          · rw [if_pos rfl]
            exact h1 ⟨g1, g2, fun _ => ⟨q, q2⟩⟩
      · rw [if_neg g3]
        exact h1 ⟨g1, g2, fun w => absurd w g3⟩
    · rw [if_neg g2]
      exact h0 (fun w => g2 w.2.1)
  · rw [if_neg g1]
    exact h0 (fun w => g1 w.1)
def qFirst (σ : zMem) (k n c d : Nat) : Prop := c < d ∧ d < n ∧ qbad σ k c d ∧ ∀ c' d' : Nat, c' < d' → d' < n → (c' < c ∨ c' = c ∧ d' < d) → ¬ qbad σ k c' d'
def qNone (σ : zMem) (k n : Nat) : Prop := ∀ c d : Nat, c < d → d < n → ¬ qbad σ k c d
theorem hun (c d : Nat) : 100 * nI c + nI d = nI (100 * c + d) := by rw [show (100 : Int32) = nI 100 from rfl, pk_mul, nI_add]
theorem c_firstQuarrel {G : zGT} {d : Nat} {Φ : Int32 → zMem → Prop} {σ : zMem} {k n : Nat} (h : Rall σ) (hk : k < 6) (hn : (σ 72 8).toInt = (n : Int)) (h1 : ∀ c e, qFirst σ k n c e → Φ (nI (100 * c + e)) σ) (h0 : qNone σ k n → Φ (-1000000005) σ) : CTI G (d + 3) Y_X11_firstQuarrel [.inr (.inr 0), .inl (nI k)] σ Φ := by
  have hh := h
  obtain ⟨⟨k1, k2, k3, k4, k5, k6, k7, k8, k9⟩, kas, kcl, kda, kdh, kpl, kkp, ksh, kwt, ktp, klw, ksd, kw0, kw1⟩ := h
  obtain ⟨e3, b3, u3⟩ := id k3
  have e3n : σ 1 6 = nI n := by rw [e3]; exact nI_of_toInt (by omega) hn
  have ec : ∀ c : Nat, c < n → (σ 35 c = nI k ↔ σ 82 c = nI k) := by
    intro c hc
    obtain ⟨p1, p2, p3, p4, p5, p6⟩ := kpl.1 c (by omega)
    rw [p1]
    exact enc_nI p3 (by omega)
  refine en_X11_firstQuarrel ?_
  have L : ∀ m c : Nat, c + m = n → (∀ c' d' : Nat, c' < c → c' < d' → d' < n → ¬ qbad σ k c' d') → WJ G M_X11_firstQuarrel (d + 3) (RI Φ) 2 [some (.inr (.inr 0)), some (.inl (nI k)), some (.inl (nI c)), none] [] σ := by
    intro m
    induction m with
    | zero =>
      intro c hc hI
      refine rg_X11_firstQuarrel_2 ?_
      rw [e3n, if_pos (nI_le (by omega) (by omega))]
      exact h0 (fun a b hab hb => hI a b (by omega) hab hb)
    | succ m ih =>
      intro c hc hI
      refine rg_X11_firstQuarrel_2 ?_
      rw [e3n, if_neg (nI_ge (by omega) (by omega)), nI_1]
      have L2 : ∀ m e : Nat, e + m = n → c < e → (∀ d' : Nat, c < d' → d' < e → ¬ qbad σ k c d') → WJ G M_X11_firstQuarrel (d + 3) (RI Φ) 17 [some (.inr (.inr 0)), some (.inl (nI k)), some (.inl (nI c)), some (.inl (nI e))] [] σ := by
        intro m
        induction m with
        | zero =>
          intro e he hce hJ
          refine rg_X11_firstQuarrel_17 ?_
          rw [e3n, if_pos (nI_le (by omega) (by omega)), nI_1]
          refine ih (c + 1) (by omega) (fun a b ha hab hb => ?_)
          by_cases g : a = c
          · subst g; exact hJ b hab (by omega)
          · exact hI a b (by omega) hab hb
        | succ m ih2 =>
          intro e he hce hJ
          refine rg_X11_firstQuarrel_17 ?_
          rw [e3n, if_neg (nI_ge (by omega) (by omega)), cln (by omega), cln (by omega), nI_1]
          refine ⟨vin (by omega), ?_⟩
          have nxt : ¬ qbad σ k c e → WJ G M_X11_firstQuarrel (d + 3) (RI Φ) 17 [some (.inr (.inr 0)), some (.inl (nI k)), some (.inl (nI c)), some (.inl (nI (e + 1)))] [] σ := by
            intro q
            refine ih2 (e + 1) (by omega) (by omega) (fun d' h1 h2 => ?_)
            by_cases g : d' = e
            · subst g; exact q
            · exact hJ d' h1 (by omega)
          by_cases g1 : σ 82 c = nI k
          · rw [if_pos ((ec c (by omega)).2 g1)]
            refine ⟨vin (by omega), ?_⟩
            by_cases g2 : σ 82 e = nI k
            · rw [if_pos ((ec e (by omega)).2 g2)]
              refine c_areAlike hh (by omega) (by omega) (fun q => ?_) (fun q => ?_)
              · rw [if_neg (by decide)]
                exact nxt (fun w => w.2.2 q)
              · rw [if_pos rfl, hun]
                refine h1 c e ⟨hce, by omega, ⟨g1, g2, q⟩, fun a b hab hb w => ?_⟩
                rcases w with w | ⟨w1, w2⟩
                · exact hI a b w hab hb
                · subst w1; exact hJ b hab w2
            · rw [if_neg (fun w => g2 ((ec e (by omega)).1 w))]
              exact nxt (fun w => g2 w.2.1)
          · rw [if_neg (fun w => g1 ((ec c (by omega)).1 w))]
            exact nxt (fun w => g1 w.1)
      exact L2 m (c + 1) (by omega) (by omega) (fun d' h1 h2 => by omega)
  exact L n 0 (by omega) (fun a b ha => by omega)
theorem m_quarrelOf {G : zGT} {d : Nat} {Φ : Int32 → zMem → Prop} {σ : zMem} {k n : Nat} (b2 : 0 ≤ (σ 72 2).toInt) (u2 : (σ 72 2).toInt ≤ 16) (hn : (σ 72 8).toInt = (n : Int)) (hn24 : n ≤ 24) (h1 : ∀ c e, qFirst σ k n c e → Φ (nI (100 * c + e)) σ) (h0 : qNone σ k n → Φ (-1) σ) : CTI G (d + 3) Y_X12_quarrelOf [.inr (.inr 72), .inl (nI k)] σ Φ := by
  have e3n : σ 72 8 = nI n := nI_of_toInt (by omega) hn
  refine en_X12_quarrelOf ?_
  have L : ∀ m c : Nat, c + m = n → (∀ c' d' : Nat, c' < c → c' < d' → d' < n → ¬ qbad σ k c' d') → WJ G M_X12_quarrelOf (d + 3) (RI Φ) 2 [some (.inr (.inr 72)), some (.inl (nI k)), some (.inl (nI c)), none] [] σ := by
    intro m
    induction m with
    | zero =>
      intro c hc hI
      refine rg_X12_quarrelOf_2 ?_
      rw [e3n, if_pos (nI_le (by omega) (by omega))]
      exact h0 (fun a b hab hb => hI a b (by omega) hab hb)
    | succ m ih =>
      intro c hc hI
      refine rg_X12_quarrelOf_2 ?_
      rw [e3n, if_neg (nI_ge (by omega) (by omega)), nI_1]
      have L2 : ∀ m e : Nat, e + m = n → c < e → (∀ d' : Nat, c < d' → d' < e → ¬ qbad σ k c d') → WJ G M_X12_quarrelOf (d + 3) (RI Φ) 14 [some (.inr (.inr 72)), some (.inl (nI k)), some (.inl (nI c)), some (.inl (nI e))] [] σ := by
        intro m
        induction m with
        | zero =>
          intro e he hce hJ
          refine rg_X12_quarrelOf_14 ?_
          rw [e3n, if_pos (nI_le (by omega) (by omega)), nI_1]
          refine ih (c + 1) (by omega) (fun a b ha hab hb => ?_)
          by_cases g : a = c
          · subst g; exact hJ b hab (by omega)
          · exact hI a b (by omega) hab hb
        | succ m ih2 =>
          intro e he hce hJ
          refine rg_X12_quarrelOf_14 ?_
          rw [e3n, if_neg (nI_ge (by omega) (by omega)), cln (by omega), cln (by omega), nI_1, nI_1]
          refine ⟨vin (by omega), ?_⟩
          have nxt : ¬ qbad σ k c e → WJ G M_X12_quarrelOf (d + 3) (RI Φ) 14 [some (.inr (.inr 72)), some (.inl (nI k)), some (.inl (nI c)), some (.inl (nI (e + 1)))] [] σ := by
            intro q
            refine ih2 (e + 1) (by omega) (by omega) (fun d' h1 h2 => ?_)
            by_cases g : d' = e
            · subst g; exact q
            · exact hJ d' h1 (by omega)
          by_cases g1 : σ 82 c = nI k
          · rw [if_pos g1]
            refine ⟨vin (by omega), ?_⟩
            by_cases g2 : σ 82 e = nI k
            · rw [if_pos g2]
              refine m_areAlike b2 u2 (by omega) (by omega) (fun q => ?_) (fun q => ?_)
              · rw [if_neg (by decide)]
                exact nxt (fun w => w.2.2 q)
              · rw [if_pos rfl, hun]
                refine h1 c e ⟨hce, by omega, ⟨g1, g2, q⟩, fun a b hab hb w => ?_⟩
                rcases w with w | ⟨w1, w2⟩
                · exact hI a b w hab hb
                · subst w1; exact hJ b hab w2
            · rw [if_neg g2]
              exact nxt (fun w => g2 w.2.1)
          · rw [if_neg g1]
            refine ih (c + 1) (by omega) (fun a b ha hab hb => ?_)
            by_cases g : a = c
            · subst g; exact fun w => g1 w.1
            · exact hI a b (by omega) hab hb
      exact L2 m (c + 1) (by omega) (by omega) (fun d' h1 h2 => by omega)
  exact L n 0 (by omega) (fun a b ha => by omega)
theorem qFirst.uniq {σ : zMem} {k n c d c' d' : Nat} (h : qFirst σ k n c d) (h' : qFirst σ k n c' d') : c = c' ∧ d = d' := by
  obtain ⟨a1, a2, a3, a4⟩ := h
  obtain ⟨b1, b2, b3, b4⟩ := h'
  by_cases g1 : c' < c ∨ c' = c ∧ d' < d
  · exact absurd b3 (a4 c' d' b1 b2 g1)
  · by_cases g2 : c < c' ∨ c = c' ∧ d < d'
    · exact absurd a3 (b4 c d a1 a2 g2)
    · omega
theorem qFirst.not {σ : zMem} {k n c d : Nat} (h : qFirst σ k n c d) (h' : qNone σ k n) : False := h' c d h.1 h.2.1 h.2.2.1
theorem P_quarrel {G : zGT} {d : Nat} {v1 : Int32} : Pair G (d + 4) Y_X11_quarrel Y_X12_quarrel [.inl v1] := by
  intro σ h
  have hh := h
  obtain ⟨⟨k1, k2, k3, k4, k5, k6, k7, k8, k9⟩, kas, kcl, kda, kdh, kpl, kkp, ksh, kwt, ktp, klw, ksd, kw0, kw1⟩ := h
  obtain ⟨e1, b1, u1⟩ := id k1
  obtain ⟨e2, b2, u2⟩ := id k2
  obtain ⟨e3, b3, u3⟩ := id k3
  obtain ⟨e4, b4, u4⟩ := id k4
  obtain ⟨e5, b5, u5⟩ := id k5
  obtain ⟨e6, b6, u6⟩ := id k6
  obtain ⟨e7, b7, u7⟩ := id k7
  obtain ⟨e8, b8, u8⟩ := id k8
  obtain ⟨e9, b9, u9⟩ := id k9
  refine en_X11_quarrel ?_
  refine c_isClass (fun w1 w2 => ?_) (fun w => ?_)
  rotate_left
  · rw [if_pos rfl]
    refine en_X12_quarrel ?_
    refine m_isClass (fun _ _ => by omega) (fun _ => ?_)
    rw [if_pos rfl]
    exact ⟨rfl, hh⟩
  rw [if_neg (by decide)]
  obtain ⟨k, rfl, hk, hk3⟩ := num_of w1 w2
  obtain ⟨n, hn, hn2, hn3⟩ := num_of b3 u3
  have tn : (σ 72 8).toInt = (n : Int) := by rw [hn, tin hn3]
  have pre : ∀ (Φ : Int32 → zMem → Prop), (∀ c e, qFirst σ k n c e → Φ (nI (100 * c + e)) σ) → (qNone σ k n → Φ (-1000000005) σ) → CTI G (d + 4) Y_X12_quarrel [.inr (.inr 72), .inl (nI k)] σ Φ := by
    intro Φ H1 H0
    refine en_X12_quarrel ?_
    refine m_isClass (fun _ _ => ?_) (fun q => by omega)
    rw [if_neg (by decide)]
    refine m_quarrelOf b2 u2 tn (by omega) (fun c e q => ?_) (fun q => ?_)
    · have := q.2.1
      have := q.1
      refine m_orNone (by rw [tin (by omega)]; omega) ?_
      rw [enc_nn (by rw [tin (by omega)]; omega)]
      exact H1 c e q
    · refine m_orNone (by decide) ?_
      rw [enc_m1]
      exact H0 q
  refine c_firstQuarrel hh (by omega) tn (fun c e q => ?_) (fun q => ?_)
  · refine pre _ (fun c' e' q' => ?_) (fun q' => (q.not q').elim)
    obtain ⟨r1, r2⟩ := q.uniq q'
    subst r1; subst r2
    exact ⟨rfl, hh⟩
  · exact pre _ (fun c' e' q' => (q'.not q).elim) (fun _ => ⟨rfl, hh⟩)
