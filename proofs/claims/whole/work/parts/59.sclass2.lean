theorem bYs_bit {β : zMem} {P : Nat → Bool} {s c : Nat} (hc : c < bN β) : (bYs β P s).testBit c = Qs P s c := Qs_bit P s c hc
theorem Qs_P {P : Nat → Bool} {s c : Nat} (h : Qs P s c = true) : P c = true := by
  unfold Qs pkd at h
  rw [Bool.and_eq_true, Bool.and_eq_true] at h
  exact h.1.2
theorem bYs_sum {β : zMem} {P : Nat → Bool} {s : Nat} (g : Nat → Int) : isum (fun c => if (bYs β P s).testBit c then g c else 0) (bN β) = sms s (fun i => g ((pks P (bN β)).2 i)) (pks P (bN β)).1 := by
  rw [← sms_eq]
  refine isum_congr (bN β) (fun c hc => ?_)
  rw [bYs_bit hc]
theorem cnS_cut {t s : Nat} (ht : t ≤ 10) (hs : s < 2 ^ t) : sms s (fun _ => 1) t = cnS s := by
  have := sms_cut (g := fun _ => 1) hs (10 - t)
  rw [show t + (10 - t) = 10 by omega] at this
  exact this.symm
theorem clT_adj {β : zMem} {k s : Nat} (hs : s < 2 ^ (pks (bPb β k) (bN β)).1) : ∀ j, j < 7 → tly (bIn β k) (bK β) (bV β) (vtY β (bYs β (bPb β k) s)) (bN β) j = adj (clT β k) (sms s (fun i => bV β ((pks (bPb β k) (bN β)).2 i)) (pks (bPb β k) (bN β)).1) (cnS s) j := by
  intro j hj
  have e := tly_adj (p := bIn β k) (kd := bK β) (vl := bV β) (vt := bVt β) (Y := bYs β (bPb β k) s) (bN β) (fun c hc hy => ?_) j hj
  · rw [bYs_sum (β := β) (P := bPb β k) (s := s) (bV β), bYs_sum (β := β) (P := bPb β k) (s := s) (fun _ => 1), cnS_cut (pks_ok (bPb β k) (bN β)).1 hs] at e
    exact e
  · rw [bYs_bit hc] at hy
    have := Qs_P hy
    unfold bPb at this
    rw [Bool.and_eq_true, decide_eq_true_eq] at this
    refine ⟨this.1, ?_⟩
    unfold bVt
    rw [this.2, ti2]
theorem c_passesBought {G : zGT} {d : Nat} {Φ : Int32 → zMem → Prop} {β σ : zMem} {k s : Nat} (hβ : Rall β) (hi : SI β (bPb β k) σ) (hT : TR (σ 67) (clT β k)) (hs : s < 2 ^ (pks (bPb β k) (bN β)).1) (h1 : ∀ σ', SI β (bPb β k) σ' → TR (σ' 67) (clT β k) → σ' 64 = σ 64 → okB β k s → Φ 1 σ') (h0 : ∀ σ', SI β (bPb β k) σ' → TR (σ' 67) (clT β k) → σ' 64 = σ 64 → ¬ okB β k s → Φ 0 σ') : CTI G (d + 6) Y_X7_passesBought [.inr (.inr 64), .inl (nI s)] σ Φ := by
  obtain ⟨o1, o2, o3⟩ := pks_ok (bPb β k) (bN β)
  have n24 := bN_24 hβ.any
  have p10 := pow_10 o1
  refine en_X7_passesBought ?_
  have L : ∀ m i : Nat, i + m = (pks (bPb β k) (bN β)).1 → ∀ v : Int32, v.toInt = sms s (fun i => bV β ((pks (bPb β k) (bN β)).2 i)) i → WJ G M_X7_passesBought (d + 6) (RI Φ) 4 [some (.inr (.inr 64)), some (.inl (nI s)), some (.inl v), some (.inl (nI i))] [] σ := by
    intro m
    induction m with
    | zero =>
      intro i hii v hv
      refine rg_X7_passesBought_4 ?_
      have : i = (pks (bPb β k) (bN β)).1 := by omega
      subst this
      rw [hi.2.1, if_pos (nI_le (by omega) (by omega))]
      refine c_bitCount (by omega) (fun b hb => ?_)
      rintro _ rfl _ rfl _ rfl _ rfl _ rfl _ rfl _ rfl
      have ca := clT_adj (β := β) (k := k) hs
      have tb : TB (bN β) (tly (bIn β k) (bK β) (bV β) (vtY β (bYs β (bPb β k) s)) (bN β)) := TB.tly (p := bIn β k) (bN β) (bT_ok hβ)
      have tb0 := clT_TB hβ k
      have r0 := hT 0 (by omega)
      have r1 := hT 1 (by omega)
      have r2 := hT 2 (by omega)
      have r3 := hT 3 (by omega)
      have r4 := hT 4 (by omega)
      have r5 := hT 5 (by omega)
      have r6 := hT 6 (by omega)
      have hb' : b.toInt = cnS s := hb
      rw [← hv, ← hb'] at ca
      unfold okB at h1 h0
      generalize tly (bIn β k) (bK β) (bV β) (vtY β (bYs β (bPb β k) s)) (bN β) = T' at *
      generalize clT β k = T at *
      have c0 := ca 0 (by omega)
      have c1 := ca 1 (by omega)
      have c2 := ca 2 (by omega)
      have c3 := ca 3 (by omega)
      have c4 := ca 4 (by omega)
      have c5 := ca 5 (by omega)
      have c6 := ca 6 (by omega)
      have c0 : T' 0 = T 0 + v.toInt := c0
      have c1 : T' 1 = T 1 - v.toInt := c1
      have c2 : T' 2 = T 2 := c2
      have c3 : T' 3 = T 3 + b.toInt := c3
      have c4 : T' 4 = T 4 - b.toInt := c4
      have c5 : T' 5 = T 5 := c5
      have c6 : T' 6 = T 6 := c6
      have tb' := tb
      obtain ⟨ta, tb1, tc, td, te⟩ := tb'
      have a0 := ta 0 (by omega)
      have a1 := ta 1 (by omega)
      have a3 := ta 3 (by omega)
      have a4 := ta 4 (by omega)
      generalize hτ : zwr (zwr (zwr (zwr (zwr (zwr (zwr σ 68 0 (σ 67 0 + v)) 68 1 _) 68 2 _) 68 3 _) 68 4 _) 68 5 _) 68 6 _ = τ
      have ft : ∀ a, a ≠ 68 → τ a = σ a := by
        intro a ha
        rw [← hτ, zwr_rne ha, zwr_rne ha, zwr_rne ha, zwr_rne ha, zwr_rne ha, zwr_rne ha, zwr_rne ha]
      have hb1 : PB β τ := hi.1.fr (FR.of (L := [68]) (fun a ha => ft a (by simpa using ha)) (by decide))
      have tT : TR (τ 68) T' := by
        rw [← hτ]
        simp only [zwr_rne, zwr_req, ne_eq, Nat.reduceEqDiff, not_false_eq_true]
        intro j hj
        have j7 : j = 0 ∨ j = 1 ∨ j = 2 ∨ j = 3 ∨ j = 4 ∨ j = 5 ∨ j = 6 := by omega
        rcases j7 with rfl | rfl | rfl | rfl | rfl | rfl | rfl
        · simp only [zwr_rne, zwr_req, upd_ne, upd_eq, ne_eq, Nat.reduceEqDiff, not_false_eq_true]
          rw [fb_addI (by omega) (by omega), r0, c0]
        · simp only [zwr_rne, zwr_req, upd_ne, upd_eq, ne_eq, Nat.reduceEqDiff, not_false_eq_true]
          rw [fb_subI (by omega) (by omega), r1, c1]
        · simp only [zwr_rne, zwr_req, upd_ne, upd_eq, ne_eq, Nat.reduceEqDiff, not_false_eq_true]
          rw [r2, c2]
        · simp only [zwr_rne, zwr_req, upd_ne, upd_eq, ne_eq, Nat.reduceEqDiff, not_false_eq_true]
          rw [fb_addI (by omega) (by omega), r3, c3]
        · simp only [zwr_rne, zwr_req, upd_ne, upd_eq, ne_eq, Nat.reduceEqDiff, not_false_eq_true]
          rw [fb_subI (by omega) (by omega), r4, c4]
        · simp only [zwr_rne, zwr_req, upd_ne, upd_eq, ne_eq, Nat.reduceEqDiff, not_false_eq_true]
          rw [r5, c5]
        · simp only [zwr_rne, zwr_req, upd_ne, upd_eq, ne_eq, Nat.reduceEqDiff, not_false_eq_true]
          rw [r6, c6]
      have fin : ∀ σ', (∀ a, a ≠ 63 → a ≠ 58 → σ' a = τ a) → SI β (bPb β k) σ' ∧ TR (σ' 67) T ∧ σ' 64 = σ 64 := by
        intro σ' f
        have hb2 : PB β σ' := hb1.fr (FR.of (L := [63, 58]) (fun a ha => f a (fun q => ha (by simp [q])) (fun q => ha (by simp [q]))) (by decide))
        have e64 : σ' 64 = σ 64 := by rw [f 64 (by decide) (by decide), ft 64 (by decide)]
        refine ⟨hi.fr hb2 (by rw [e64]) ?_ ?_, ?_, e64⟩
        · rw [f 65 (by decide) (by decide), ft 65 (by decide)]
        · rw [f 66 (by decide) (by decide), ft 66 (by decide)]
        · rw [f 67 (by decide) (by decide), ft 67 (by decide)]
          exact hT
      refine c_passesBy68 hb1 hβ tT tb n24 (fun σ' f _ g => ?_) (fun σ' f _ g => ?_)
      · rw [if_pos (Or.inr rfl)]
        obtain ⟨f1, f2, f3⟩ := fin σ' f
        exact h1 σ' f1 f2 f3 g
      · rw [if_pos (Or.inl rfl)]
        obtain ⟨f1, f2, f3⟩ := fin σ' f
        exact h0 σ' f1 f2 f3 g
    | succ m ih =>
      intro i hii v hv
      refine rg_X7_passesBought_4 ?_
      have lt : i < (pks (bPb β k) (bN β)).1 := by omega
      obtain ⟨c1, c2, c3, c4⟩ := o3 i lt
      obtain ⟨q1, q2⟩ := hi.2.2 i lt
      rw [hi.2.1, if_neg (nI_ge (by omega) (by omega)), cln (show i < 2147483648 by omega), nI_1]
      refine ⟨vin (by omega), ?_⟩
      obtain ⟨r0, r1⟩ := bV_rng hβ c1
      obtain ⟨s0, s1⟩ := sms_rng (s := s) (g := fun i => bV β ((pks (bPb β k) (bN β)).2 i)) (B := 100000) (t := i) (fun j hj => bV_rng hβ (o3 j (by omega)).1) (by omega)
      have bm := bit_mul (s := s) (i := i) (x := σ 66 i) (by omega) (by omega) (by omega)
      refine ih (i + 1) (by omega) _ ?_
      have bb : 0 ≤ (if s.testBit i = true then (σ 66 i).toInt else 0) ∧ (if s.testBit i = true then (σ 66 i).toInt else 0) ≤ 100000 := by split <;> omega
      rw [fb_addI (by omega) (by omega), hv, bm, sms_s, q2]
  exact L (pks (bPb β k) (bN β)).1 0 (by omega) 0 rfl
theorem c_passesAlone {G : zGT} {d : Nat} {Φ : Int32 → zMem → Prop} {β σ : zMem} {k s : Nat} (hβ : Rall β) (hi : SI β (bIn β k) σ) (hs : s < 2 ^ (pks (bIn β k) (bN β)).1) (h1 : ∀ σ', SI β (bIn β k) σ' → σ' 64 = σ 64 → okA β k s → Φ 1 σ') (h0 : ∀ σ', SI β (bIn β k) σ' → σ' 64 = σ 64 → ¬ okA β k s → Φ 0 σ') : CTI G (d + 6) Y_X7_passesAlone [.inr (.inr 64), .inl (nI s)] σ Φ := by
  obtain ⟨o1, o2, o3⟩ := pks_ok (bIn β k) (bN β)
  have n24 := bN_24 hβ.any
  have p10 := pow_10 o1
  have eT : tly (Qs (bIn β k) s) (bK β) (bV β) (bVt β) (bN β) = itr (fun i b => if s.testBit i then tadd (bK β ((pks (bIn β k) (bN β)).2 i)) (bV β ((pks (bIn β k) (bN β)).2 i)) (bVt β ((pks (bIn β k) (bN β)).2 i)) b else b) (pks (bIn β k) (bN β)).1 (fun _ => 0) := by
    rw [tly_itr, fold_eq (bIn β k) s (fun c b => tadd (bK β c) (bV β c) (bVt β c) b) (fun _ => 0) (bN β)]
  have tbi : ∀ i, i ≤ (pks (bIn β k) (bN β)).1 → TB i (itr (fun i b => if s.testBit i then tadd (bK β ((pks (bIn β k) (bN β)).2 i)) (bV β ((pks (bIn β k) (bN β)).2 i)) (bVt β ((pks (bIn β k) (bN β)).2 i)) b else b) i (fun _ => 0)) := by
    intro i
    induction i with
    | zero => intro _; exact TB.tly (p := bIn β k) (kd := bK β) (vl := bV β) (vt := bVt β) 0 (fun j hj => absurd hj (Nat.not_lt_zero j))
    | succ i ih =>
      intro hii
      have ih' := ih (by omega)
      obtain ⟨q1, q2, q3, q4⟩ := bT_ok hβ _ (o3 i (by omega)).1
      rw [itr_s]
      split
      · exact ih'.add q1 q2 q3 q4
      · exact ih'.more (by omega)
  refine en_X7_passesAlone ?_
  refine c_clear68 (fun σ0 f0 T0 => ?_)
  have L : ∀ m i : Nat, i + m = (pks (bIn β k) (bN β)).1 → ∀ τ : zMem, (∀ a, a ≠ 68 → τ a = σ a) → TR (τ 68) (itr (fun i b => if s.testBit i then tadd (bK β ((pks (bIn β k) (bN β)).2 i)) (bV β ((pks (bIn β k) (bN β)).2 i)) (bVt β ((pks (bIn β k) (bN β)).2 i)) b else b) i (fun _ => 0)) →
      WJ G M_X7_passesAlone (d + 6) (RI Φ) 9 [some (.inr (.inr 64)), some (.inl (nI s)), some (.inl (nI i)), none] [] τ := by
    intro m
    induction m with
    | zero =>
      intro i hii τ ft hT
      refine rg_X7_passesAlone_9 ?_
      have : i = (pks (bIn β k) (bN β)).1 := by omega
      subst this
      rw [ft 64 (by decide), hi.2.1, if_pos (nI_le (by omega) (by omega))]
      have hb1 : PB β τ := hi.1.fr (FR.of (L := [68]) (fun a ha => ft a (by simpa using ha)) (by decide))
      rw [← eT] at hT
      have fin : ∀ σ', (∀ a, a ≠ 63 → a ≠ 58 → σ' a = τ a) → SI β (bIn β k) σ' ∧ σ' 64 = σ 64 := by
        intro σ' f
        have hb2 : PB β σ' := hb1.fr (FR.of (L := [63, 58]) (fun a ha => f a (fun q => ha (by simp [q])) (fun q => ha (by simp [q]))) (by decide))
        have e64 : σ' 64 = σ 64 := by rw [f 64 (by decide) (by decide), ft 64 (by decide)]
        refine ⟨hi.fr hb2 (by rw [e64]) ?_ ?_, e64⟩
        · rw [f 65 (by decide) (by decide), ft 65 (by decide)]
        · rw [f 66 (by decide) (by decide), ft 66 (by decide)]
      refine c_passesBy68 hb1 hβ hT (TB.tly (p := Qs (bIn β k) s) (bN β) (bT_ok hβ)) n24 (fun σ' f _ g => ?_) (fun σ' f _ g => ?_)
      · rw [if_pos (Or.inr rfl)]
        obtain ⟨f1, f3⟩ := fin σ' f
        exact h1 σ' f1 f3 g
      · rw [if_pos (Or.inl rfl)]
        obtain ⟨f1, f3⟩ := fin σ' f
        exact h0 σ' f1 f3 g
    | succ m ih =>
      intro i hii τ ft hT
      refine rg_X7_passesAlone_9 ?_
      have lt : i < (pks (bIn β k) (bN β)).1 := by omega
      obtain ⟨c1, c2, c3, c4⟩ := o3 i lt
      obtain ⟨q1, q2⟩ := hi.2.2 i lt
      rw [ft 64 (by decide), hi.2.1, if_neg (nI_ge (by omega) (by omega)), cln (show i < 2147483648 by omega), nI_1, ft 65 (by decide), q1, cln (by omega), ft 66 (by decide)]
      have ih' := ih (i + 1) (by omega)
      rw [itr_s] at ih'
      by_cases g : s.testBit i = true
      · rw [if_pos ((bt_test (by omega) (by omega)).2 g)]
        rw [if_pos g] at ih'
        have hc' := (bN_c hβ.any).1 c1
        obtain ⟨r0, r1⟩ := bV_rng hβ c1
        have hb1 : PB β τ := hi.1.fr (FR.of (L := [68]) (fun a ha => ft a (by simpa using ha)) (by decide))
        have g2 : τ 2 ((pks (bIn β k) (bN β)).2 i) = β 78 ((pks (bIn β k) (bN β)).2 i) := by rw [hb1.1.1 2 (by decide) (by decide) (by decide), (hβ.2.2.1.1 _ hc').1]
        have g36 : τ 36 ((pks (bIn β k) (bN β)).2 i) = β 83 ((pks (bIn β k) (bN β)).2 i) := by rw [hb1.1.1 36 (by decide) (by decide) (by decide), (hβ.2.2.2.2.2.1.1 _ hc').2.1]
        refine ⟨vin (by omega), vin (by omega), vin (by omega), vin (by omega), ?_⟩
        rw [g2, g36]
        refine c_add68 hT (tbi i (by omega)) (by omega) (by omega) (by omega) (fun σ' f hT' => ?_)
        rw [q2] at hT'
        exact ih' σ' (fun a ha => (f a ha).trans (ft a ha)) hT'
      · rw [if_neg (fun q => g ((bt_test (by omega) (by omega)).1 q))]
        rw [if_neg g] at ih'
        exact ih' τ ft hT
  exact L (pks (bIn β k) (bN β)).1 0 (by omega) σ0 f0 T0
theorem c_take {G : zGT} {d : Nat} {Φ : zMem → Prop} {β σ : zMem} {P : Nat → Bool} {s : Nat} {w : Int32} (hi : SI β P σ) (hs : s < 1024) (h : ∀ σ', SI β P σ' → σ' 67 = σ 67 → σ' 64 6 = 1 → σ' 64 7 = nI s → (σ' 64 8).toInt = cnS s → σ' 64 9 = w → Φ σ') : CTV G (d + 1) Y_X7_take [.inr (.inr 64), .inl (nI s), .inl w] σ Φ := by
  refine en_X7_take ?_
  rintro _ rfl _ rfl
  refine c_bitCount hs (fun v hv => ?_)
  rintro _ rfl _ rfl
  refine h _ (hi.fr (((((hi.1.fr ((FR.refl _).wr (k := 64) (Or.inl (by decide)))).fr ((FR.refl _).wr (k := 64) (Or.inl (by decide)))).fr ((FR.refl _).wr (k := 64) (Or.inl (by decide)))).fr ((FR.refl _).wr (k := 64) (Or.inl (by decide))))) ?_ ?_ ?_) ?_ ?_ ?_ ?_ ?_
  all_goals simp only [zwr_rne, zwr_req, upd_ne, upd_eq, ne_eq, Nat.reduceEqDiff, not_false_eq_true]
  exact hv
/-- what is kept of the best set -/
def BB (β : zMem) (k w : Nat) (b : Option Nat) (σ : zMem) : Prop := match b with
  | none => σ 64 6 = 0
  | some x => σ 64 6 = 1 ∧ σ 64 7 = nI x ∧ (σ 64 8).toInt = cnS x ∧ (σ 64 9).toInt = coS β (bPb β k) w x
theorem c_findPurchase {G : zGT} {d : Nat} {Φ : zMem → Prop} {β σ : zMem} {k w : Nat} (hb : PB β σ) (hβ : Rall β) (hk : k < 6) (hw : w ≤ 200) (h : ∀ σ', SI β (bPb β k) σ' → BB β k w (bsB β k w (2 ^ (pks (bPb β k) (bN β)).1)) σ' → Φ σ') : CTV G (d + 7) Y_X7_findPurchase [.inr (.inr 64), .inl (nI k), .inl (nI w)] σ Φ := by
  obtain ⟨o1, o2, o3⟩ := pks_ok (bPb β k) (bN β)
  have p10 := pow_10 o1
  refine en_X7_findPurchase ?_
  refine c_pick (P := bPb β k) hb hβ hk (fun c hc => ?_) (fun σ1 i1 z1 => ?_)
  · unfold bPb bIn
    rw [Bool.and_eq_true, decide_eq_true_eq, decide_eq_true_eq]
    exact ⟨fun q => ⟨Or.inr q.2, q.1⟩, fun q => ⟨q.2, by rcases q.1 with r | r; exact absurd r (by decide); exact r⟩⟩
  refine c_tally67 i1.1 hβ hk (fun σ2 f2 hT => ?_)
  have i2 : SI β (bPb β k) σ2 := i1.fr (i1.1.fr (FR.of (L := [67]) (fun a ha => f2 a (by simpa using ha)) (by decide))) (by rw [f2 64 (by decide)]) (f2 65 (by decide)) (f2 66 (by decide))
  have L : ∀ m s : Nat, s + m = 2 ^ (pks (bPb β k) (bN β)).1 → ∀ τ : zMem, SI β (bPb β k) τ → TR (τ 67) (clT β k) → BB β k w (bsB β k w s) τ →
      WJ G M_X7_findPurchase (d + 7) (RV Φ) 20 [some (.inr (.inr 64)), none, some (.inl (nI w)), some (.inl (nI s)), none, none] [] τ := by
    intro m
    induction m with
    | zero =>
      intro s hs τ it tT tb
      refine rg_X7_findPurchase_20 ?_
      have : s = 2 ^ (pks (bPb β k) (bN β)).1 := by omega
      subst this
      rw [it.2.1, shl_t o1, if_pos (nI_le (by omega) (by omega))]
      exact h τ it tb
    | succ m ih =>
      intro s hs τ it tT tb
      refine rg_X7_findPurchase_20 ?_
      rw [it.2.1, shl_t o1, if_neg (nI_ge (by omega) (by omega)), nI_1]
      refine c_costOf hβ it hw (by omega) (fun v hv => ?_)
      -- the set is not taken
      have no : ∀ τ', SI β (bPb β k) τ' → TR (τ' 67) (clT β k) → τ' 64 = τ 64 → ¬ ((bsB β k w s = none ∨ ∃ x, bsB β k w s = some x ∧ lsB β k w (0 + s) x) ∧ okB β k (0 + s)) → WJ G M_X7_findPurchase (d + 7) (RV Φ) 20 [some (.inr (.inr 64)), none, some (.inl (nI w)), some (.inl (nI (s + 1))), none, none] [] τ' := by
        intro τ' a b c q
        refine ih (s + 1) (by omega) τ' a b ?_
        have e : bsB β k w (s + 1) = bsB β k w s := bst_n q
        rw [e]
        unfold BB at tb ⊢
        split
        · rename_i q; rw [q] at tb; rw [c]; exact tb
        · rename_i x q; rw [q] at tb; rw [c]; exact tb
      -- it is asked whether the set does
      have ask : (bsB β k w s = none ∨ ∃ x, bsB β k w s = some x ∧ lsB β k w (0 + s) x) → CTI G (d + 6) Y_X7_passesBought [.inr (.inr 64), .inl (nI s)] τ (fun (r4 : Int32) (s3 : zMem) => if r4 = 0 then (WJ G M_X7_findPurchase (d + 7) (RV Φ) 20 [some (.inr (.inr 64)), none, some (.inl (nI w)), some (.inl (nI (s + 1))), none, none] [] s3) else (CTV G (d + 6) Y_X7_take [.inr (.inr 64), .inl (nI s), .inl v] s3 (fun s5 : zMem => WJ G M_X7_findPurchase (d + 7) (RV Φ) 20 [some (.inr (.inr 64)), none, some (.inl (nI w)), some (.inl (nI (s + 1))), none, none] [] s5))) := by
        intro q
        refine c_passesBought hβ it tT (by omega) (fun σ' a b c g => ?_) (fun σ' a b c g => ?_)
        · rw [if_neg (by decide)]
          refine c_take a (by omega) (fun σ'' a2 b2 e6 e7 e8 e9 => ?_)
          refine ih (s + 1) (by omega) σ'' a2 (by rw [b2]; exact b) ?_
          have e : bsB β k w (s + 1) = some (0 + s) := bst_y q (by rw [Nat.zero_add]; exact g)
          rw [e, Nat.zero_add]
          exact ⟨e6, e7, e8, by rw [e9]; exact hv⟩
        · rw [if_pos rfl]
          refine no σ' a b c (fun q2 => g ?_)
          have := q2.2
          rw [Nat.zero_add] at this
          exact this
      have self := fun q => no τ it tT rfl q
      cases hbs : bsB β k w s with
      | none =>
        rw [hbs] at tb ask self
        have t6 : τ 64 6 = 0 := tb
        have ask := ask (Or.inl rfl)
        refine zlt (fun _ => ?_) (fun _ => ?_)
        · rw [if_pos t6]; exact ask
        · refine zeq (fun _ => ?_) (fun _ => ?_)
          · refine c_bitCount (by omega) (fun b hb => ?_)
            refine zle (fun _ => ?_) (fun _ => ?_)
            · rw [if_pos t6]; exact ask
            · rw [if_pos t6]; exact ask
          · rw [if_pos t6]; exact ask
      | some x =>
        rw [hbs] at tb ask self
        obtain ⟨t6, t7, t8, t9⟩ := tb
        have n6 : ¬ τ 64 6 = 0 := by rw [t6]; decide
        have notless : ¬ lsB β k w s x → ¬ ((some x = none ∨ ∃ y, some x = some y ∧ lsB β k w (0 + s) y) ∧ okB β k (0 + s)) := by
          rintro q ⟨r | ⟨y, e, r⟩, _⟩
          · cases r
          · injection e with e
            subst e
            rw [Nat.zero_add] at r
            exact q r
        have less : lsB β k w s x → (some x = none ∨ ∃ y, some x = some y ∧ lsB β k w (0 + s) y) := fun q => Or.inr ⟨x, rfl, by rw [Nat.zero_add]; exact q⟩
        refine zlt (fun g => ?_) (fun g => ?_)
        · rw [hv, t9] at g
          rw [if_neg n6]
          exact ask (less (Or.inl g))
        · rw [hv, t9] at g
          refine zeq (fun g2 => ?_) (fun g2 => ?_)
          · rw [hv, t9] at g2
            refine c_bitCount (by omega) (fun b hb => ?_)
            have hb' : b.toInt = cnS s := hb
            refine zle (fun g3 => ?_) (fun g3 => ?_)
            · rw [hb', t8] at g3
              rw [if_neg n6]
              refine self (notless (fun q => ?_))
              rcases q with q | ⟨_, q⟩ <;> omega
            · rw [hb', t8] at g3
              rw [if_neg n6]
              exact ask (less (Or.inr ⟨g2, g3⟩))
          · rw [hv, t9] at g2
            rw [if_neg n6]
            refine self (notless (fun q => ?_))
            rcases q with q | ⟨q, _⟩
            · omega
            · exact g2 q
  exact L (2 ^ (pks (bPb β k) (bN β)).1) 0 (by omega) σ2 i2 hT (by show σ2 64 6 = 0; rw [f2 64 (by decide)]; exact z1)
def BA (b : Option Nat) (σ : zMem) : Prop := match b with
  | none => σ 64 6 = 0
  | some x => σ 64 6 = 1 ∧ σ 64 7 = nI x ∧ (σ 64 8).toInt = cnS x
theorem c_findPart {G : zGT} {d : Nat} {Φ : zMem → Prop} {β σ : zMem} {k : Nat} (hb : PB β σ) (hβ : Rall β) (hk : k < 6) (h : ∀ σ', SI β (bIn β k) σ' → BA (bsA β k (2 ^ (pks (bIn β k) (bN β)).1 - 1)) σ' → Φ σ') : CTV G (d + 7) Y_X7_findPart [.inr (.inr 64), .inl (nI k)] σ Φ := by
  obtain ⟨o1, o2, o3⟩ := pks_ok (bIn β k) (bN β)
  have p10 := pow_10 o1
  have pp := Nat.two_pow_pos (pks (bIn β k) (bN β)).1
  refine en_X7_findPart ?_
  refine c_pick (P := bIn β k) hb hβ hk (fun c hc => ?_) (fun σ1 i1 z1 => ?_)
  · unfold bIn
    rw [decide_eq_true_eq]
    exact ⟨fun q => ⟨Or.inl rfl, q⟩, fun q => q.2⟩
  have L : ∀ m s : Nat, s + 1 + m = 2 ^ (pks (bIn β k) (bN β)).1 → ∀ τ : zMem, SI β (bIn β k) τ → BA (bsA β k s) τ →
      WJ G M_X7_findPart (d + 7) (RV Φ) 9 [some (.inr (.inr 64)), none, some (.inl (nI (s + 1)))] [] τ := by
    intro m
    induction m with
    | zero =>
      intro s hs τ it tb
      refine rg_X7_findPart_9 ?_
      rw [it.2.1, shl_t o1, if_pos (nI_le (by omega) (by omega))]
      have e : s = 2 ^ (pks (bIn β k) (bN β)).1 - 1 := by omega
      rw [← e] at h
      exact h τ it tb
    | succ m ih =>
      intro s hs τ it tb
      refine rg_X7_findPart_9 ?_
      rw [it.2.1, shl_t o1, if_neg (nI_ge (by omega) (by omega)), nI_1]
      have no : ∀ τ', SI β (bIn β k) τ' → τ' 64 = τ 64 → ¬ ((bsA β k s = none ∨ ∃ x, bsA β k s = some x ∧ lsA (1 + s) x) ∧ okA β k (1 + s)) → WJ G M_X7_findPart (d + 7) (RV Φ) 9 [some (.inr (.inr 64)), none, some (.inl (nI (s + 1 + 1)))] [] τ' := by
        intro τ' a c q
        refine ih (s + 1) (by omega) τ' a ?_
        have e : bsA β k (s + 1) = bsA β k s := bst_n q
        rw [e]
        unfold BA at tb ⊢
        split
        · rename_i q; rw [q] at tb; rw [c]; exact tb
        · rename_i x q; rw [q] at tb; rw [c]; exact tb
      have ask : (bsA β k s = none ∨ ∃ x, bsA β k s = some x ∧ lsA (1 + s) x) → CTI G (d + 6) Y_X7_passesAlone [.inr (.inr 64), .inl (nI (s + 1))] τ (fun (r4 : Int32) (s3 : zMem) => if r4 = 0 then (WJ G M_X7_findPart (d + 7) (RV Φ) 9 [some (.inr (.inr 64)), none, some (.inl (nI (s + 1 + 1)))] [] s3) else (CTV G (d + 6) Y_X7_take [.inr (.inr 64), .inl (nI (s + 1)), .inl 0] s3 (fun s5 : zMem => WJ G M_X7_findPart (d + 7) (RV Φ) 9 [some (.inr (.inr 64)), none, some (.inl (nI (s + 1 + 1)))] [] s5))) := by
        intro q
        refine c_passesAlone hβ it (by omega) (fun σ' a c g => ?_) (fun σ' a c g => ?_)
        · rw [if_neg (by decide)]
          refine c_take a (by omega) (fun σ'' a2 b2 e6 e7 e8 e9 => ?_)
          refine ih (s + 1) (by omega) σ'' a2 ?_
          have e : bsA β k (s + 1) = some (1 + s) := bst_y q (by rw [Nat.add_comm]; exact g)
          rw [e, Nat.add_comm]
          exact ⟨e6, e7, e8⟩
        · rw [if_pos rfl]
          refine no σ' a c (fun q2 => g ?_)
          have := q2.2
          rw [Nat.add_comm] at this
          exact this
      cases hbs : bsA β k s with
      | none =>
        rw [hbs] at tb ask
        have t6 : τ 64 6 = 0 := tb
        rw [if_pos t6]
        exact ask (Or.inl rfl)
      | some x =>
        rw [hbs] at tb ask no
        obtain ⟨t6, t7, t8⟩ := tb
        rw [if_neg (by rw [t6]; decide)]
        refine c_bitCount (by omega) (fun b hb => ?_)
        have hb' : b.toInt = cnS (s + 1) := hb
        refine zle (fun g => ?_) (fun g => ?_)
        · rw [hb', t8] at g
          refine no τ it rfl ?_
          rintro ⟨r | ⟨y, e, r⟩, _⟩
          · cases r
          · injection e with e
            subst e
            rw [Nat.add_comm] at r
            unfold lsA at r
            omega
        · rw [hb', t8] at g
          exact ask (Or.inr ⟨x, rfl, by rw [Nat.add_comm]; exact g⟩)
  exact L (2 ^ (pks (bIn β k) (bN β)).1 - 1) 0 (by omega) σ1 i1 z1
