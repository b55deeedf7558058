theorem fb_divL {x y : Int64} (hx : 0 ≤ x.toInt) (hy : 0 < y.toInt) : (x / y).toInt = x.toInt / y.toInt := by
  have r := fb_rngL x
  have h1 : 0 ≤ x.toInt / y.toInt := Int.ediv_nonneg hx (by omega)
  have h2 : x.toInt / y.toInt ≤ x.toInt := Int.ediv_le_self _ hx
  rw [Int64.toInt_div, Int.tdiv_eq_ediv_of_nonneg hx, fb_bmodL (by omega) (by omega)]
theorem fb_L2I {x : Int64} (h1 : -2147483648 ≤ x.toInt) (h2 : x.toInt < 2147483648) : x.toInt32.toInt = x.toInt := by
  rw [Int64.toInt_toInt32, fb_bmod h1 h2]
theorem fb_I2L (x : Int32) : x.toInt64.toInt = x.toInt := Int32.toInt_toInt64 x
theorem zlc {x y : Int64} {A B : Prop} (h1 : x.toInt < y.toInt → A) (h2 : y.toInt ≤ x.toInt → B) : if lg_cmp x y < 0 then A else B := by
  by_cases h : lg_cmp x y < 0
  · rw [if_pos h]; rw [lg_cmp_lt, fa_lt64] at h; exact h1 h
  · rw [if_neg h]; rw [lg_cmp_lt, fa_lt64] at h; exact h2 (by omega)
theorem tot_rng {n : Nat} {B : Int} {S : zWS} {ir : Nat → Bool} (h : WI n B S) (hn : n ≤ 24) {i : Nat} (hi : i ≤ n) : 0 ≤ wsTot ir S.1 i ∧ wsTot ir S.1 i ≤ 2400000 := by
  have nn : ∀ j, j < i → 0 ≤ (fun c => if ir c then S.1 c else 0) j ∧ (fun c => if ir c then S.1 c else 0) j ≤ 100000 := by
    intro j hj
    have := h.1 j (by omega)
    show 0 ≤ (if ir j = true then S.1 j else 0) ∧ (if ir j = true then S.1 j else 0) ≤ 100000
    split <;> omega
  have h1 := isum_nn i (fun j hj => (nn j hj).1)
  have h2 := isum_le (B := 100000) i (fun j hj => (nn j hj).2)
  unfold wsTot
  omega
theorem tot_s (ir : Nat → Bool) (op : Nat → Int) (i : Nat) : wsTot ir op (i + 1) = wsTot ir op i + (if ir i then op i else 0) := rfl
theorem m_payRank {G : zGT} {d : Nat} {β : zMem} {q : Nat → Int32} {rd : Nat} {B : Int} {S : zWS} {σ : zMem} {Φ : Int32 → zMem → Prop} {f r : Nat} (hβ : Rany β) (hw : WI (bN β) B S) (hB : B ≤ 1600000) (hf : f < 6) (hr : r < 4) (hrd : rd ≤ 60) (h : MS β q rd S σ)
    (hp : ∀ q' σ', MS β q' rd (wsRank (fun c => bR β c f r) (bH β) (bN β) f rd S) σ' → Φ (if wsTot (fun c => bR β c f r) S.1 (bN β) ≤ S.2.2.1 f then 1 else 0) σ') : CTI G (d + 3) Y_X12_payRank [.inr (.inr 72), .inl (nI f), .inl (nI r)] σ Φ := by
  have n24 := bN_24 hβ
  have en8 : ∀ τ : zMem, MF β τ → τ 72 8 = nI (bN β) := by
    intro τ ht
    rw [ht.2 8 (by decide) (by decide)]
    have := hβ.1.2.2.1.2.1
    exact nI_of_toInt (by omega) (by unfold bN; omega)
  have vf : vp_in (nI f) 6 := vin hf
  have cf : (nI f).toNatClampNeg = f := cln (by omega)
  refine en_X12_payRank ?_
  have hp0 := hw.2.1 f hf
  have hpB := hw.cash hf
  obtain ⟨T0, T1⟩ := tot_rng (ir := fun c => bR β c f r) hw n24 (Nat.le_refl _)
  -- the second loop
  have L2 : ∀ (q' : Nat → Int32) (w3 w5 : Int64) (wh : Int32), w3.toInt = wsTot (fun c => bR β c f r) S.1 (bN β) → w5.toInt = S.2.2.1 f → wh = (if wsTot (fun c => bR β c f r) S.1 (bN β) ≤ S.2.2.1 f then 1 else 0) →
      (∀ c, c < bN β → (q' c).toInt = if bR β c f r then S.1 c else 0) → ∀ m i : Nat, i + m = bN β → ∀ τ, MS β q' rd (wsRk (fun c => bR β c f r) (bH β) (bN β) f rd S i) τ →
      WJ G M_X12_payRank (d + 3) (RI Φ) 86 [some (.inr (.inr 72)), some (.inl (nI f)), none, some (.inr (.inl w3)), none, some (.inr (.inl w5)), none, some (.inl wh), some (.inl (nI i)), none] [] τ := by
    intro q' w3 w5 wh hw3 hw5 hwh hq m
    induction m with
    | zero =>
      intro i hi τ hτ
      refine rg_X12_payRank_86 ?_
      have : i = bN β := by omega
      subst this
      rw [en8 τ hτ.1, if_pos (nI_le (by omega) (by omega))]
      rw [if_pos (by rw [hwh]; split <;> simp)]
      rw [hwh]
      exact hp q' τ hτ
    | succ m ih =>
      intro i hi τ hτ
      refine rg_X12_payRank_86 ?_
      rw [en8 τ hτ.1, if_neg (nI_ge (by omega) (by omega)), cln (show i < 2147483648 by omega), nI_1, hτ.2.1]
      refine ⟨vin (by omega), ?_⟩
      have oi := hw.1 i (by omega)
      have hqi := hq i (by omega)
      by_cases g : wsTot (fun c => bR β c f r) S.1 (bN β) ≤ S.2.2.1 f
      · rw [if_pos g] at hwh
        subst hwh
        rw [if_neg (by decide)]
        refine m_rkStep (ir := fun c => bR β c f r) hβ hw hB hf (by omega) hrd hτ ?_ (fun τ' h' => ih (i + 1) (by omega) τ' h')
        rw [hqi]
        unfold coinAt wsCoin
        by_cases gi : bR β i f r = true
        · rw [if_pos gi, if_pos gi, if_pos g]
        · rw [if_neg gi, if_neg gi]
      · rw [if_neg g] at hwh
        subst hwh
        rw [if_pos rfl]
        refine ⟨fun z => by rw [z] at hw3; rw [← hw3] at g; exact g hp0, ?_⟩
        refine m_rkStep (ir := fun c => bR β c f r) hβ hw hB hf (by omega) hrd hτ ?_ (fun τ' h' => ih (i + 1) (by omega) τ' h')
        have q0 : 0 ≤ (q' i).toInt ∧ (q' i).toInt ≤ 100000 := by rw [hqi]; split <;> omega
        have pr0 : 0 ≤ S.2.2.1 f * (q' i).toInt := Int.mul_nonneg hp0 q0.1
        have pr1 : S.2.2.1 f * (q' i).toInt ≤ 1600000 * 100000 := Int.mul_le_mul (by omega) q0.2 q0.1 (by omega)
        have e1 : (w5 * (q' i).toInt64).toInt = S.2.2.1 f * (q' i).toInt := by
          rw [fb_mulL (by rw [fb_I2L, hw5]; omega) (by rw [fb_I2L, hw5]; omega), fb_I2L, hw5]
        have e2 : (w5 * (q' i).toInt64 / w3).toInt = S.2.2.1 f * (q' i).toInt / wsTot (fun c => bR β c f r) S.1 (bN β) := by
          rw [fb_divL (by omega) (by omega), e1, hw3]
        have d0 : 0 ≤ S.2.2.1 f * (q' i).toInt / wsTot (fun c => bR β c f r) S.1 (bN β) := Int.ediv_nonneg pr0 (by omega)
        have d1 : S.2.2.1 f * (q' i).toInt / wsTot (fun c => bR β c f r) S.1 (bN β) ≤ (q' i).toInt := by
          refine Int.ediv_le_of_le_mul (by omega) ?_
          rw [Int.mul_comm (q' i).toInt]
          exact Int.mul_le_mul_of_nonneg_right (by omega) q0.1
        rw [fb_L2I (by omega) (by omega), e2, hqi]
        unfold coinAt wsCoin
        by_cases gi : bR β i f r = true
        · rw [if_pos gi, if_pos gi, if_neg g]
        · rw [if_neg gi, if_neg gi, Int.mul_zero, Int.zero_ediv]
  -- the first loop
  have L1 : ∀ m i : Nat, i + m = bN β → ∀ (w3 : Int64) (q' : Nat → Int32) (τ : zMem), MS β q' rd S τ → w3.toInt = wsTot (fun c => bR β c f r) S.1 i → (∀ c, c < i → (q' c).toInt = if bR β c f r then S.1 c else 0) →
      WJ G M_X12_payRank (d + 3) (RI Φ) 5 [some (.inr (.inr 72)), some (.inl (nI f)), some (.inl (nI r)), some (.inr (.inl w3)), none, some (.inl (nI i)), none, none, none, none] [] τ := by
    intro m
    induction m with
    | zero =>
      intro i hi w3 q' τ hτ hw3 hq
      refine rg_X12_payRank_5 ?_
      have : i = bN β := by omega
      subst this
      rw [en8 τ hτ.1, if_pos (nI_le (by omega) (by omega)), cf]
      refine ⟨vf, ?_⟩
      have e5 : (τ 100 f).toInt64.toInt = S.2.2.1 f := by rw [fb_I2L]; exact hτ.2.2.2.2.1 f hf
      refine zlc (fun g => ?_) (fun g => ?_)
      · refine L2 q' w3 _ 0 hw3 e5 (by rw [if_neg (by omega)]) hq (bN β) 0 (by omega) τ hτ
      · refine L2 q' w3 _ 1 hw3 e5 (by rw [if_pos (by omega)]) hq (bN β) 0 (by omega) τ hτ
    | succ m ih =>
      intro i hi w3 q' τ hτ hw3 hq
      refine rg_X12_payRank_5 ?_
      rw [en8 τ hτ.1, if_neg (nI_ge (by omega) (by omega)), cln (show i < 2147483648 by omega), nI_1]
      have vi : vp_in (nI i) 24 := vin (by omega)
      obtain ⟨m1, m0, m2, m3⟩ := id hτ
      obtain ⟨t0, t1⟩ := tot_rng (ir := fun c => bR β c f r) (i := i) hw n24 (by omega)
      have oi := hw.1 i (by omega)
      have fr : ∀ v : Int32, MS β (upd q' i v) rd S (zwr τ 105 i v) := by
        intro v
        have z : mzz (zwr τ 105 i v) = mzz τ := by
          funext a b
          simp only [mzz, zwr_rne, ne_eq, Nat.reduceEqDiff, not_false_eq_true]
        refine ⟨m1.wr (by omega), by rw [zwr_req, m0], by rw [zwr_rne (by decide)]; exact m2, ?_⟩
        simp only [zwr_rne, ne_eq, Nat.reduceEqDiff, not_false_eq_true, z]
        exact m3
      refine m_isInRank hβ (m1.1 78 (by decide) (by decide)) (m1.1 79 (by decide) (by decide)) (m1.1 80 (by decide) (by decide)) (by omega) hf hr (fun g => ?_) (fun g => ?_)
      · rw [if_neg (by decide)]
        refine ⟨vi, vi, ?_⟩
        rintro _ rfl
        refine ⟨vi, ?_⟩
        have o := (m3.1 i (by omega)).1
        refine ih (i + 1) (by omega) _ _ _ (fr (τ 98 i)) ?_ (fun c hc => ?_)
        · rw [zwr_same, fb_addL (by rw [fb_I2L]; omega) (by rw [fb_I2L]; omega), fb_I2L, hw3, tot_s, if_pos g, o]
        · by_cases e : c = i
          · subst e; rw [upd_eq, o, if_pos g]
          · rw [upd_ne e]; exact hq c (by omega)
      · rw [if_pos rfl]
        refine ⟨vi, ?_⟩
        rintro _ rfl
        refine ⟨vi, ?_⟩
        refine ih (i + 1) (by omega) _ _ _ (fr 0) ?_ (fun c hc => ?_)
        · rw [zwr_same, fb_addL (by rw [fb_I2L, ti0]; omega) (by rw [fb_I2L, ti0]; omega), fb_I2L, hw3, tot_s, if_neg g, ti0]
        · by_cases e : c = i
          · subst e; rw [upd_eq, if_neg g]; rfl
          · rw [upd_ne e]; exact hq c (by omega)
  exact L1 (bN β) 0 (by omega) _ q σ h (by rfl) (fun c hc => by omega)
