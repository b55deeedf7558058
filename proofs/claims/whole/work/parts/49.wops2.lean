theorem c_rowPart20 {G : zGT} {d : Nat} {σ : zMem} {Φ : Int32 → zMem → Prop} {i w : Nat} (h : Rany σ) (h11 : σ 20 11 = 1) (hi : i < 2147483648) (hw : w < 4) (h1 : ∀ v : Int32, i < (Wd σ 0).2.2.2.2.1 → i < 600 → v.toInt = (Wd σ 0).2.2.2.2.2 i w → Φ v σ) (h0 : (Wd σ 0).2.2.2.2.1 ≤ i ∨ 600 ≤ i → Φ (-1000000005) σ) : CTI G (d + 1) Y_X10_rowPart [.inr (.inr 20), .inl (nI i), .inl (nI w)] σ Φ := by
  obtain ⟨x1, x2, x3, x4, x5⟩ := xfacts20 h h11
  refine en_X10_rowPart_i20 ?_
  have ti := tin hi
  refine zle (fun g => h0 ?_) (fun g => ?_)
  · split at g
    · rw [ti600] at g; omega
    · omega
  · have g' : i < (Wd σ 0).2.2.2.2.1 ∧ i < 600 := by
      split at g
      · rename_i q
        rw [fa_lt, ti600] at q
        rw [ti600] at g; omega
      · rename_i q
        rw [fa_lt, ti600] at q
        omega
    have e4 : nI i * 4 = nI (4 * i) := by rw [show (4 : Int32) = nI 4 from rfl, pk_mul, Nat.mul_comm]
    rw [e4, nI_add, cln (by omega)]
    exact ⟨vin (by omega), h1 _ g'.1 g'.2 (x5 i g'.1 g'.2 w hw)⟩
theorem c_rowPart27 {G : zGT} {d : Nat} {σ : zMem} {Φ : Int32 → zMem → Prop} {i w : Nat} (h : Rany σ) (h11 : σ 27 11 = 1) (hi : i < 2147483648) (hw : w < 4) (h1 : ∀ v : Int32, i < (Wd σ 1).2.2.2.2.1 → i < 600 → v.toInt = (Wd σ 1).2.2.2.2.2 i w → Φ v σ) (h0 : (Wd σ 1).2.2.2.2.1 ≤ i ∨ 600 ≤ i → Φ (-1000000005) σ) : CTI G (d + 1) Y_X10_rowPart [.inr (.inr 27), .inl (nI i), .inl (nI w)] σ Φ := by
  obtain ⟨x1, x2, x3, x4, x5⟩ := xfacts27 h h11
  refine en_X10_rowPart_i27 ?_
  have ti := tin hi
  refine zle (fun g => h0 ?_) (fun g => ?_)
  · split at g
    · rw [ti600] at g; omega
    · omega
  · have g' : i < (Wd σ 1).2.2.2.2.1 ∧ i < 600 := by
      split at g
      · rename_i q
        rw [fa_lt, ti600] at q
        rw [ti600] at g; omega
      · rename_i q
        rw [fa_lt, ti600] at q
        omega
    have e4 : nI i * 4 = nI (4 * i) := by rw [show (4 : Int32) = nI 4 from rfl, pk_mul, Nat.mul_comm]
    rw [e4, nI_add, cln (by omega)]
    exact ⟨vin (by omega), h1 _ g'.1 g'.2 (x5 i g'.1 g'.2 w hw)⟩
theorem m_rowTold {G : zGT} {d : Nat} {σ : zMem} {Φ : Int32 → zMem → Prop} {i w : Nat} (hi : i < 600) (hw : w < 4) (h : Φ (mzz σ i w) σ) : CTI G d Y_X12_rowTold [.inr (.inr 72), .inl (nI i), .inl (nI w)] σ Φ := by
  refine en_X12_rowTold ?_
  rw [cln (by omega)]
  have vi : vp_in (nI i) 600 := vin hi
  have w4 : w = 0 ∨ w = 1 ∨ w = 2 ∨ w = 3 := by omega
  rcases w4 with rfl | rfl | rfl | rfl
  · rw [if_pos (by decide)]; exact ⟨vi, h⟩
  · rw [if_neg (by decide), if_pos (by decide)]; exact ⟨vi, h⟩
  · rw [if_neg (by decide), if_neg (by decide), if_pos (by decide)]; exact ⟨vi, h⟩
  · rw [if_neg (by decide), if_neg (by decide), if_neg (by decide)]; exact ⟨vi, h⟩
theorem P_row {G : zGT} {d : Nat} {v1 v2 v3 : Int32} : Pair G (d + 6) Y_X11_row Y_X12_row [.inl v1, .inl v2, .inl v3] := by
  intro σ h
  have BADm : (v1.toInt < 0 ∨ 1 < v1.toInt ∨ v2.toInt < 0 ∨ v3.toInt < 0 ∨ 3 < v3.toInt) → CTI G (d + 6) Y_X12_row [.inr (.inr 72), .inl v1, .inl v2, .inl v3] σ (fun r' σ2 => -1000000001 = r' ∧ Rall σ2) := by
    intro q
    refine en_X12_row ?_
    refine m_isSide (fun _ _ => ?_) (fun _ => ?_)
    · rw [if_neg (by decide)]
      refine zlt (fun _ => ⟨rfl, h⟩) (fun q2 => ?_)
      rw [ti0] at q2
      refine m_isIn (fun p1 p2 => by rw [ti0] at p1; rw [ti3] at p2; omega) (fun _ => ?_)
      rw [if_pos rfl]
      exact ⟨rfl, h⟩
    · rw [if_pos rfl]
      exact ⟨rfl, h⟩
  -- the reference
  have M : ∀ (s i w : Nat) (σ1 : zMem) (r : Int32), s < 2 → i < 2147483648 → w < 4 → Rall σ1 → (i < (Wd σ1 s).2.2.2.2.1 → i < 600 → r.toInt = (Wd σ1 s).2.2.2.2.2 i w) → ((Wd σ1 s).2.2.2.2.1 ≤ i ∨ 600 ≤ i → r = -1000000005) → CTI G (d + 6) Y_X12_row [.inr (.inr 72), .inl (nI s), .inl (nI i), .inl (nI w)] σ1 (fun r' σ2 => r = r' ∧ Rall σ2) := by
    intro s i w σ1 r hs hi hw h1 r1 r0
    refine en_X12_row ?_
    refine m_isSide (fun _ _ => ?_) (fun q => by rw [tin (by omega)] at q; omega)
    rw [if_neg (by decide), if_neg (by rw [fa_lt, tin hi, ti0]; omega)]
    refine m_isIn (fun _ _ => ?_) (fun q => by rw [tin (by omega), ti0, ti3] at q; omega)
    rw [if_neg (by decide)]
    refine m_wound h1 hs (fun q τ hτ hm => ?_)
    have e40 : (τ 72 40).toInt = ((Wd σ1 s).2.2.2.2.1 : Int) := hm.2.2.2.2.2.1
    have ti := tin hi
    refine zle (fun g => ⟨r0 (by omega), hτ⟩) (fun g => ?_)
    refine zle (fun g2 => ⟨r0 (by rw [ti600] at g2; omega), hτ⟩) (fun g2 => ?_)
    rw [ti600] at g2
    refine m_rowTold (by omega) hw ⟨?_, hτ⟩
    rw [fa_eq, r1 (by omega) (by omega)]
    exact (hm.2.2.2.2.2.2 i (by omega) (by omega) w hw).symm
  refine en_X11_row ?_
  refine c_isSide (fun w1 w2 => ?_) (fun w => ?_)
  rotate_left
  · rw [if_pos rfl]
    exact BADm (by omega)
  rw [if_neg (by decide)]
  refine zlt (fun g => BADm (by rw [ti0] at g; omega)) (fun g => ?_)
  rw [ti0] at g
  refine c_isWithin (fun w3 w4 => ?_) (fun w => ?_)
  rotate_left
  · rw [if_pos rfl]
    exact BADm (by rw [ti3] at w; omega)
  rw [if_neg (by decide)]
  rw [ti3] at w4
  have rv2 := fb_rng v2
  obtain ⟨s, rfl, hs, hs3⟩ := num_of w1 w2
  obtain ⟨i, rfl, hi, hi3⟩ := num_of g (show v2.toInt ≤ 2147483647 by omega)
  obtain ⟨w, rfl, hw, hw3⟩ := num_of w3 w4
  refine c_wound h.any (by omega) (fun e σ1 hf h1 h11 => ?_) (fun e σ1 hf h1 h11 => ?_)
  · subst e
    refine rg_X11_row_27w20 ?_
    refine c_rowPart20 h1 h11 hi3 (by omega) (fun v q1 q2 q3 => ?_) (fun q => ?_)
    · exact M 0 i w σ1 v (by decide) hi3 (by omega) (h1.all' h hf) (fun _ _ => q3) (fun q => by omega)
    · exact M 0 i w σ1 _ (by decide) hi3 (by omega) (h1.all' h hf) (fun q1 q2 => by omega) (fun _ => rfl)
  · subst e
    refine rg_X11_row_27w27 ?_
    refine c_rowPart27 h1 h11 hi3 (by omega) (fun v q1 q2 q3 => ?_) (fun q => ?_)
    · exact M 1 i w σ1 v (by decide) hi3 (by omega) (h1.all' h hf) (fun _ _ => q3) (fun q => by omega)
    · exact M 1 i w σ1 _ (by decide) hi3 (by omega) (h1.all' h hf) (fun q1 q2 => by omega) (fun _ => rfl)
theorem nI_div4 {i : Nat} (h : i < 1000000) : nI i / 4 = nI (i / 4) ∧ nI i - nI i / 4 * 4 = nI (i % 4) := by
  have e : nI i / 4 = nI (i / 4) := by
    refine nI_of_toInt (by omega) ?_
    rw [fb_divI (by rw [tin (by omega)]; omega) (by decide), tin (by omega), ti4]
    omega
  refine ⟨e, ?_⟩
  rw [e, show (4 : Int32) = nI 4 from rfl, pk_mul]
  refine nI_of_toInt (by omega) ?_
  have t1 := tin (n := i) (by omega)
  have t2 := tin (n := i / 4 * 4) (by omega)
  rw [fb_subI (by omega) (by omega), t1, t2]
  omega
/-- a number that waits is not the row's -/
def cbad (S : zWS) (w : Nat → Int32) (i : Nat) : Prop := 4 * S.2.2.2.1 ≤ i ∨ S.2.2.2.2 (i / 4) (i % 4) ≠ (w i).toInt
def cend (S : zWS) (n : Nat) : Int32 := if n = 4 * S.2.2.2.1 then 0 else nI (1 + n)
theorem one_nI (n : Nat) : 1 + nI n = nI (1 + n) := by rw [show (1 : Int32) = nI 1 from rfl, nI_add]
theorem c_firstWrong20 {G : zGT} {d : Nat} {σ : zMem} {Φ : Int32 → zMem → Prop} {n : Nat} (h : Rany σ) (h11 : σ 20 11 = 1) (hn : n ≤ 200) (h1 : ∀ i, i < n → cbad (Wd σ 0).2 (σ 69) i → (∀ j, j < i → ¬ cbad (Wd σ 0).2 (σ 69) j) → Φ (nI (1 + i)) σ) (h0 : (∀ j, j < n → ¬ cbad (Wd σ 0).2 (σ 69) j) → Φ (cend (Wd σ 0).2 n) σ) : CTI G (d + 2) Y_X11_firstWrong [.inr (.inr 0), .inr (.inr 20), .inl (nI n)] σ Φ := by
  obtain ⟨x1, x2, x3, x4, x5⟩ := xfacts20 h h11
  have rr := (Wd_WI h 0).rows (bN_24 h)
  refine en_X11_firstWrong_i0_20 ?_
  have L : ∀ m i : Nat, i + m = n → (∀ j, j < i → ¬ cbad (Wd σ 0).2 (σ 69) j) → WJ G M_X11_firstWrong (d + 2) (RI Φ) 2 [some (.inr (.inr 0)), some (.inr (.inr 20)), some (.inl (nI n)), some (.inl (nI i)), none] [] σ := by
    intro m
    induction m with
    | zero =>
      intro i hi hI
      refine rg_X11_firstWrong_i0_20_2 ?_
      have : i = n := by omega
      subst this
      rw [if_pos (nI_le (by omega) (by omega)), one_nI]
      have e : (σ 20 10 * 4).toInt = (Wd σ 0).2.2.2.2.1 * 4 := by rw [fb_mulI (by rw [ti4]; omega) (by rw [ti4]; omega), ti4, x2]
      have H := h0 hI
      unfold cend at H
      refine zeq (fun g => ?_) (fun g => ?_)
      · rw [tin (by omega), e] at g
        rw [if_pos (by omega)] at H
        exact H
      · rw [tin (by omega), e] at g
        rw [if_neg (by omega)] at H
        exact H
    | succ m ih =>
      intro i hi hI
      refine rg_X11_firstWrong_i0_20_2 ?_
      obtain ⟨d1, d2⟩ := nI_div4 (i := i) (by omega)
      rw [if_neg (nI_ge (by omega) (by omega)), d2, d1, one_nI, nI_1]
      refine ⟨by decide, ?_⟩
      refine zle (fun g => ?_) (fun g => ?_)
      · rw [tin (by omega)] at g
        exact h1 i (by omega) (Or.inl (by omega)) hI
      · rw [tin (by omega)] at g
        refine ⟨by decide, ?_⟩
        refine c_rowPart20 h h11 (by omega) (by omega) (fun v q1 q2 q3 => ?_) (fun q => by omega)
        refine ⟨vin (by omega), ?_⟩
        rw [cln (by omega)]
        refine zeq (fun g2 => ?_) (fun g2 => ?_)
        · refine ih (i + 1) (by omega) (fun j hj => ?_)
          by_cases e : j = i
          · subst e
            rintro (q | q)
            · omega
            · rw [← q3] at q; exact q g2
          · exact hI j (by omega)
        · exact h1 i (by omega) (Or.inr (by rw [← q3]; exact g2)) hI
  exact L n 0 (by omega) (fun j hj => by omega)
theorem c_firstWrong27 {G : zGT} {d : Nat} {σ : zMem} {Φ : Int32 → zMem → Prop} {n : Nat} (h : Rany σ) (h11 : σ 27 11 = 1) (hn : n ≤ 200) (h1 : ∀ i, i < n → cbad (Wd σ 1).2 (σ 69) i → (∀ j, j < i → ¬ cbad (Wd σ 1).2 (σ 69) j) → Φ (nI (1 + i)) σ) (h0 : (∀ j, j < n → ¬ cbad (Wd σ 1).2 (σ 69) j) → Φ (cend (Wd σ 1).2 n) σ) : CTI G (d + 2) Y_X11_firstWrong [.inr (.inr 0), .inr (.inr 27), .inl (nI n)] σ Φ := by
  obtain ⟨x1, x2, x3, x4, x5⟩ := xfacts27 h h11
  have rr := (Wd_WI h 1).rows (bN_24 h)
  refine en_X11_firstWrong_i0_27 ?_
  have L : ∀ m i : Nat, i + m = n → (∀ j, j < i → ¬ cbad (Wd σ 1).2 (σ 69) j) → WJ G M_X11_firstWrong (d + 2) (RI Φ) 2 [some (.inr (.inr 0)), some (.inr (.inr 27)), some (.inl (nI n)), some (.inl (nI i)), none] [] σ := by
    intro m
    induction m with
    | zero =>
      intro i hi hI
      refine rg_X11_firstWrong_i0_27_2 ?_
      have : i = n := by omega
      subst this
      rw [if_pos (nI_le (by omega) (by omega)), one_nI]
      have e : (σ 27 10 * 4).toInt = (Wd σ 1).2.2.2.2.1 * 4 := by rw [fb_mulI (by rw [ti4]; omega) (by rw [ti4]; omega), ti4, x2]
      have H := h0 hI
      unfold cend at H
      refine zeq (fun g => ?_) (fun g => ?_)
      · rw [tin (by omega), e] at g
        rw [if_pos (by omega)] at H
        exact H
      · rw [tin (by omega), e] at g
        rw [if_neg (by omega)] at H
        exact H
    | succ m ih =>
      intro i hi hI
      refine rg_X11_firstWrong_i0_27_2 ?_
      obtain ⟨d1, d2⟩ := nI_div4 (i := i) (by omega)
      rw [if_neg (nI_ge (by omega) (by omega)), d2, d1, one_nI, nI_1]
      refine ⟨by decide, ?_⟩
      refine zle (fun g => ?_) (fun g => ?_)
      · rw [tin (by omega)] at g
        exact h1 i (by omega) (Or.inl (by omega)) hI
      · rw [tin (by omega)] at g
        refine ⟨by decide, ?_⟩
        refine c_rowPart27 h h11 (by omega) (by omega) (fun v q1 q2 q3 => ?_) (fun q => by omega)
        refine ⟨vin (by omega), ?_⟩
        rw [cln (by omega)]
        refine zeq (fun g2 => ?_) (fun g2 => ?_)
        · refine ih (i + 1) (by omega) (fun j hj => ?_)
          by_cases e : j = i
          · subst e
            rintro (q | q)
            · omega
            · rw [← q3] at q; exact q g2
          · exact hI j (by omega)
        · exact h1 i (by omega) (Or.inr (by rw [← q3]; exact g2)) hI
  exact L n 0 (by omega) (fun j hj => by omega)
theorem cbad.uniq {S : zWS} {w : Nat → Int32} {i i' : Nat} (h : cbad S w i) (h2 : ∀ j, j < i → ¬ cbad S w j) (h' : cbad S w i') (h2' : ∀ j, j < i' → ¬ cbad S w j) : i = i' := by
  by_cases g : i < i'
  · exact absurd h (h2' i g)
  · by_cases g2 : i' < i
    · exact absurd h' (h2 i' g2)
    · omega
theorem m_check {G : zGT} {d : Nat} {σ : zMem} {Φ : Int32 → zMem → Prop} {s n : Nat} (h : Rall (zwr σ 72 25 0)) (hs : s < 2) (en : σ 72 25 = nI n) (hn : n ≤ 200) (h1 : ∀ i σ', i < n → cbad (Wd (zwr σ 72 25 0) s).2 (σ 91) i → (∀ j, j < i → ¬ cbad (Wd (zwr σ 72 25 0) s).2 (σ 91) j) → Rall σ' → Φ (nI (1 + i)) σ') (h0 : ∀ σ', (∀ j, j < n → ¬ cbad (Wd (zwr σ 72 25 0) s).2 (σ 91) j) → Rall σ' → Φ (cend (Wd (zwr σ 72 25 0) s).2 n) σ') : CTI G (d + 5) Y_X12_check [.inr (.inr 72), .inl (nI s)] σ Φ := by
  refine en_X12_check ?_
  rintro _ rfl
  refine m_isSide (fun _ _ => ?_) (fun q => by rw [tin (by omega)] at q; omega)
  rw [if_neg (by decide), en]
  refine m_wound h hs (fun q τ hτ hm => ?_)
  have f91 : τ 91 = σ 91 := by rw [hm.1.1 91 (by decide) (by decide), zwr_rne (by decide)]
  generalize zwr σ 72 25 0 = σ0 at h h1 h0 hm
  have e40 : (τ 72 40).toInt = ((Wd σ0 s).2.2.2.2.1 : Int) := hm.2.2.2.2.2.1
  have rr := (Wd_WI h.any s).rows (bN_24 h.any)
  have e4 : (4 * τ 72 40).toInt = 4 * (Wd σ0 s).2.2.2.2.1 := by rw [fb_mulI (by rw [ti4]; omega) (by rw [ti4]; omega), ti4, e40]
  have L : ∀ m i : Nat, i + m = n → (∀ j, j < i → ¬ cbad (Wd σ0 s).2 (σ 91) j) → WJ G M_X12_check (d + 5) (RI Φ) 27 [some (.inr (.inr 72)), none, some (.inl (nI n)), some (.inl (nI i))] [] τ := by
    intro m
    induction m with
    | zero =>
      intro i hi hI
      refine rg_X12_check_27 ?_
      have : i = n := by omega
      subst this
      rw [if_pos (nI_le (by omega) (by omega)), one_nI]
      have H := h0 τ hI hτ
      unfold cend at H
      refine zeq (fun g => ?_) (fun g => ?_)
      · rw [tin (by omega), e4] at g
        rw [if_pos (by omega)] at H
        exact H
      · rw [tin (by omega), e4] at g
        rw [if_neg (by omega)] at H
        exact H
    | succ m ih =>
      intro i hi hI
      refine rg_X12_check_27 ?_
      obtain ⟨d1, d2⟩ := nI_div4 (i := i) (by omega)
      rw [if_neg (nI_ge (by omega) (by omega)), d2, d1, one_nI, nI_1]
      refine zle (fun g => ?_) (fun g => ?_)
      · rw [tin (by omega), e4] at g
        exact h1 i τ (by omega) (Or.inl (by omega)) hI hτ
      · rw [tin (by omega), e4] at g
        refine ⟨vin (by omega), by decide, by decide, ?_⟩
        refine m_rowTold (by omega) (by omega) ?_
        have q3 : (mzz τ (i / 4) (i % 4)).toInt = (Wd σ0 s).2.2.2.2.2 (i / 4) (i % 4) := hm.2.2.2.2.2.2 (i / 4) (by omega) (by omega) (i % 4) (by omega)
        rw [cln (by omega), f91]
        refine zeq (fun g2 => ?_) (fun g2 => ?_)
        · refine ih (i + 1) (by omega) (fun j hj => ?_)
          by_cases e : j = i
          · subst e
            rintro (q | q)
            · omega
            · rw [← q3] at q; exact q g2.symm
          · exact hI j (by omega)
        · exact h1 i τ (by omega) (Or.inr (by rw [← q3]; exact fun q => g2 q.symm)) hI hτ
  exact L n 0 (by omega) (fun j hj => by omega)
theorem P_check {G : zGT} {d : Nat} {v1 : Int32} : Pair G (d + 6) Y_X11_check Y_X12_check [.inl v1] := by
  intro σ h
  have hh := h
  obtain ⟨⟨k1, k2, k3, k4, k5, k6, k7, k8, k9⟩, kas, kcl, kda, kdh, kpl, kkp, ksh, kwt, ktp, klw, ksd, kw0, kw1⟩ := h
  obtain ⟨e1, b1, u1⟩ := id k1
  obtain ⟨e2, b2, u2⟩ := id k2
  obtain ⟨e3, b3, u3⟩ := id k3
  obtain ⟨e4, b4, u4⟩ := id k4
  obtain ⟨e5, b5, u5⟩ := id k5
  obtain ⟨e6, b6, u6⟩ := id k6
  obtain ⟨e7, b7, u7⟩ := id k7
  obtain ⟨e8, b8, u8⟩ := id k8
  obtain ⟨e9, b9, u9⟩ := id k9
  have ha : Rany (zwr σ 0 13 0) := by
    unfold Rany
    simp only [zwr_rne, zwr_req, upd_ne, upd_eq, ne_eq, Nat.reduceEqDiff, not_false_eq_true]
    exact ⟨⟨k1, k2, k3, k4, k5, k6, k7, trivial, k9⟩, kas, kcl, kda, kdh, kpl, kkp, ksh, trivial, ktp, klw, ksd, kw0, kw1⟩
  -- both counts gone
  have hz : ∀ τ : zMem, Rany τ → τ 0 13 = 0 → Rall (zwr τ 72 25 0) := by
    intro τ ht t0
    obtain ⟨⟨r1, r2, r3, r4, r5, r6, r7, -, r9⟩, ras, rcl, rda, rdh, rpl, rkp, rsh, -, rtp, rlw, rsd, rw0, rw1⟩ := ht
    unfold Rall
    simp only [zwr_rne, zwr_req, upd_ne, upd_eq, ne_eq, Nat.reduceEqDiff, not_false_eq_true]
    refine ⟨⟨r1, r2, r3, r4, r5, r6, r7, ?_, r9⟩, ras, rcl, rda, rdh, rpl, rkp, rsh, ?_, rtp, rlw, rsd, rw0, rw1⟩
    · rw [t0]; exact ⟨rfl, by decide, by decide⟩
    · intro i hi
      rw [ti0] at hi
      omega
  obtain ⟨n, hn, hn2, hn3⟩ := num_of b8 u8
  have tn : (σ 72 25).toInt = (n : Int) := by rw [hn, tin hn3]
  refine en_X11_check ?_
  rintro _ rfl
  rw [e8, hn]
  refine c_isSide (fun w1 w2 => ?_) (fun w => ?_)
  rotate_left
  · rw [if_pos rfl]
    refine en_X12_check ?_
    rintro _ rfl
    refine m_isSide (fun _ _ => by omega) (fun _ => ?_)
    rw [if_pos rfl]
    exact ⟨rfl, hz _ ha (zwr_same _ _ _ _)⟩
  rw [if_neg (by decide)]
  obtain ⟨s, rfl, hs, hs3⟩ := num_of w1 w2
  refine c_wound ha (by omega) (fun e σ1 hf h1 h11 => ?_) (fun e σ1 hf h1 h11 => ?_)
  · subst e
    have g0 : σ1 0 13 = 0 := by rw [hf 0 (by decide)]; exact zwr_same _ _ _ _
    have g25 : σ1 72 25 = nI n := by rw [hf 72 (by decide), zwr_rne (by decide)]; exact hn
    have g69 : σ1 69 = σ 69 := by rw [hf 69 (by decide), zwr_rne (by decide)]
    have g91 : σ1 91 = σ 91 := by rw [hf 91 (by decide), zwr_rne (by decide)]
    have eqw : ∀ i, i < n → (cbad (Wd σ1 0).2 (σ1 69) i ↔ cbad (Wd (zwr σ1 72 25 0) 0).2 (σ1 91) i) := by
      intro i hi
      have e1 : Wd (zwr σ1 72 25 0) 0 = Wd σ1 0 := by
        unfold Wd
        simp only [zwr_rne, zwr_req, upd_ne, upd_eq, ne_eq, Nat.reduceEqDiff, not_false_eq_true]
      rw [e1, g69, g91]
      unfold cbad
      rw [kwt i (by omega)]
    have eqe : cend (Wd σ1 0).2 n = cend (Wd (zwr σ1 72 25 0) 0).2 n := by
      have e1 : Wd (zwr σ1 72 25 0) 0 = Wd σ1 0 := by
        unfold Wd
        simp only [zwr_rne, zwr_req, upd_ne, upd_eq, ne_eq, Nat.reduceEqDiff, not_false_eq_true]
      rw [e1]
    refine rg_X11_check_23w20 ?_
    refine c_firstWrong20 h1 h11 (by omega) (fun i hi q1 q2 => ?_) (fun q => ?_)
    · refine m_check (hz σ1 h1 g0) (by decide) g25 (by omega) (fun i' σ2 hi' r1 r2 h2 => ⟨?_, h2⟩) (fun σ2 r h2 => absurd ((eqw i hi).1 q1) (r i hi))
      have : i = i' := cbad.uniq ((eqw i hi).1 q1) (fun j hj q => q2 j hj ((eqw j (by omega)).2 q)) r1 r2
      rw [this]
    · refine m_check (hz σ1 h1 g0) (by decide) g25 (by omega) (fun i' σ2 hi' r1 r2 h2 => absurd ((eqw i' hi').2 r1) (q i' hi')) (fun σ2 r h2 => ⟨eqe, h2⟩)
  · subst e
    have g0 : σ1 0 13 = 0 := by rw [hf 0 (by decide)]; exact zwr_same _ _ _ _
    have g25 : σ1 72 25 = nI n := by rw [hf 72 (by decide), zwr_rne (by decide)]; exact hn
    have g69 : σ1 69 = σ 69 := by rw [hf 69 (by decide), zwr_rne (by decide)]
    have g91 : σ1 91 = σ 91 := by rw [hf 91 (by decide), zwr_rne (by decide)]
    have eqw : ∀ i, i < n → (cbad (Wd σ1 1).2 (σ1 69) i ↔ cbad (Wd (zwr σ1 72 25 0) 1).2 (σ1 91) i) := by
      intro i hi
      have e1 : Wd (zwr σ1 72 25 0) 1 = Wd σ1 1 := by
        unfold Wd
        simp only [zwr_rne, zwr_req, upd_ne, upd_eq, ne_eq, Nat.reduceEqDiff, not_false_eq_true]
      rw [e1, g69, g91]
      unfold cbad
      rw [kwt i (by omega)]
    have eqe : cend (Wd σ1 1).2 n = cend (Wd (zwr σ1 72 25 0) 1).2 n := by
      have e1 : Wd (zwr σ1 72 25 0) 1 = Wd σ1 1 := by
        unfold Wd
        simp only [zwr_rne, zwr_req, upd_ne, upd_eq, ne_eq, Nat.reduceEqDiff, not_false_eq_true]
      rw [e1]
    refine rg_X11_check_23w27 ?_
    refine c_firstWrong27 h1 h11 (by omega) (fun i hi q1 q2 => ?_) (fun q => ?_)
    · refine m_check (hz σ1 h1 g0) (by decide) g25 (by omega) (fun i' σ2 hi' r1 r2 h2 => ⟨?_, h2⟩) (fun σ2 r h2 => absurd ((eqw i hi).1 q1) (r i hi))
      have : i = i' := cbad.uniq ((eqw i hi).1 q1) (fun j hj q => q2 j hj ((eqw j (by omega)).2 q)) r1 r2
      rw [this]
    · refine m_check (hz σ1 h1 g0) (by decide) g25 (by omega) (fun i' σ2 hi' r1 r2 h2 => absurd ((eqw i' hi').2 r1) (q i' hi')) (fun σ2 r h2 => ⟨eqe, h2⟩)
/-- a claim of the class gets more by winding up than by the plan -/
def isWs (σ : zMem) (s k : Nat) : Prop := ∃ c : Nat, c < bN σ ∧ σ 82 c = nI k ∧ (worS (σ 72 0) (σ 72 24) (σ 84) (σ 85) (σ 86) (σ 82) (σ 90) c).toInt < (Wd σ s).2.2.1 c
theorem c_isWorse20 {G : zGT} {d : Nat} {σ : zMem} {Φ : Int32 → zMem → Prop} {k : Nat} (h : Rall σ) (h11 : σ 20 11 = 1) (hk : k < 6) (h1 : isWs σ 0 k → Φ 1 σ) (h0 : ¬ isWs σ 0 k → Φ 0 σ) : CTI G (d + 3) Y_X11_isWorse [.inr (.inr 0), .inl (nI k), .inr (.inr 20)] σ Φ := by
  have n24 := bN_24 h.any
  obtain ⟨x1, x2, x3, x4, x5⟩ := xfacts20 h.any h11
  obtain ⟨e3, b3, u3⟩ := h.1.2.2.1
  have kpl := h.2.2.2.2.2.1
  have en8 : σ 1 6 = nI (bN σ) := by
    rw [e3]
    exact nI_of_toInt (by omega) (by unfold bN; omega)
  refine en_X11_isWorse_i0_20 ?_
  have L : ∀ m i : Nat, i + m = bN σ → (∀ c, c < i → ¬ (σ 82 c = nI k ∧ (worS (σ 72 0) (σ 72 24) (σ 84) (σ 85) (σ 86) (σ 82) (σ 90) c).toInt < (Wd σ 0).2.2.1 c)) → WJ G M_X11_isWorse (d + 3) (RI Φ) 2 [some (.inr (.inr 0)), some (.inl (nI k)), some (.inr (.inr 20)), some (.inl (nI i))] [] σ := by
    intro m
    induction m with
    | zero =>
      intro i hi hI
      refine rg_X11_isWorse_i0_20_2 ?_
      rw [en8, if_pos (nI_le (by omega) (by omega))]
      exact h0 (fun ⟨c, hc, q⟩ => hI c (by omega) q)
    | succ m ih =>
      intro i hi hI
      refine rg_X11_isWorse_i0_20_2 ?_
      have vi : vp_in (nI i) 24 := vin (by omega)
      have hc' := (bN_c h.any).1 (show i < bN σ by omega)
      obtain ⟨p1, p2, p3, p4, p5, p6⟩ := kpl.1 i hc'
      rw [en8, if_neg (nI_ge (by omega) (by omega)), cln (by omega), nI_1, p1]
      refine ⟨vi, ?_⟩
      have nxt : ¬ (σ 82 i = nI k ∧ (worS (σ 72 0) (σ 72 24) (σ 84) (σ 85) (σ 86) (σ 82) (σ 90) i).toInt < (Wd σ 0).2.2.1 i) → WJ G M_X11_isWorse (d + 3) (RI Φ) 2 [some (.inr (.inr 0)), some (.inl (nI k)), some (.inr (.inr 20)), some (.inl (nI (i + 1)))] [] σ := by
        intro q
        refine ih (i + 1) (by omega) (fun c hc => ?_)
        by_cases e : c = i
        · subst e; exact q
        · exact hI c (by omega)
      by_cases g : σ 82 i = nI k
      · rw [if_pos ((enc_nI p3 (by omega)).2 g)]
        refine ⟨vi, ?_⟩
        refine cr_worthOf h hc' ?_
        have e := (x3 i (by omega)).1
        refine zle (fun q => ?_) (fun q => ?_)
        · exact nxt (fun w => by omega)
        · exact h1 ⟨i, by omega, g, by omega⟩
      · rw [if_neg (fun q => g ((enc_nI p3 (by omega)).1 q))]
        exact nxt (fun w => g w.1)
  exact L (bN σ) 0 (by omega) (fun c hc => by omega)
theorem c_isWorse27 {G : zGT} {d : Nat} {σ : zMem} {Φ : Int32 → zMem → Prop} {k : Nat} (h : Rall σ) (h11 : σ 27 11 = 1) (hk : k < 6) (h1 : isWs σ 1 k → Φ 1 σ) (h0 : ¬ isWs σ 1 k → Φ 0 σ) : CTI G (d + 3) Y_X11_isWorse [.inr (.inr 0), .inl (nI k), .inr (.inr 27)] σ Φ := by
  have n24 := bN_24 h.any
  obtain ⟨x1, x2, x3, x4, x5⟩ := xfacts27 h.any h11
  obtain ⟨e3, b3, u3⟩ := h.1.2.2.1
  have kpl := h.2.2.2.2.2.1
  have en8 : σ 1 6 = nI (bN σ) := by
    rw [e3]
    exact nI_of_toInt (by omega) (by unfold bN; omega)
  refine en_X11_isWorse_i0_27 ?_
  have L : ∀ m i : Nat, i + m = bN σ → (∀ c, c < i → ¬ (σ 82 c = nI k ∧ (worS (σ 72 0) (σ 72 24) (σ 84) (σ 85) (σ 86) (σ 82) (σ 90) c).toInt < (Wd σ 1).2.2.1 c)) → WJ G M_X11_isWorse (d + 3) (RI Φ) 2 [some (.inr (.inr 0)), some (.inl (nI k)), some (.inr (.inr 27)), some (.inl (nI i))] [] σ := by
    intro m
    induction m with
    | zero =>
      intro i hi hI
      refine rg_X11_isWorse_i0_27_2 ?_
      rw [en8, if_pos (nI_le (by omega) (by omega))]
      exact h0 (fun ⟨c, hc, q⟩ => hI c (by omega) q)
    | succ m ih =>
      intro i hi hI
      refine rg_X11_isWorse_i0_27_2 ?_
      have vi : vp_in (nI i) 24 := vin (by omega)
      have hc' := (bN_c h.any).1 (show i < bN σ by omega)
      obtain ⟨p1, p2, p3, p4, p5, p6⟩ := kpl.1 i hc'
      rw [en8, if_neg (nI_ge (by omega) (by omega)), cln (by omega), nI_1, p1]
      refine ⟨vi, ?_⟩
      have nxt : ¬ (σ 82 i = nI k ∧ (worS (σ 72 0) (σ 72 24) (σ 84) (σ 85) (σ 86) (σ 82) (σ 90) i).toInt < (Wd σ 1).2.2.1 i) → WJ G M_X11_isWorse (d + 3) (RI Φ) 2 [some (.inr (.inr 0)), some (.inl (nI k)), some (.inr (.inr 27)), some (.inl (nI (i + 1)))] [] σ := by
        intro q
        refine ih (i + 1) (by omega) (fun c hc => ?_)
        by_cases e : c = i
        · subst e; exact q
        · exact hI c (by omega)
      by_cases g : σ 82 i = nI k
      · rw [if_pos ((enc_nI p3 (by omega)).2 g)]
        refine ⟨vi, ?_⟩
        refine cr_worthOf h hc' ?_
        have e := (x3 i (by omega)).1
        refine zle (fun q => ?_) (fun q => ?_)
        · exact nxt (fun w => by omega)
        · exact h1 ⟨i, by omega, g, by omega⟩
      · rw [if_neg (fun q => g ((enc_nI p3 (by omega)).1 q))]
        exact nxt (fun w => g w.1)
  exact L (bN σ) 0 (by omega) (fun c hc => by omega)
theorem m_isWorse {G : zGT} {d : Nat} {σ : zMem} {Φ : Int32 → zMem → Prop} {k s : Nat} (h : Rall σ) (hs : s < 2) (h1 : ∀ q σ', isWs σ s k → Rall σ' → MS σ q (Wd σ s).1 (Wd σ s).2 σ' → Φ 1 σ') (h0 : ∀ q σ', ¬ isWs σ s k → Rall σ' → MS σ q (Wd σ s).1 (Wd σ s).2 σ' → Φ 0 σ') : CTI G (d + 5) Y_X12_isWorse [.inr (.inr 72), .inl (nI k), .inl (nI s)] σ Φ := by
  have n24 := bN_24 h.any
  obtain ⟨e3, b3, u3⟩ := h.1.2.2.1
  have kda := h.2.2.2.1
  have kpl := h.2.2.2.2.2.1
  refine en_X12_isWorse ?_
  refine m_wound h hs (fun q τ hτ hm => ?_)
  have f8 : τ 72 8 = σ 72 8 := hm.1.2 8 (by decide) (by decide)
  have f0 : τ 72 0 = σ 72 0 := hm.1.2 0 (by decide) (by decide)
  have f24 : τ 72 24 = σ 72 24 := hm.1.2 24 (by decide) (by decide)
  have f84 : τ 84 = σ 84 := hm.1.1 84 (by decide) (by decide)
  have f85 : τ 85 = σ 85 := hm.1.1 85 (by decide) (by decide)
  have f86 : τ 86 = σ 86 := hm.1.1 86 (by decide) (by decide)
  have f82 : τ 82 = σ 82 := hm.1.1 82 (by decide) (by decide)
  have f90 : τ 90 = σ 90 := hm.1.1 90 (by decide) (by decide)
  have en8 : τ 72 8 = nI (bN σ) := by
    rw [f8]
    exact nI_of_toInt (by omega) (by unfold bN; omega)
  have L1 : ∀ m i : Nat, i + m = bN σ → isWs σ s k → WJ G M_X12_isWorse (d + 5) (RI Φ) 10 [some (.inr (.inr 72)), some (.inl (nI k)), none, some (.inl 1), some (.inl (nI i))] [] τ := by
    intro m
    induction m with
    | zero =>
      intro i hi hI
      refine rg_X12_isWorse_10 ?_
      rw [en8, if_pos (nI_le (by omega) (by omega)), if_pos (Or.inr rfl)]
      exact h1 q τ hI hτ hm
    | succ m ih =>
      intro i hi hI
      refine rg_X12_isWorse_10 ?_
      rw [en8, if_neg (nI_ge (by omega) (by omega)), if_neg (by decide), nI_1]
      exact ih (i + 1) (by omega) hI
  have L : ∀ m i : Nat, i + m = bN σ → (∀ c, c < i → ¬ (σ 82 c = nI k ∧ (worS (σ 72 0) (σ 72 24) (σ 84) (σ 85) (σ 86) (σ 82) (σ 90) c).toInt < (Wd σ s).2.2.1 c)) → WJ G M_X12_isWorse (d + 5) (RI Φ) 10 [some (.inr (.inr 72)), some (.inl (nI k)), none, some (.inl 0), some (.inl (nI i))] [] τ := by
    intro m
    induction m with
    | zero =>
      intro i hi hI
      refine rg_X12_isWorse_10 ?_
      rw [en8, if_pos (nI_le (by omega) (by omega)), if_pos (Or.inl rfl)]
      exact h0 q τ (fun ⟨c, hc, w⟩ => hI c (by omega) w) hτ hm
    | succ m ih =>
      intro i hi hI
      refine rg_X12_isWorse_10 ?_
      have vi : vp_in (nI i) 24 := vin (by omega)
      have hc' := (bN_c h.any).1 (show i < bN σ by omega)
      obtain ⟨p1, p2, p3, p4, p5, p6⟩ := kpl.1 i hc'
      obtain ⟨q1, q2, q3, -⟩ := kda.1 i hc'
      rw [en8, if_neg (nI_ge (by omega) (by omega)), if_pos rfl, cln (by omega), nI_1, f82]
      refine ⟨vi, ?_⟩
      have nxt : ¬ (σ 82 i = nI k ∧ (worS (σ 72 0) (σ 72 24) (σ 84) (σ 85) (σ 86) (σ 82) (σ 90) i).toInt < (Wd σ s).2.2.1 i) → WJ G M_X12_isWorse (d + 5) (RI Φ) 10 [some (.inr (.inr 72)), some (.inl (nI k)), none, some (.inl 0), some (.inl (nI (i + 1)))] [] τ := by
        intro q
        refine ih (i + 1) (by omega) (fun c hc => ?_)
        by_cases e : c = i
        · subst e; exact q
        · exact hI c (by omega)
      by_cases g : σ 82 i = nI k
      · rw [if_pos g]
        refine ⟨vi, ?_⟩
        have e : (τ 99 i).toInt = (Wd σ s).2.2.1 i := (hm.2.2.2.1 i (by omega)).2
        refine mr_worthOf (by rw [f8]; exact hc') (by rw [f8]; exact u3) (by rw [f84]; exact q2) (by rw [f84]; exact q3) (by rw [f82]; exact p3) (by rw [f82]; exact p4) ?_
        rw [f0, f24, f84, f85, f86, f82, f90]
        refine zle (fun q => ?_) (fun q => ?_)
        · exact nxt (fun w => by omega)
        · exact L1 m (i + 1) (by omega) ⟨i, by omega, g, by omega⟩
      · rw [if_neg g]
        exact nxt (fun w => g w.1)
  exact L (bN σ) 0 (by omega) (fun c hc => by omega)
theorem P_worse {G : zGT} {d : Nat} {v1 v2 : Int32} : Pair G (d + 6) Y_X11_worse Y_X12_worse [.inl v1, .inl v2] := by
  intro σ h
  have BADm : (v1.toInt < 0 ∨ 5 < v1.toInt ∨ v2.toInt < 0 ∨ 1 < v2.toInt) → CTI G (d + 6) Y_X12_worse [.inr (.inr 72), .inl v1, .inl v2] σ (fun r' σ2 => -1000000001 = r' ∧ Rall σ2) := by
    intro q
    refine en_X12_worse ?_
    refine m_isClass (fun _ _ => ?_) (fun _ => ?_)
    · rw [if_neg (by decide)]
      refine m_isSide (fun _ _ => by omega) (fun _ => ?_)
      rw [if_pos rfl]
      exact ⟨rfl, h⟩
    · rw [if_pos rfl]
      exact ⟨rfl, h⟩
  refine en_X11_worse ?_
  refine c_isClass (fun a1 a2 => ?_) (fun w => ?_)
  rotate_left
  · rw [if_pos rfl]
    exact BADm (by omega)
  rw [if_neg (by decide)]
  refine c_isSide (fun w1 w2 => ?_) (fun w => ?_)
  rotate_left
  · rw [if_pos rfl]
    exact BADm (by omega)
  rw [if_neg (by decide)]
  obtain ⟨k, rfl, hk, hk3⟩ := num_of a1 a2
  obtain ⟨s, rfl, hs, hs3⟩ := num_of w1 w2
  refine c_wound h.any (by omega) (fun e σ1 hf h1 h11 => ?_) (fun e σ1 hf h1 h11 => ?_)
  · subst e
    have hA := h1.all' h hf
    refine rg_X11_worse_21w20 ?_
    have M : ∀ r : Int32, (isWs σ1 0 k → r = 1) → (¬ isWs σ1 0 k → r = 0) → CTI G (d + 6) Y_X12_worse [.inr (.inr 72), .inl (nI k), .inl (nI 0)] σ1 (fun r' σ2 => r = r' ∧ Rall σ2) := by
      intro r r1 r0
      refine en_X12_worse ?_
      refine m_isClass (fun _ _ => ?_) (fun q => by omega)
      rw [if_neg (by decide)]
      refine m_isSide (fun _ _ => ?_) (fun q => by omega)
      rw [if_neg (by decide)]
      refine m_isWorse hA (by decide) (fun q σ2 g h2 _ => ?_) (fun q σ2 g h2 _ => ?_)
      · rw [if_neg (by decide)]
        exact ⟨r1 g, h2⟩
      · rw [if_pos rfl]
        exact ⟨r0 g, h2⟩
    refine c_isWorse20 hA h11 (by omega) (fun g => ?_) (fun g => ?_)
    · refine c_truth1 ?_
      exact M 1 (fun _ => rfl) (fun q => absurd g q)
    · refine c_truth0 ?_
      exact M 0 (fun q => absurd q g) (fun _ => rfl)
  · subst e
    have hA := h1.all' h hf
    refine rg_X11_worse_21w27 ?_
    have M : ∀ r : Int32, (isWs σ1 1 k → r = 1) → (¬ isWs σ1 1 k → r = 0) → CTI G (d + 6) Y_X12_worse [.inr (.inr 72), .inl (nI k), .inl (nI 1)] σ1 (fun r' σ2 => r = r' ∧ Rall σ2) := by
      intro r r1 r0
      refine en_X12_worse ?_
      refine m_isClass (fun _ _ => ?_) (fun q => by omega)
      rw [if_neg (by decide)]
      refine m_isSide (fun _ _ => ?_) (fun q => by omega)
      rw [if_neg (by decide)]
      refine m_isWorse hA (by decide) (fun q σ2 g h2 _ => ?_) (fun q σ2 g h2 _ => ?_)
      · rw [if_neg (by decide)]
        exact ⟨r1 g, h2⟩
      · rw [if_pos rfl]
        exact ⟨r0 g, h2⟩
    refine c_isWorse27 hA h11 (by omega) (fun g => ?_) (fun g => ?_)
    · refine c_truth1 ?_
      exact M 1 (fun _ => rfl) (fun q => absurd g q)
    · refine c_truth0 ?_
      exact M 0 (fun q => absurd q g) (fun _ => rfl)
