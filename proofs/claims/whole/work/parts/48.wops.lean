theorem m_wound {G : zGT} {d : Nat} {σ : zMem} {Φ : zMem → Prop} {s : Nat} (h : Rall σ) (hs : s < 2) (hp : ∀ q σ', Rall σ' → MS σ q (Wd σ s).1 (Wd σ s).2 σ' → Φ σ') : CTV G (d + 4) Y_X12_windUp [.inr (.inr 72), .inl (nI s)] σ Φ := by
  refine m_windUp h.any hs (fun q σ' h' => ?_)
  rw [← Wd_eq] at h'
  exact hp q σ' (h'.1.rall h) h'
theorem Rany.all' {σ σ1 : zMem} (h : Rall σ) (h1 : Rany σ1) (hf : ∀ a : Nat, ¬ (20 ≤ a ∧ a ≤ 33) → σ1 a = σ a) : Rall σ1 := by
  obtain ⟨⟨k1, k2, k3, k4, k5, k6, k7, k8, k9⟩, kas, kcl, kda, kdh, kpl, kkp, ksh, kwt, r⟩ := h
  refine h1.all ?_ ?_
  · rw [hf 0 (by decide), hf 72 (by decide)]; exact k8
  · rw [hf 69 (by decide), hf 91 (by decide), hf 72 (by decide)]; exact kwt
theorem isum_ext {f : Nat → Int} {a : Nat} (h : ∀ g, a ≤ g → f g = 0) : ∀ k : Nat, isum f (a + k) = isum f a
  | 0 => rfl
  | k + 1 => by
    show isum f (a + k) + f (a + k) = isum f a
    rw [isum_ext h k, h _ (by omega)]; omega
theorem hfOf_none {β : zMem} (h : Rany β) {c : Nat} (hc : c < bN β) : hfOf β c = -1000000005 ↔ bH β c < 10 := by
  obtain ⟨r1, r2⟩ := bH_rng h hc
  have hb : (hldS (β 72 0) (β 87) (β 88) (β 89) c).toInt = bH β c := rfl
  unfold hfOf
  by_cases g : bH β c < 10
  · rw [if_pos g]; exact ⟨fun _ => g, fun _ => rfl⟩
  · rw [if_neg g]
    obtain ⟨k, hk, hk2, hk3⟩ := hd_of (x := hldS (β 72 0) (β 87) (β 88) (β 89) c) (by omega) (by omega) (by omega)
    rw [hk2, fa_eq, tin (by omega), tiN]
    omega
def ppl (β : zMem) (S : zWS) (c : Nat) : Int := if bH β c < 10 then S.2.1 c else 0
theorem ppl_rng {β : zMem} {B : Int} {S : zWS} (h : WI (bN β) B S) (hn : bN β ≤ 24) {i : Nat} (hi : i ≤ bN β) : 0 ≤ isum (ppl β S) i ∧ isum (ppl β S) i ≤ 2400000 := by
  have nn : ∀ j, j < i → 0 ≤ ppl β S j ∧ ppl β S j ≤ 100000 := by
    intro j hj
    have := h.1 j (by omega)
    unfold ppl
    split <;> omega
  have h1 := isum_nn i (fun j hj => (nn j hj).1)
  have h2 := isum_le (B := 100000) i (fun j hj => (nn j hj).2)
  omega
theorem csh_rng {n : Nat} {B : Int} {S : zWS} (h : WI n B S) (hB : B ≤ 1600000) {i : Nat} (hi : i ≤ 6) : 0 ≤ isum S.2.2.1 i ∧ isum S.2.2.1 i ≤ 1600000 := by
  have h1 := isum_nn i (fun j hj => h.2.1 j (by omega))
  have h2 := isum_mono hi (fun j hj => h.2.1 j (by omega))
  have h3 := h.2.2.1
  omega
theorem xfacts20 {σ : zMem} (h : Rany σ) (h11 : σ 20 11 = 1) : (σ 20 9).toInt = ((Wd σ 0).1 : Int) ∧ (σ 20 10).toInt = ((Wd σ 0).2.2.2.2.1 : Int) ∧ (∀ c : Nat, c < bN σ → (σ 22 c).toInt = (Wd σ 0).2.2.1 c ∧ σ 24 c = hfOf σ c) ∧
    (∀ f : Nat, f < 6 → (σ 25 f).toInt = (Wd σ 0).2.2.2.1 f) ∧ ∀ k : Nat, k < (Wd σ 0).2.2.2.2.1 → k < 600 → ∀ j : Nat, j < 4 → (σ 26 (4 * k + j)).toInt = (Wd σ 0).2.2.2.2.2 k j := by
  have f := (h.2.2.2.2.2.2.2.2.2.2.2.2.1).2 h11
  exact ⟨f.1, f.2.1, fun c hc => f.2.2.1 c ((bN_c h).1 hc), f.2.2.2.1, f.2.2.2.2⟩
theorem c_people20 {G : zGT} {d : Nat} {σ : zMem} {Φ : Int32 → zMem → Prop} (h : Rany σ) (h11 : σ 20 11 = 1) (hp : ∀ v : Int32, v.toInt = isum (ppl σ (Wd σ 0).2) (bN σ) → Φ v σ) : CTI G (d + 1) Y_X10_peopleGot [.inr (.inr 20)] σ Φ := by
  have n24 := bN_24 h
  obtain ⟨x1, x2, x3, x4, x5⟩ := xfacts20 h h11
  have wi := Wd_WI h 0
  obtain ⟨e3, b3, u3⟩ := h.1.2.2.1
  have en8 : σ 1 6 = nI (bN σ) := by
    rw [e3]
    exact nI_of_toInt (by omega) (by unfold bN; omega)
  refine en_X10_peopleGot_i20 ?_
  have L : ∀ m i : Nat, i + m = bN σ → ∀ v : Int32, v.toInt = isum (ppl σ (Wd σ 0).2) i → WJ G M_X10_peopleGot (d + 1) (RI Φ) 4 [some (.inr (.inr 20)), some (.inl v), some (.inl (nI i))] [] σ := by
    intro m
    induction m with
    | zero =>
      intro i hi v hv
      refine rg_X10_peopleGot_i20_4 ?_
      have : i = bN σ := by omega
      subst this
      rw [en8, if_pos (nI_le (by omega) (by omega))]
      exact hp v hv
    | succ m ih =>
      intro i hi v hv
      refine rg_X10_peopleGot_i20_4 ?_
      have vi : vp_in (nI i) 24 := vin (by omega)
      rw [en8, if_neg (nI_ge (by omega) (by omega)), cln (by omega), nI_1, (x3 i (by omega)).2]
      refine ⟨vi, ?_⟩
      obtain ⟨r0, r1⟩ := ppl_rng wi n24 (show i ≤ bN σ by omega)
      have wic := wi.1 i (by omega)
      have st : isum (ppl σ (Wd σ 0).2) (i + 1) = isum (ppl σ (Wd σ 0).2) i + ppl σ (Wd σ 0).2 i := rfl
      by_cases g : bH σ i < 10
      · rw [if_pos ((hfOf_none h (by omega)).2 g)]
        refine ⟨vi, ?_⟩
        refine ih (i + 1) (by omega) _ ?_
        have e := (x3 i (by omega)).1
        have p : ppl σ (Wd σ 0).2 i = (Wd σ 0).2.2.1 i := if_pos g
        rw [fb_addI (by omega) (by omega), hv, st, p, e]
      · rw [if_neg (fun q => g ((hfOf_none h (by omega)).1 q))]
        refine ih (i + 1) (by omega) _ ?_
        have p : ppl σ (Wd σ 0).2 i = 0 := if_neg g
        rw [Int32.add_zero, hv, st, p]; omega
  exact L (bN σ) 0 (by omega) 0 rfl
theorem c_cashLeft20 {G : zGT} {d : Nat} {σ : zMem} {Φ : Int32 → zMem → Prop} (h : Rany σ) (h11 : σ 20 11 = 1) (hp : ∀ v : Int32, v.toInt = isum (Wd σ 0).2.2.2.1 (σ 72 1).toInt.toNat → Φ v σ) : CTI G (d + 1) Y_X10_cashLeft [.inr (.inr 20)] σ Φ := by
  obtain ⟨x1, x2, x3, x4, x5⟩ := xfacts20 h h11
  have wi := Wd_WI h 0
  have u1 := h.1.1.2
  refine en_X10_cashLeft_i20 ?_
  have L : ∀ m i : Nat, i + m = 6 → ∀ v : Int32, v.toInt = isum (Wd σ 0).2.2.2.1 i → WJ G M_X10_cashLeft (d + 1) (RI Φ) 4 [some (.inr (.inr 20)), some (.inl v), some (.inl (nI i))] [] σ := by
    intro m
    induction m with
    | zero =>
      intro i hi v hv
      refine rg_X10_cashLeft_i20_4 ?_
      have : i = 6 := by omega
      subst this
      rw [if_pos (by decide)]
      refine hp v ?_
      have e := isum_ext (Wd_WZ h 0) (6 - (σ 72 1).toInt.toNat)
      rw [show (σ 72 1).toInt.toNat + (6 - (σ 72 1).toInt.toNat) = 6 by omega] at e
      rw [hv, e]
    | succ m ih =>
      intro i hi v hv
      refine rg_X10_cashLeft_i20_4 ?_
      have vi : vp_in (nI i) 6 := vin (by omega)
      have q6 : ¬ (nI 6 ≤ nI i) := nI_ge (by omega) (by omega)
      rw [if_neg (show ¬ ((6 : Int32) ≤ nI i) from q6), cln (by omega), nI_1]
      refine ⟨vi, ?_⟩
      obtain ⟨r0, r1⟩ := csh_rng wi (by omega) (show i ≤ 6 by omega)
      obtain ⟨r2, r3⟩ := csh_rng wi (by omega) (show i + 1 ≤ 6 by omega)
      have st : isum (Wd σ 0).2.2.2.1 (i + 1) = isum (Wd σ 0).2.2.2.1 i + (Wd σ 0).2.2.2.1 i := rfl
      have e := x4 i (by omega)
      refine ih (i + 1) (by omega) _ ?_
      rw [fb_addI (by omega) (by omega), hv, st, e]
  exact L 6 0 (by omega) 0 rfl
theorem xfacts27 {σ : zMem} (h : Rany σ) (h11 : σ 27 11 = 1) : (σ 27 9).toInt = ((Wd σ 1).1 : Int) ∧ (σ 27 10).toInt = ((Wd σ 1).2.2.2.2.1 : Int) ∧ (∀ c : Nat, c < bN σ → (σ 29 c).toInt = (Wd σ 1).2.2.1 c ∧ σ 31 c = hfOf σ c) ∧
    (∀ f : Nat, f < 6 → (σ 32 f).toInt = (Wd σ 1).2.2.2.1 f) ∧ ∀ k : Nat, k < (Wd σ 1).2.2.2.2.1 → k < 600 → ∀ j : Nat, j < 4 → (σ 33 (4 * k + j)).toInt = (Wd σ 1).2.2.2.2.2 k j := by
  have f := (h.2.2.2.2.2.2.2.2.2.2.2.2.2).2 h11
  exact ⟨f.1, f.2.1, fun c hc => f.2.2.1 c ((bN_c h).1 hc), f.2.2.2.1, f.2.2.2.2⟩
theorem c_people27 {G : zGT} {d : Nat} {σ : zMem} {Φ : Int32 → zMem → Prop} (h : Rany σ) (h11 : σ 27 11 = 1) (hp : ∀ v : Int32, v.toInt = isum (ppl σ (Wd σ 1).2) (bN σ) → Φ v σ) : CTI G (d + 1) Y_X10_peopleGot [.inr (.inr 27)] σ Φ := by
  have n24 := bN_24 h
  obtain ⟨x1, x2, x3, x4, x5⟩ := xfacts27 h h11
  have wi := Wd_WI h 1
  obtain ⟨e3, b3, u3⟩ := h.1.2.2.1
  have en8 : σ 1 6 = nI (bN σ) := by
    rw [e3]
    exact nI_of_toInt (by omega) (by unfold bN; omega)
  refine en_X10_peopleGot_i27 ?_
  have L : ∀ m i : Nat, i + m = bN σ → ∀ v : Int32, v.toInt = isum (ppl σ (Wd σ 1).2) i → WJ G M_X10_peopleGot (d + 1) (RI Φ) 4 [some (.inr (.inr 27)), some (.inl v), some (.inl (nI i))] [] σ := by
    intro m
    induction m with
    | zero =>
      intro i hi v hv
      refine rg_X10_peopleGot_i27_4 ?_
      have : i = bN σ := by omega
      subst this
      rw [en8, if_pos (nI_le (by omega) (by omega))]
      exact hp v hv
    | succ m ih =>
      intro i hi v hv
      refine rg_X10_peopleGot_i27_4 ?_
      have vi : vp_in (nI i) 24 := vin (by omega)
      rw [en8, if_neg (nI_ge (by omega) (by omega)), cln (by omega), nI_1, (x3 i (by omega)).2]
      refine ⟨vi, ?_⟩
      obtain ⟨r0, r1⟩ := ppl_rng wi n24 (show i ≤ bN σ by omega)
      have wic := wi.1 i (by omega)
      have st : isum (ppl σ (Wd σ 1).2) (i + 1) = isum (ppl σ (Wd σ 1).2) i + ppl σ (Wd σ 1).2 i := rfl
      by_cases g : bH σ i < 10
      · rw [if_pos ((hfOf_none h (by omega)).2 g)]
        refine ⟨vi, ?_⟩
        refine ih (i + 1) (by omega) _ ?_
        have e := (x3 i (by omega)).1
        have p : ppl σ (Wd σ 1).2 i = (Wd σ 1).2.2.1 i := if_pos g
        rw [fb_addI (by omega) (by omega), hv, st, p, e]
      · rw [if_neg (fun q => g ((hfOf_none h (by omega)).1 q))]
        refine ih (i + 1) (by omega) _ ?_
        have p : ppl σ (Wd σ 1).2 i = 0 := if_neg g
        rw [Int32.add_zero, hv, st, p]; omega
  exact L (bN σ) 0 (by omega) 0 rfl
theorem c_cashLeft27 {G : zGT} {d : Nat} {σ : zMem} {Φ : Int32 → zMem → Prop} (h : Rany σ) (h11 : σ 27 11 = 1) (hp : ∀ v : Int32, v.toInt = isum (Wd σ 1).2.2.2.1 (σ 72 1).toInt.toNat → Φ v σ) : CTI G (d + 1) Y_X10_cashLeft [.inr (.inr 27)] σ Φ := by
  obtain ⟨x1, x2, x3, x4, x5⟩ := xfacts27 h h11
  have wi := Wd_WI h 1
  have u1 := h.1.1.2
  refine en_X10_cashLeft_i27 ?_
  have L : ∀ m i : Nat, i + m = 6 → ∀ v : Int32, v.toInt = isum (Wd σ 1).2.2.2.1 i → WJ G M_X10_cashLeft (d + 1) (RI Φ) 4 [some (.inr (.inr 27)), some (.inl v), some (.inl (nI i))] [] σ := by
    intro m
    induction m with
    | zero =>
      intro i hi v hv
      refine rg_X10_cashLeft_i27_4 ?_
      have : i = 6 := by omega
      subst this
      rw [if_pos (by decide)]
      refine hp v ?_
      have e := isum_ext (Wd_WZ h 1) (6 - (σ 72 1).toInt.toNat)
      rw [show (σ 72 1).toInt.toNat + (6 - (σ 72 1).toInt.toNat) = 6 by omega] at e
      rw [hv, e]
    | succ m ih =>
      intro i hi v hv
      refine rg_X10_cashLeft_i27_4 ?_
      have vi : vp_in (nI i) 6 := vin (by omega)
      have q6 : ¬ (nI 6 ≤ nI i) := nI_ge (by omega) (by omega)
      rw [if_neg (show ¬ ((6 : Int32) ≤ nI i) from q6), cln (by omega), nI_1]
      refine ⟨vi, ?_⟩
      obtain ⟨r0, r1⟩ := csh_rng wi (by omega) (show i ≤ 6 by omega)
      obtain ⟨r2, r3⟩ := csh_rng wi (by omega) (show i + 1 ≤ 6 by omega)
      have st : isum (Wd σ 1).2.2.2.1 (i + 1) = isum (Wd σ 1).2.2.2.1 i + (Wd σ 1).2.2.2.1 i := rfl
      have e := x4 i (by omega)
      refine ih (i + 1) (by omega) _ ?_
      rw [fb_addI (by omega) (by omega), hv, st, e]
  exact L 6 0 (by omega) 0 rfl
theorem m_windT {G : zGT} {d : Nat} {σ : zMem} {Φ : Int32 → zMem → Prop} {s : Nat} (h : Rall σ) (hs : s < 2) (hp : ∀ v σ', Rall σ' → v.toInt = isum (ppl σ (Wd σ s).2) (bN σ) → Φ v σ') : CTI G (d + 5) Y_X12_wind [.inr (.inr 72), .inl (nI s)] σ Φ := by
  have n24 := bN_24 h.any
  have wi := Wd_WI h.any s
  obtain ⟨⟨k1, k2, k3, k4, k5, k6, k7, k8, k9⟩, kas, kcl, kda, kdh, -⟩ := id h
  obtain ⟨e3, b3, u3⟩ := id k3
  refine en_X12_wind ?_
  refine m_isSide (fun _ _ => ?_) (fun q => by rw [tin (by omega)] at q; omega)
  rw [if_neg (by decide)]
  refine m_wound h hs (fun q τ hτ hm => ?_)
  have f87 : τ 87 = σ 87 := hm.1.1 87 (by decide) (by decide)
  have f88 : τ 88 = σ 88 := hm.1.1 88 (by decide) (by decide)
  have f89 : τ 89 = σ 89 := hm.1.1 89 (by decide) (by decide)
  have f0 : τ 72 0 = σ 72 0 := hm.1.2 0 (by decide) (by decide)
  have f8 : τ 72 8 = σ 72 8 := hm.1.2 8 (by decide) (by decide)
  have en8 : τ 72 8 = nI (bN σ) := by
    rw [f8]
    exact nI_of_toInt (by omega) (by unfold bN; omega)
  have L : ∀ m i : Nat, i + m = bN σ → ∀ v : Int32, v.toInt = isum (ppl σ (Wd σ s).2) i → WJ G M_X12_wind (d + 5) (RI Φ) 19 [some (.inr (.inr 72)), none, some (.inl v), some (.inl (nI i))] [] τ := by
    intro m
    induction m with
    | zero =>
      intro i hi v hv
      refine rg_X12_wind_19 ?_
      have : i = bN σ := by omega
      subst this
      rw [en8, if_pos (nI_le (by omega) (by omega))]
      exact hp v τ hτ hv
    | succ m ih =>
      intro i hi v hv
      refine rg_X12_wind_19 ?_
      have vi : vp_in (nI i) 24 := vin (by omega)
      rw [en8, if_neg (nI_ge (by omega) (by omega)), nI_1]
      have hc' := (bN_c h.any).1 (show i < bN σ by omega)
      obtain ⟨q1, q2, q3, -⟩ := kdh.1 i hc'
      obtain ⟨r0, r1⟩ := ppl_rng wi n24 (show i ≤ bN σ by omega)
      have wic := wi.1 i (by omega)
      have st : isum (ppl σ (Wd σ s).2) (i + 1) = isum (ppl σ (Wd σ s).2) i + ppl σ (Wd σ s).2 i := rfl
      refine mr_holderOn (by rw [f8]; exact hc') (by rw [f8]; exact u3) (by rw [f87]; exact q2) (by rw [f87]; exact q3) ?_
      rw [f0, f87, f88, f89, cln (by omega)]
      have hb : (hldS (σ 72 0) (σ 87) (σ 88) (σ 89) i).toInt = bH σ i := rfl
      refine zle (fun g => ?_) (fun g => ⟨vi, ?_⟩)
      · rw [ti10, hb] at g
        refine ih (i + 1) (by omega) _ ?_
        have p : ppl σ (Wd σ s).2 i = 0 := if_neg (by omega)
        rw [Int32.add_zero, hv, st, p]; omega
      · rw [ti10, hb] at g
        refine ih (i + 1) (by omega) _ ?_
        have e : (τ 99 i).toInt = (Wd σ s).2.2.1 i := (hm.2.2.2.1 i (by omega)).2
        have p : ppl σ (Wd σ s).2 i = (Wd σ s).2.2.1 i := if_pos g
        rw [fb_addI (by omega) (by omega), hv, st, p, e]
  exact L (bN σ) 0 (by omega) 0 rfl
theorem P_wind {G : zGT} {d : Nat} {v1 : Int32} : Pair G (d + 6) Y_X11_wind Y_X12_wind [.inl v1] := by
  intro σ h
  refine en_X11_wind ?_
  refine c_isSide (fun w1 w2 => ?_) (fun w => ?_)
  rotate_left
  · rw [if_pos rfl]
    refine en_X12_wind ?_
    refine m_isSide (fun _ _ => by omega) (fun _ => ?_)
    rw [if_pos rfl]
    exact ⟨rfl, h⟩
  rw [if_neg (by decide)]
  obtain ⟨s, rfl, hs, hs3⟩ := num_of w1 w2
  refine c_wound h.any (by omega) (fun e σ1 hf h1 h11 => ?_) (fun e σ1 hf h1 h11 => ?_)
  · subst e
    refine rg_X11_wind_12w20 ?_
    refine c_people20 h1 h11 (fun v hv => ?_)
    refine m_windT (h1.all' h hf) (by decide) (fun v' σ2 h2 hv' => ⟨?_, h2⟩)
    rw [fa_eq, hv, hv']
  · subst e
    refine rg_X11_wind_12w27 ?_
    refine c_people27 h1 h11 (fun v hv => ?_)
    refine m_windT (h1.all' h hf) (by decide) (fun v' σ2 h2 hv' => ⟨?_, h2⟩)
    rw [fa_eq, hv, hv']
theorem P_gets {G : zGT} {d : Nat} {v1 v2 : Int32} : Pair G (d + 6) Y_X11_gets Y_X12_gets [.inl v1, .inl v2] := by
  intro σ h
  obtain ⟨e3, b3, u3⟩ := h.1.2.2.1
  have BADm : (v1.toInt < 0 ∨ (σ 72 8).toInt ≤ v1.toInt ∨ v2.toInt < 0 ∨ 1 < v2.toInt) → CTI G (d + 6) Y_X12_gets [.inr (.inr 72), .inl v1, .inl v2] σ (fun r' σ2 => -1000000001 = r' ∧ Rall σ2) := by
    intro q
    refine en_X12_gets ?_
    refine m_isClaim b3 (fun _ _ => ?_) (fun _ => ?_)
    · rw [if_neg (by decide)]
      refine m_isSide (fun _ _ => by omega) (fun _ => ?_)
      rw [if_pos rfl]
      exact ⟨rfl, h⟩
    · rw [if_pos rfl]
      exact ⟨rfl, h⟩
  refine en_X11_gets ?_
  refine c_hasC (fun a1 a2 => ?_) (fun w => ?_)
  rotate_left
  · rw [if_pos rfl]
    exact BADm (by rw [e3] at w; omega)
  rw [if_neg (by decide)]
  refine c_isSide (fun w1 w2 => ?_) (fun w => ?_)
  rotate_left
  · rw [if_pos rfl]
    exact BADm (by omega)
  rw [if_neg (by decide)]
  rw [e3] at a2
  obtain ⟨s, rfl, hs, hs3⟩ := num_of w1 w2
  obtain ⟨c, rfl, hc, hc3⟩ := num_of a1 (show v1.toInt ≤ 23 by omega)
  have vc : vp_in (nI c) 24 := vin (by omega)
  have cc : (nI c).toNatClampNeg = c := cln (by omega)
  rw [tin hc3] at a2
  refine c_wound h.any (by omega) (fun e σ1 hf h1 h11 => ?_) (fun e σ1 hf h1 h11 => ?_)
  · subst e
    refine rg_X11_gets_23w20 ?_
    rw [cc]
    refine ⟨vc, ?_⟩
    have f72 := hf 72 (by decide)
    have cn : c < bN σ1 := by rw [bN_c h1, f72]; exact a2
    obtain ⟨x1, x2, x3, x4, x5⟩ := xfacts20 h1 h11
    refine en_X12_gets ?_
    refine m_isClaim (by rw [f72]; exact b3) (fun _ _ => ?_) (fun q => by rw [f72, tin hc3] at q; omega)
    rw [if_neg (by decide)]
    refine m_isSide (fun _ _ => ?_) (fun q => by omega)
    rw [if_neg (by decide)]
    refine m_wound (h1.all' h hf) (by decide) (fun q σ2 h2 hm => ?_)
    rw [cc]
    refine ⟨vc, ?_, h2⟩
    rw [fa_eq, (x3 c cn).1]
    exact (hm.2.2.2.1 c cn).2.symm
  · subst e
    refine rg_X11_gets_23w27 ?_
    rw [cc]
    refine ⟨vc, ?_⟩
    have f72 := hf 72 (by decide)
    have cn : c < bN σ1 := by rw [bN_c h1, f72]; exact a2
    obtain ⟨x1, x2, x3, x4, x5⟩ := xfacts27 h1 h11
    refine en_X12_gets ?_
    refine m_isClaim (by rw [f72]; exact b3) (fun _ _ => ?_) (fun q => by rw [f72, tin hc3] at q; omega)
    rw [if_neg (by decide)]
    refine m_isSide (fun _ _ => ?_) (fun q => by omega)
    rw [if_neg (by decide)]
    refine m_wound (h1.all' h hf) (by decide) (fun q σ2 h2 hm => ?_)
    rw [cc]
    refine ⟨vc, ?_, h2⟩
    rw [fa_eq, (x3 c cn).1]
    exact (hm.2.2.2.1 c cn).2.symm
theorem P_cash {G : zGT} {d : Nat} {v1 v2 : Int32} : Pair G (d + 6) Y_X11_cash Y_X12_cash [.inl v1, .inl v2] := by
  intro σ h
  obtain ⟨e1, b1, u1⟩ := h.1.1
  have BADm : (v1.toInt < 0 ∨ (σ 72 1).toInt ≤ v1.toInt ∨ v2.toInt < 0 ∨ 1 < v2.toInt) → CTI G (d + 6) Y_X12_cash [.inr (.inr 72), .inl v1, .inl v2] σ (fun r' σ2 => -1000000001 = r' ∧ Rall σ2) := by
    intro q
    refine en_X12_cash ?_
    refine m_isFirm b1 (fun _ _ => ?_) (fun _ => ?_)
    · rw [if_neg (by decide)]
      refine m_isSide (fun _ _ => by omega) (fun _ => ?_)
      rw [if_pos rfl]
      exact ⟨rfl, h⟩
    · rw [if_pos rfl]
      exact ⟨rfl, h⟩
  refine en_X11_cash ?_
  refine c_isFirm (fun a1 a2 => ?_) (fun w => ?_)
  rotate_left
  · rw [if_pos rfl]
    exact BADm (by rw [e1] at w; omega)
  rw [if_neg (by decide)]
  refine c_isSide (fun w1 w2 => ?_) (fun w => ?_)
  rotate_left
  · rw [if_pos rfl]
    exact BADm (by omega)
  rw [if_neg (by decide)]
  rw [e1] at a2
  obtain ⟨s, rfl, hs, hs3⟩ := num_of w1 w2
  obtain ⟨c, rfl, hc, hc3⟩ := num_of a1 (show v1.toInt ≤ 5 by omega)
  have vc : vp_in (nI c) 6 := vin (by omega)
  have cc : (nI c).toNatClampNeg = c := cln (by omega)
  rw [tin hc3] at a2
  refine c_wound h.any (by omega) (fun e σ1 hf h1 h11 => ?_) (fun e σ1 hf h1 h11 => ?_)
  · subst e
    refine rg_X11_cash_20w20 ?_
    rw [cc]
    refine ⟨vc, ?_⟩
    have f72 := hf 72 (by decide)
    obtain ⟨x1, x2, x3, x4, x5⟩ := xfacts20 h1 h11
    refine en_X12_cash ?_
    refine m_isFirm (by rw [f72]; exact b1) (fun _ _ => ?_) (fun q => by rw [f72, tin hc3] at q; omega)
    rw [if_neg (by decide)]
    refine m_isSide (fun _ _ => ?_) (fun q => by omega)
    rw [if_neg (by decide)]
    refine m_wound (h1.all' h hf) (by decide) (fun q σ2 h2 hm => ?_)
    rw [cc]
    refine ⟨vc, ?_, h2⟩
    rw [fa_eq, x4 c (by omega)]
    exact (hm.2.2.2.2.1 c (by omega)).symm
  · subst e
    refine rg_X11_cash_20w27 ?_
    rw [cc]
    refine ⟨vc, ?_⟩
    have f72 := hf 72 (by decide)
    obtain ⟨x1, x2, x3, x4, x5⟩ := xfacts27 h1 h11
    refine en_X12_cash ?_
    refine m_isFirm (by rw [f72]; exact b1) (fun _ _ => ?_) (fun q => by rw [f72, tin hc3] at q; omega)
    rw [if_neg (by decide)]
    refine m_isSide (fun _ _ => ?_) (fun q => by omega)
    rw [if_neg (by decide)]
    refine m_wound (h1.all' h hf) (by decide) (fun q σ2 h2 hm => ?_)
    rw [cc]
    refine ⟨vc, ?_, h2⟩
    rw [fa_eq, x4 c (by omega)]
    exact (hm.2.2.2.2.1 c (by omega)).symm
theorem P_ends {G : zGT} {d : Nat} {v1 v2 : Int32} : Pair G (d + 6) Y_X11_ends Y_X12_ends [.inl v1, .inl v2] := by
  intro σ h
  obtain ⟨e1, b1, u1⟩ := h.1.1
  have BADm : (v1.toInt < 0 ∨ 1 < v1.toInt ∨ v2.toInt < 0 ∨ 2 < v2.toInt) → CTI G (d + 6) Y_X12_ends [.inr (.inr 72), .inl v1, .inl v2] σ (fun r' σ2 => -1000000001 = r' ∧ Rall σ2) := by
    intro q
    refine en_X12_ends ?_
    refine m_isSide (fun _ _ => ?_) (fun _ => ?_)
    · rw [if_neg (by decide)]
      refine m_isIn (fun p1 p2 => by rw [ti0] at p1; rw [ti2] at p2; omega) (fun _ => ?_)
      rw [if_pos rfl]
      exact ⟨rfl, h⟩
    · rw [if_pos rfl]
      exact ⟨rfl, h⟩
  -- the reference
  have M : ∀ (s w : Nat) (σ1 : zMem) (r : Int32), s < 2 → w < 3 → Rall σ1 → (r.toInt = if w = 0 then ((Wd σ1 s).1 : Int) else if w = 1 then ((Wd σ1 s).2.2.2.2.1 : Int) else isum (Wd σ1 s).2.2.2.1 (σ1 72 1).toInt.toNat) → CTI G (d + 6) Y_X12_ends [.inr (.inr 72), .inl (nI s), .inl (nI w)] σ1 (fun r' σ2 => r = r' ∧ Rall σ2) := by
    intro s w σ1 r hs hw h1 hr
    refine en_X12_ends ?_
    refine m_isSide (fun _ _ => ?_) (fun q => by rw [tin (by omega)] at q; omega)
    rw [if_neg (by decide)]
    refine m_isIn (fun _ _ => ?_) (fun q => by rw [tin (by omega), ti0, ti2] at q; omega)
    rw [if_neg (by decide)]
    refine m_wound h1 hs (fun q τ hτ hm => ?_)
    obtain ⟨e1', b1', u1'⟩ := h1.1.1
    have wi := Wd_WI h1.any s
    have en1 : τ 72 1 = nI (σ1 72 1).toInt.toNat := by
      rw [hm.1.2 1 (by decide) (by decide)]
      exact nI_of_toInt (by omega) (by omega)
    have le := Wd_le σ1 s
    have L : ∀ m i : Nat, i + m = (σ1 72 1).toInt.toNat → ∀ v : Int32, v.toInt = isum (Wd σ1 s).2.2.2.1 i → WJ G M_X12_ends (d + 6) (RI (fun r' σ2 => r = r' ∧ Rall σ2)) 29 [some (.inr (.inr 72)), none, some (.inl (nI w)), some (.inl v), some (.inl (nI i))] [] τ := by
      intro m
      induction m with
      | zero =>
        intro i hi v hv
        refine rg_X12_ends_29 ?_
        have : i = (σ1 72 1).toInt.toNat := by omega
        rw [en1, if_pos (nI_le (by omega) (by omega))]
        have w3 : w = 0 ∨ w = 1 ∨ w = 2 := by omega
        rcases w3 with rfl | rfl | rfl
        · rw [if_pos (by decide)]
          refine ⟨?_, hτ⟩
          rw [fa_eq, hr, if_pos rfl, hm.2.2.1, tin (by omega)]
        · rw [if_neg (by decide), if_pos (by decide)]
          refine ⟨?_, hτ⟩
          rw [fa_eq, hr, if_neg (by decide), if_pos rfl]
          exact hm.2.2.2.2.2.1.symm
        · rw [if_neg (by decide), if_neg (by decide)]
          refine ⟨?_, hτ⟩
          rw [fa_eq, hr, if_neg (by decide), if_neg (by decide), hv, this]
      | succ m ih =>
        intro i hi v hv
        refine rg_X12_ends_29 ?_
        have vi : vp_in (nI i) 6 := vin (by omega)
        rw [en1, if_neg (nI_ge (by omega) (by omega)), cln (by omega), nI_1]
        refine ⟨vi, ?_⟩
        obtain ⟨r0, r1⟩ := csh_rng wi (by omega) (show i ≤ 6 by omega)
        obtain ⟨r2, r3⟩ := csh_rng wi (by omega) (show i + 1 ≤ 6 by omega)
        have st : isum (Wd σ1 s).2.2.2.1 (i + 1) = isum (Wd σ1 s).2.2.2.1 i + (Wd σ1 s).2.2.2.1 i := rfl
        have e : (τ 100 i).toInt = (Wd σ1 s).2.2.2.1 i := hm.2.2.2.2.1 i (by omega)
        refine ih (i + 1) (by omega) _ ?_
        rw [fb_addI (by omega) (by omega), hv, st, e]
    exact L (σ1 72 1).toInt.toNat 0 (by omega) 0 rfl
  refine en_X11_ends ?_
  refine c_isSide (fun w1 w2 => ?_) (fun w => ?_)
  rotate_left
  · rw [if_pos rfl]
    exact BADm (by omega)
  rw [if_neg (by decide)]
  obtain ⟨s, rfl, hs, hs3⟩ := num_of w1 w2
  by_cases g0 : v2 = 0
  · subst g0
    rw [if_pos rfl]
    refine c_wound h.any (by omega) (fun e σ1 hf h1 h11 => ?_) (fun e σ1 hf h1 h11 => ?_)
    · subst e
      refine rg_X11_ends_41w20 ?_
      obtain ⟨x1, x2, x3, x4, x5⟩ := xfacts20 h1 h11
      exact M 0 0 σ1 _ (by decide) (by decide) (h1.all' h hf) x1
    · subst e
      refine rg_X11_ends_41w27 ?_
      obtain ⟨x1, x2, x3, x4, x5⟩ := xfacts27 h1 h11
      exact M 1 0 σ1 _ (by decide) (by decide) (h1.all' h hf) x1
  by_cases g1 : v2 = 1
  · subst g1
    rw [if_neg (by decide), if_pos rfl]
    refine c_wound h.any (by omega) (fun e σ1 hf h1 h11 => ?_) (fun e σ1 hf h1 h11 => ?_)
    · subst e
      refine rg_X11_ends_50w20 ?_
      obtain ⟨x1, x2, x3, x4, x5⟩ := xfacts20 h1 h11
      exact M 0 1 σ1 _ (by decide) (by decide) (h1.all' h hf) x2
    · subst e
      refine rg_X11_ends_50w27 ?_
      obtain ⟨x1, x2, x3, x4, x5⟩ := xfacts27 h1 h11
      exact M 1 1 σ1 _ (by decide) (by decide) (h1.all' h hf) x2
  by_cases g2 : v2 = 2
  · subst g2
    rw [if_neg (by decide), if_neg (by decide), if_pos rfl]
    refine c_wound h.any (by omega) (fun e σ1 hf h1 h11 => ?_) (fun e σ1 hf h1 h11 => ?_)
    · subst e
      refine rg_X11_ends_59w20 ?_
      obtain ⟨x1, x2, x3, x4, x5⟩ := xfacts20 h1 h11
      refine c_cashLeft20 h1 h11 (fun v hv => ?_)
      exact M 0 2 σ1 v (by decide) (by decide) (h1.all' h hf) hv
    · subst e
      refine rg_X11_ends_59w27 ?_
      obtain ⟨x1, x2, x3, x4, x5⟩ := xfacts27 h1 h11
      refine c_cashLeft27 h1 h11 (fun v hv => ?_)
      exact M 1 2 σ1 v (by decide) (by decide) (h1.all' h hf) hv
  rw [if_neg g0, if_neg g1, if_neg g2]
  rw [fa_eq, ti0] at g0
  rw [fa_eq, ti1] at g1
  rw [fa_eq, ti2] at g2
  exact BADm (by omega)
