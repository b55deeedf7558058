theorem CTx_mono {G : zGT} {d : Nat} {Y : zYD} {as : List zAV} {σ : zMem} {Φ Ψ : zAV → zMem → Prop} (h : CTx G d Y as σ Φ) (hi : ∀ r σ', Φ r σ' → Ψ r σ') : CTx G d Y as σ Ψ := by
  intro hQ p e ha hc hk s m args below hf hap hP hK
  obtain ⟨n, oc, a1, a2, a3, ⟨⟨⟨r, σ', b1, b2, b3⟩, b4⟩, b5⟩⟩ := h hQ p e ha hc hk s m args below hf hap hP hK
  exact ⟨n, oc, a1, a2, a3, ⟨⟨⟨r, σ', hi r σ' b1, b2, b3⟩, b4⟩, b5⟩⟩
theorem CTI_mono {G : zGT} {d : Nat} {Y : zYD} {as : List zAV} {σ : zMem} {Φ Ψ : Int32 → zMem → Prop} (h : CTI G d Y as σ Φ) (hi : ∀ x σ', Φ x σ' → Ψ x σ') : CTI G d Y as σ Ψ := by
  refine CTx_mono h (fun r σ' q => ?_)
  rcases r with x | x | x
  · exact hi x σ' q
  · exact q
  · exact q
/-- the law's loop -/
theorem law_loop {G : zGT} (hL : gL G ≤ 3072) : ∀ (m i : Nat), gL G ≤ i + m → i ≤ 4000 → ∀ σ : zMem, Rall σ → WJ G M_L_law (500 + 1) (RI (fun r _ => r = 1)) 18 [some (.inr (.inr 2000)), some (.inr (.inr 0)), some (.inr (.inr 72)), some (.inl (nI i))] [] σ := by
  have t6 : (6 : Int32).toInt = 6 := rfl
  have eL : (Int32.ofNat (gL G) - 6).toInt = (gL G : Int) - 6 := by
    have tl : (Int32.ofNat (gL G)).toInt = (gL G : Int) := tin (by omega)
    rw [fb_subI (by rw [tl, t6]; omega) (by rw [tl, t6]; omega), tl, t6]
  intro m
  induction m with
  | zero =>
    intro i hi h4 σ hσ
    refine rg_L_law_18 ?_
    rw [if_pos (by rw [fa_lt, eL, tin (by omega)]; omega)]
  | succ m ih =>
    intro i hi h4 σ hσ
    refine rg_L_law_18 ?_
    by_cases g : (gL G : Int) - 6 < (i : Int)
    · rw [if_pos (by rw [fa_lt, eL, tin (by omega)]; omega)]
    rw [if_neg (by rw [fa_lt, eL, tin (by omega)]; omega)]
    have V0 : vp_in (nI i) (gL G) := vin (by omega) (by omega)
    have V1 : vp_in (nI i + 1) (gL G) := by rw [nI_1]; exact vin (by omega) (by omega)
    have V2 : vp_in (nI i + 2) (gL G) := by rw [show (2 : Int32) = nI 2 from rfl, nI_add]; exact vin (by omega) (by omega)
    have V3 : vp_in (nI i + 3) (gL G) := by rw [show (3 : Int32) = nI 3 from rfl, nI_add]; exact vin (by omega) (by omega)
    have V4 : vp_in (nI i + 4) (gL G) := by rw [show (4 : Int32) = nI 4 from rfl, nI_add]; exact vin (by omega) (by omega)
    have V5 : vp_in (nI i + 5) (gL G) := by rw [show (5 : Int32) = nI 5 from rfl, nI_add]; exact vin (by omega) (by omega)
    have I : ∀ σ', Rall σ' → WJ G M_L_law (500 + 1) (RI (fun r _ => r = 1)) 18 [some (.inr (.inr 2000)), some (.inr (.inr 0)), some (.inr (.inr 72)), some (.inl (nI i + 6))] [] σ' := by
      intro σ' h'
      rw [show (6 : Int32) = nI 6 from rfl, nI_add]
      exact ih (i + 6) (by omega) (by omega) σ' h'
    have fin : ∀ (r r' : Int32) (σ' : zMem), r = r' ∧ Rall σ' → if r = r' then WJ G M_L_law (500 + 1) (RI (fun r _ => r = 1)) 18 [some (.inr (.inr 2000)), some (.inr (.inr 0)), some (.inr (.inr 72)), some (.inl (nI i + 6))] [] σ' else (0 : Int32) = 1 := by
      intro r r' σ' h'
      rw [if_pos h'.1]
      exact I σ' h'.2
    refine ⟨V0, ?_⟩
    generalize gX G (nI i).toNatClampNeg &&& 63 = op
    by_cases g0 : op = 0
    · rw [if_pos g0]
      exact CTI_mono (P_firm (d := 499) σ hσ) (fun r σ1 h1 => CTI_mono h1 (fun r' σ2 h2 => fin r r' σ2 h2))
    rw [if_neg g0]
    by_cases g1 : op = 1
    · rw [if_pos g1]
      exact ⟨V1, V2, V3, V4, CTI_mono (P_asset (d := 494) σ hσ) (fun r σ1 h1 => ⟨V1, V2, V3, V4, CTI_mono h1 (fun r' σ2 h2 => fin r r' σ2 h2)⟩)⟩
    rw [if_neg g1]
    by_cases g2 : op = 2
    · rw [if_pos g2]
      exact ⟨V1, V2, CTI_mono (P_charge (d := 494) σ hσ) (fun r σ1 h1 => ⟨V1, V2, CTI_mono h1 (fun r' σ2 h2 => fin r r' σ2 h2)⟩)⟩
    rw [if_neg g2]
    by_cases g3 : op = 3
    · rw [if_pos g3]
      exact ⟨V1, V2, CTI_mono (P_brings (d := 494) σ hσ) (fun r σ1 h1 => ⟨V1, V2, CTI_mono h1 (fun r' σ2 h2 => fin r r' σ2 h2)⟩)⟩
    rw [if_neg g3]
    by_cases g4 : op = 4
    · rw [if_pos g4]
      exact ⟨V1, V2, V3, V4, CTI_mono (P_claim (d := 494) σ hσ) (fun r σ1 h1 => ⟨V1, V2, V3, V4, CTI_mono h1 (fun r' σ2 h2 => fin r r' σ2 h2)⟩)⟩
    rw [if_neg g4]
    by_cases g5 : op = 5
    · rw [if_pos g5]
      exact ⟨V1, V2, CTI_mono (P_isOf (d := 494) σ hσ) (fun r σ1 h1 => ⟨V1, V2, CTI_mono h1 (fun r' σ2 h2 => fin r r' σ2 h2)⟩)⟩
    rw [if_neg g5]
    by_cases g6 : op = 6
    · rw [if_pos g6]
      exact ⟨V1, V2, CTI_mono (P_amend (d := 494) σ hσ) (fun r σ1 h1 => ⟨V1, V2, CTI_mono h1 (fun r' σ2 h2 => fin r r' σ2 h2)⟩)⟩
    rw [if_neg g6]
    by_cases g7 : op = 7
    · rw [if_pos g7]
      exact ⟨V1, V2, CTI_mono (P_trade (d := 494) σ hσ) (fun r σ1 h1 => ⟨V1, V2, CTI_mono h1 (fun r' σ2 h2 => fin r r' σ2 h2)⟩)⟩
    rw [if_neg g7]
    by_cases g8 : op = 8
    · rw [if_pos g8]
      exact ⟨V1, V2, V3, CTI_mono (P_guard (d := 494) σ hσ) (fun r σ1 h1 => ⟨V1, V2, V3, CTI_mono h1 (fun r' σ2 h2 => fin r r' σ2 h2)⟩)⟩
    rw [if_neg g8]
    by_cases g9 : op = 9
    · rw [if_pos g9]
      exact ⟨V1, V2, CTI_mono (P_dispute (d := 494) σ hσ) (fun r σ1 h1 => ⟨V1, V2, CTI_mono h1 (fun r' σ2 h2 => fin r r' σ2 h2)⟩)⟩
    rw [if_neg g9]
    by_cases g10 : op = 10
    · rw [if_pos g10]
      exact ⟨V1, V2, CTI_mono (P_told (d := 494) σ hσ) (fun r σ1 h1 => ⟨V1, V2, CTI_mono h1 (fun r' σ2 h2 => fin r r' σ2 h2)⟩)⟩
    rw [if_neg g10]
    by_cases g11 : op = 11
    · rw [if_pos g11]
      exact ⟨V1, V2, CTI_mono (P_known (d := 494) σ hσ) (fun r σ1 h1 => ⟨V1, V2, CTI_mono h1 (fun r' σ2 h2 => fin r r' σ2 h2)⟩)⟩
    rw [if_neg g11]
    by_cases g12 : op = 12
    · rw [if_pos g12]
      exact ⟨V1, V2, CTI_mono (P_holder (d := 494) σ hσ) (fun r σ1 h1 => ⟨V1, V2, CTI_mono h1 (fun r' σ2 h2 => fin r r' σ2 h2)⟩)⟩
    rw [if_neg g12]
    by_cases g13 : op = 13
    · rw [if_pos g13]
      exact ⟨V1, CTI_mono (P_days (d := 494) σ hσ) (fun r σ1 h1 => ⟨V1, CTI_mono h1 (fun r' σ2 h2 => fin r r' σ2 h2)⟩)⟩
    rw [if_neg g13]
    by_cases g14 : op = 14
    · rw [if_pos g14]
      exact ⟨V1, CTI_mono (P_wind (d := 494) σ hσ) (fun r σ1 h1 => ⟨V1, CTI_mono h1 (fun r' σ2 h2 => fin r r' σ2 h2)⟩)⟩
    rw [if_neg g14]
    by_cases g15 : op = 15
    · rw [if_pos g15]
      exact ⟨V1, V2, CTI_mono (P_gets (d := 494) σ hσ) (fun r σ1 h1 => ⟨V1, V2, CTI_mono h1 (fun r' σ2 h2 => fin r r' σ2 h2)⟩)⟩
    rw [if_neg g15]
    by_cases g16 : op = 16
    · rw [if_pos g16]
      exact ⟨V1, V2, CTI_mono (P_ends (d := 494) σ hσ) (fun r σ1 h1 => ⟨V1, V2, CTI_mono h1 (fun r' σ2 h2 => fin r r' σ2 h2)⟩)⟩
    rw [if_neg g16]
    by_cases g17 : op = 17
    · rw [if_pos g17]
      exact ⟨V1, V2, CTI_mono (P_cash (d := 494) σ hσ) (fun r σ1 h1 => ⟨V1, V2, CTI_mono h1 (fun r' σ2 h2 => fin r r' σ2 h2)⟩)⟩
    rw [if_neg g17]
    by_cases g18 : op = 18
    · rw [if_pos g18]
      exact ⟨V1, V2, V3, CTI_mono (P_row (d := 494) σ hσ) (fun r σ1 h1 => ⟨V1, V2, V3, CTI_mono h1 (fun r' σ2 h2 => fin r r' σ2 h2)⟩)⟩
    rw [if_neg g18]
    by_cases g19 : op = 19
    · rw [if_pos g19]
      exact ⟨V1, CTI_mono (P_tell (d := 494) σ hσ) (fun r σ1 h1 => ⟨V1, CTI_mono h1 (fun r' σ2 h2 => fin r r' σ2 h2)⟩)⟩
    rw [if_neg g19]
    by_cases g20 : op = 20
    · rw [if_pos g20]
      exact ⟨V1, CTI_mono (P_check (d := 494) σ hσ) (fun r σ1 h1 => ⟨V1, CTI_mono h1 (fun r' σ2 h2 => fin r r' σ2 h2)⟩)⟩
    rw [if_neg g20]
    by_cases g21 : op = 21
    · rw [if_pos g21]
      exact ⟨V1, V2, CTI_mono (P_put (d := 494) σ hσ) (fun r σ1 h1 => ⟨V1, V2, CTI_mono h1 (fun r' σ2 h2 => fin r r' σ2 h2)⟩)⟩
    rw [if_neg g21]
    by_cases g22 : op = 22
    · rw [if_pos g22]
      exact ⟨V1, CTI_mono (P_quarrel (d := 496) σ hσ) (fun r σ1 h1 => ⟨V1, CTI_mono h1 (fun r' σ2 h2 => fin r r' σ2 h2)⟩)⟩
    rw [if_neg g22]
    by_cases g23 : op = 23
    · rw [if_pos g23]
      exact ⟨V1, V2, V3, V4, CTI_mono (P_terms (d := 494) σ hσ) (fun r σ1 h1 => ⟨V1, V2, V3, V4, CTI_mono h1 (fun r' σ2 h2 => fin r r' σ2 h2)⟩)⟩
    rw [if_neg g23]
    by_cases g24 : op = 24
    · rw [if_pos g24]
      exact ⟨V1, CTI_mono (P_worth (d := 494) σ hσ) (fun r σ1 h1 => ⟨V1, CTI_mono h1 (fun r' σ2 h2 => fin r r' σ2 h2)⟩)⟩
    rw [if_neg g24]
    by_cases g25 : op = 25
    · rw [if_pos g25]
      exact ⟨V1, V2, CTI_mono (P_worse (d := 494) σ hσ) (fun r σ1 h1 => ⟨V1, V2, CTI_mono h1 (fun r' σ2 h2 => fin r r' σ2 h2)⟩)⟩
    rw [if_neg g25]
    by_cases g26 : op = 26
    · rw [if_pos g26]
      exact ⟨V1, V2, CTI_mono (P_vote (d := 494) σ hσ) (fun r σ1 h1 => ⟨V1, V2, CTI_mono h1 (fun r' σ2 h2 => fin r r' σ2 h2)⟩)⟩
    rw [if_neg g26]
    by_cases g27 : op = 27
    · rw [if_pos g27]
      exact ⟨V1, CTI_mono (P_votes (d := 498) σ hσ) (fun r σ1 h1 => ⟨V1, CTI_mono h1 (fun r' σ2 h2 => fin r r' σ2 h2)⟩)⟩
    rw [if_neg g27]
    by_cases g28 : op = 28
    · rw [if_pos g28]
      exact ⟨V1, CTI_mono (P_record (d := 494) σ hσ) (fun r σ1 h1 => ⟨V1, CTI_mono h1 (fun r' σ2 h2 => fin r r' σ2 h2)⟩)⟩
    rw [if_neg g28]
    by_cases g29 : op = 29
    · rw [if_pos g29]
      exact ⟨V1, V2, CTI_mono (P_rule (d := 494) σ hσ) (fun r σ1 h1 => ⟨V1, V2, CTI_mono h1 (fun r' σ2 h2 => fin r r' σ2 h2)⟩)⟩
    rw [if_neg g29]
    by_cases g30 : op = 30
    · rw [if_pos g30]
      exact ⟨V1, V2, V3, CTI_mono (P_feed (d := 498) σ hσ) (fun r σ1 h1 => ⟨V1, V2, V3, CTI_mono h1 (fun r' σ2 h2 => fin r r' σ2 h2)⟩)⟩
    rw [if_neg g30]
    by_cases g31 : op = 31
    · rw [if_pos g31]
      exact ⟨V1, CTI_mono (P_trim (d := 494) σ hσ) (fun r σ1 h1 => ⟨V1, CTI_mono h1 (fun r' σ2 h2 => fin r r' σ2 h2)⟩)⟩
    rw [if_neg g31]
    by_cases g32 : op = 32
    · rw [if_pos g32]
      exact CTI_mono (P_law (d := 100) σ hσ) (fun r σ1 h1 => CTI_mono h1 (fun r' σ2 h2 => fin r r' σ2 h2))
    rw [if_neg g32]
    by_cases g33 : op = 33
    · rw [if_pos g33]
      exact ⟨V1, CTI_mono (P_says (d := 492) σ hσ) (fun r σ1 h1 => ⟨V1, CTI_mono h1 (fun r' σ2 h2 => fin r r' σ2 h2)⟩)⟩
    rw [if_neg g33]
    by_cases g34 : op = 34
    · rw [if_pos g34]
      exact CTI_mono (P_binds (d := 488) σ hσ) (fun r σ1 h1 => CTI_mono h1 (fun r' σ2 h2 => fin r r' σ2 h2))
    rw [if_neg g34]
    by_cases g35 : op = 35
    · rw [if_pos g35]
      exact ⟨V1, CTI_mono (P_passes (d := 492) σ hσ) (fun r σ1 h1 => ⟨V1, CTI_mono h1 (fun r' σ2 h2 => fin r r' σ2 h2)⟩)⟩
    rw [if_neg g35]
    by_cases g36 : op = 36
    · rw [if_pos g36]
      exact ⟨V1, V2, CTI_mono (P_name (d := 492) σ hσ) (fun r σ1 h1 => ⟨V1, V2, CTI_mono h1 (fun r' σ2 h2 => fin r r' σ2 h2)⟩)⟩
    rw [if_neg g36]
    by_cases g37 : op = 37
    · rw [if_pos g37]
      exact ⟨V1, V2, CTI_mono (P_buy (d := 492) σ hσ) (fun r σ1 h1 => ⟨V1, V2, CTI_mono h1 (fun r' σ2 h2 => fin r r' σ2 h2)⟩)⟩
    rw [if_neg g37]
    by_cases g38 : op = 38
    · rw [if_pos g38]
      exact ⟨V1, V2, V3, CTI_mono (P_bought (d := 492) σ hσ) (fun r σ1 h1 => ⟨V1, V2, V3, CTI_mono h1 (fun r' σ2 h2 => fin r r' σ2 h2)⟩)⟩
    rw [if_neg g38]
    by_cases g39 : op = 39
    · rw [if_pos g39]
      exact ⟨V1, CTI_mono (P_part (d := 492) σ hσ) (fun r σ1 h1 => ⟨V1, CTI_mono h1 (fun r' σ2 h2 => fin r r' σ2 h2)⟩)⟩
    rw [if_neg g39]
    by_cases g40 : op = 40
    · rw [if_pos g40]
      exact ⟨V1, V2, CTI_mono (P_parted (d := 492) σ hσ) (fun r σ1 h1 => ⟨V1, V2, CTI_mono h1 (fun r' σ2 h2 => fin r r' σ2 h2)⟩)⟩
    rw [if_neg g40]
    by_cases g41 : op = 41
    · rw [if_pos g41]
      exact CTI_mono (P_keep (d := 499) σ hσ) (fun r σ1 h1 => CTI_mono h1 (fun r' σ2 h2 => fin r r' σ2 h2))
    rw [if_neg g41]
    by_cases g42 : op = 42
    · rw [if_pos g42]
      exact CTI_mono (P_back (d := 499) σ hσ) (fun r σ1 h1 => CTI_mono h1 (fun r' σ2 h2 => fin r r' σ2 h2))
    rw [if_neg g42]
    by_cases g43 : op = 43
    · rw [if_pos g43]
      exact ⟨V1, V2, CTI_mono (P_sheet (d := 498) σ hσ) (fun r σ1 h1 => ⟨V1, V2, CTI_mono h1 (fun r' σ2 h2 => fin r r' σ2 h2)⟩)⟩
    rw [if_neg g43]
    by_cases g44 : op = 44
    · rw [if_pos g44]
      exact ⟨V1, V2, V3, CTI_mono (P_mark (d := 498) σ hσ) (fun r σ1 h1 => ⟨V1, V2, V3, CTI_mono h1 (fun r' σ2 h2 => fin r r' σ2 h2)⟩)⟩
    rw [if_neg g44]
    by_cases g45 : op = 45
    · rw [if_pos g45]
      exact ⟨V1, V2, V3, V4, V5, CTI_mono (P_copy (d := 498) σ hσ) (fun r σ1 h1 => ⟨V1, V2, V3, V4, V5, CTI_mono h1 (fun r' σ2 h2 => fin r r' σ2 h2)⟩)⟩
    rw [if_neg g45]
    by_cases g46 : op = 46
    · rw [if_pos g46]
      exact ⟨V1, CTI_mono (P_count (d := 497) σ hσ) (fun r σ1 h1 => ⟨V1, CTI_mono h1 (fun r' σ2 h2 => fin r r' σ2 h2)⟩)⟩
    rw [if_neg g46]
    exact I σ hσ
