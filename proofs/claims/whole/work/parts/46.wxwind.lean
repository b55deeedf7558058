theorem c_payOut20 {G : zGT} {d : Nat} {β : zMem} {rd : Nat} {B : Int} {S : zWS} {σ : zMem} {Φ : zMem → Prop} {f : Nat} (hβ : Rany β) (hw : WI (bN β) B S) (hB : B ≤ 1600000) (hf : f < 6) (hrd : rd ≤ 60) (h : XS20 β rd S σ)
    (hp : ∀ σ', XS20 β rd (wsFirm (fun c r => bR β c f r) (bH β) (bN β) f rd 4 0 S) σ' → Φ σ') : CTV G (d + 3) Y_X10_payOut [.inr (.inr 20), .inl (nI f)] σ Φ := by
  refine en_X10_payOut_i20 ?_
  have vf : vp_in (nI f) 6 := vin hf
  have cf : (nI f).toNatClampNeg = f := cln (by omega)
  have L : ∀ (k r : Nat) (S : zWS), r + k = 4 → WI (bN β) B S → (∀ σ', XS20 β rd (wsFirm (fun c r => bR β c f r) (bH β) (bN β) f rd k r S) σ' → Φ σ') → ∀ τ : zMem, XS20 β rd S τ →
      WJ G M_X10_payOut (d + 3) (RV Φ) 2 [some (.inr (.inr 20)), some (.inl (nI f)), some (.inl (nI r))] [] τ := by
    intro k
    induction k with
    | zero =>
      intro r S hr hw H τ hτ
      refine rg_X10_payOut_i20_2 ?_
      have : r = 4 := by omega
      subst this
      rw [if_pos (by decide)]
      exact H τ hτ
    | succ k ih =>
      intro r S hr hw H τ hτ
      refine rg_X10_payOut_i20_2 ?_
      have q4 : ¬ (nI 4 ≤ nI r) := nI_ge (by omega) (by omega)
      rw [if_neg (show ¬ ((4 : Int32) ≤ nI r) from q4), cf, nI_1]
      refine ⟨vf, ?_⟩
      have ec : (τ 25 f).toInt = S.2.2.1 f := hτ.2.2.2.2.1 f hf
      have e0 := hw.2.1 f hf
      refine zle (fun g => ?_) (fun _ => ?_)
      · rw [ti0] at g
        rw [wsFirm_poor hw (show S.2.2.1 f = 0 by omega)] at H
        exact H τ hτ
      · refine c_payRank20 hβ hw hB hf (by omega) hrd hτ (fun τ' h' => ?_)
        unfold wsFirm at H
        by_cases g : wsTot (fun c => bR β c f r) S.1 (bN β) ≤ S.2.2.1 f
        · rw [if_pos g, if_neg (by decide)]
          simp only [if_pos g] at H
          exact ih (r + 1) _ (by omega) (hw.rank hf) H τ' h'
        · rw [if_neg g, if_pos rfl]
          simp only [if_neg g] at H
          exact H τ' h'
  exact L 4 0 S rfl hw hp σ h
theorem c_proceeds20 {G : zGT} {d : Nat} {β σ : zMem} {Φ : Int32 → zMem → Prop} {a s : Nat} (hβ : Rany β) (hm : XF20 β σ) (ha : (a : Int) < (β 72 2).toInt) (hs : s < 2) (h : ∀ v : Int32, v.toInt = bB β s a → 0 ≤ v.toInt → v.toInt ≤ 100000 → Φ v σ) : CTI G d Y_X0_proceeds [.inr (.inr 14), .inl (nI a), .inl (nI s)] σ Φ := by
  obtain ⟨⟨k1, k2, k3, k4, k5, k6, k7, k8, k9⟩, kas, -⟩ := id hβ
  obtain ⟨q1, q2, q3, q4, q5, q6, q7, q8, q9, q10, q11, q12, q13, q14, q15⟩ := kas a ha
  have u2 := k2.2.2
  obtain ⟨e6, b6, u6⟩ := k6
  have va : vp_in (nI a) 16 := vin (by omega)
  refine en_X0_proceeds ?_
  rw [cln (by omega), hm.1 16 (by decide), hm.1 17 (by decide), hm.1 18 (by decide), hm.1 14 (by decide), q2, q3, q4, e6, Int32.mul_assoc, Int32.mul_assoc]
  have s2 : s = 0 ∨ s = 1 := by omega
  rcases s2 with rfl | rfl
  · rw [if_pos (by decide)]
    obtain ⟨e1, e2, e3⟩ := br_val q8 q9 b6 u6 q12 q13
    exact ⟨va, va, by decide, h _ e1 (by rw [e1]; exact e2) (by rw [e1]; exact e3)⟩
  · rw [if_neg (by decide)]
    obtain ⟨e1, e2, e3⟩ := br_val q10 q11 b6 u6 q12 q13
    exact ⟨va, va, by decide, h _ e1 (by rw [e1]; exact e2) (by rw [e1]; exact e3)⟩
theorem c_payCharged20 {G : zGT} {d : Nat} {β : zMem} {σ : zMem} {Φ : zMem → Prop} (hβ : Rany β) (h : XS20 β 0 (ws0 β) σ)
    (hp : ∀ σ', XS20 β 0 (wsA β 0 (β 72 2).toInt.toNat) σ' → Φ σ') : CTV G (d + 2) Y_X10_payCharged [.inr (.inr 20)] σ Φ := by
  have n24 := bN_24 hβ
  obtain ⟨⟨k1, k2, k3, k4, k5, k6, k7, k8, k9⟩, kas, kcl, kda, kdh, kpl, kkp, ksh, kwt, ktp, klw, ksd, kw0, kw1⟩ := id hβ
  obtain ⟨e1, b1, u1⟩ := id k1
  obtain ⟨e2, b2, u2⟩ := id k2
  obtain ⟨e3, b3, u3⟩ := id k3
  have en2 : ∀ τ : zMem, XF20 β τ → τ 14 5 = nI (β 72 2).toInt.toNat := by
    intro τ ht
    rw [ht.1 14 (by decide), e2]
    exact nI_of_toInt (by omega) (by omega)
  have esd : ∀ τ : zMem, XF20 β τ → τ 20 2 = nI 0 := by
    intro τ ht
    rw [ht.2 2 (by decide) (by decide) (by decide)]
    exact ksd.1
  generalize hna : (β 72 2).toInt.toNat = na at en2 hp
  refine en_X10_payCharged_i20 ?_
  have L : ∀ m a : Nat, a + m = na → ∀ τ : zMem, XS20 β 0 (wsA β 0 a) τ → WJ G M_X10_payCharged (d + 2) (RV Φ) 2 [some (.inr (.inr 20)), some (.inl (nI a)), none, none, none] [] τ := by
    intro m
    induction m with
    | zero =>
      intro a ha τ hτ
      refine rg_X10_payCharged_i20_2 ?_
      have : a = na := by omega
      subst this
      rw [en2 τ hτ.1, if_pos (nI_le (by omega) (by omega))]
      exact hp τ hτ
    | succ m ih =>
      intro a ha τ hτ
      refine rg_X10_payCharged_i20_2 ?_
      have a2 : (a : Int) < (β 72 2).toInt := by omega
      have hw := WI.assets (s := 0) hβ a (by omega)
      obtain ⟨q1, q2, q3, q4, q5, q6, q7, q8, q9, q10, q11, q12, q13, q14, q15⟩ := kas a a2
      have va : vp_in (nI a) 16 := vin (by omega)
      have ca : (nI a).toNatClampNeg = a := cln (by omega)
      obtain ⟨f, hf, hf2, hf3⟩ := num_of q6 (show (β 73 a).toInt ≤ 5 by omega)
      have tf : (β 73 a).toInt.toNat = f := by rw [hf, tin hf3]; omega
      have vf : vp_in (nI f) 6 := vin (by omega)
      have cf : (nI f).toNatClampNeg = f := cln (by omega)
      have ih' := ih (a + 1) (by omega)
      have st : wsA β 0 (a + 1) = wsAsset (bH β) (bB β 0) (β 73) (β 77) a (wsA β 0 a) := rfl
      rw [st] at ih'
      unfold wsAsset at ih'
      rw [tf] at ih'
      have hcf := hw.cash (f := f) (by omega)
      have hnf := hw.2.1 f (by omega)
      rw [en2 τ hτ.1, if_neg (nI_ge (by omega) (by omega)), nI_1, ca, esd τ hτ.1, hτ.1.1 15 (by decide), q1, hf, cf]
      refine ⟨va, ?_⟩
      refine c_proceeds20 hβ hτ.1 a2 (by decide) (fun v hv hv0 hv1 => ?_)
      refine ⟨va, vf, vf, ?_⟩
      rintro _ rfl
      have h1 := hτ.cash (f := f) (V := v) (by omega) (by omega) (by omega)
      rw [hv] at h1
      rw [hτ.1.1 19 (by decide), q5]
      by_cases g : (β 77 a).toInt < 0
      · have em : β 77 a = -1 := by rw [fa_eq, tim1]; omega
        rw [em, enc_m1]
        refine c_hasC (fun p => absurd p (by decide)) (fun _ => ?_)
        rw [if_pos rfl]
        simp only [if_pos g] at ih'
        exact ih' _ h1
      · simp only [if_neg g] at ih'
        obtain ⟨c, hc, hc2, hc3⟩ := num_of (show 0 ≤ (β 77 a).toInt by omega) (show (β 77 a).toInt ≤ 23 by omega)
        have tc : (β 77 a).toInt.toNat = c := by rw [hc, tin hc3]; omega
        have hcn : c < bN β := by rw [bN_c hβ]; rw [hc, tin hc3] at q15; exact q15
        rw [enc_nn (by omega), hc, cln (show c < 2147483648 by omega)]
        have vc : vp_in (nI c) 24 := vin (by omega)
        refine c_hasC (fun _ _ => ?_) (fun p => ?_)
        · rw [if_neg (by decide)]
          refine ⟨vc, ?_⟩
          have o := hw.1 c hcn
          have rr := hw.rows n24
          rw [tc] at ih'
          have oc : (zwr τ 25 f (τ 25 f + v) 21 c).toInt = (wsA β 0 a).1 c := (h1.2.2.2.1 c hcn).1
          have eV : (if zwr τ 25 f (τ 25 f + v) 21 c < v then zwr τ 25 f (τ 25 f + v) 21 c else v).toInt = (if bB β 0 a ≤ (wsA β 0 a).1 c then bB β 0 a else (wsA β 0 a).1 c) := by
            split
            · rename_i q
              rw [fa_lt, oc] at q
              rw [oc]
              split <;> omega
            · rename_i q
              rw [fa_lt, oc] at q
              rw [if_pos (by omega)]; exact hv
          generalize (if zwr τ 25 f (τ 25 f + v) 21 c < v then zwr τ 25 f (τ 25 f + v) 21 c else v) = V at eV ⊢
          rw [← eV] at ih'
          refine c_pay20 hβ h1 (by omega) hcn ?_ ?_ o.2.1 ?_ ?_ (fun g hg => ?_) (by omega) ih'
          · show V.toInt ≤ (wsA β 0 a).1 c
            rw [eV]; split <;> omega
          · show (wsA β 0 a).1 c ≤ _
            omega
          · show (wsA β 0 a).2.1 c ≤ _
            omega
          · show (wsA β 0 a).2.2.2.1 ≤ _
            omega
          · have := hw.2.1 g hg
            have := hw.cash hg
            show -2000000 ≤ (wsA β 0 a).2.2.1 g + (if g = f then bB β 0 a else 0) ∧ (wsA β 0 a).2.2.1 g + (if g = f then bB β 0 a else 0) ≤ 2000000
            split <;> omega
        · exfalso
          rw [zwr_rne (by decide), hτ.1.1 1 (by decide), e3, tin hc3] at p
          rw [hc, tin hc3] at q15
          omega
  exact L na 0 (by omega) σ h
theorem c_rankOfKind20 {G : zGT} {d : Nat} {σ : zMem} {Φ : Int32 → zMem → Prop} {k : Int32} (h : Φ (rkOf k) σ) : CTI G d Y_X10_rankOfKind [.inl k] σ Φ := by
  refine en_X10_rankOfKind ?_
  unfold rkOf at h
  by_cases g2 : k = 2
  · subst g2
    rw [if_pos rfl]
    exact h
  by_cases g3 : k = 3
  · subst g3
    rw [if_neg g2, if_pos rfl]
    exact h
  by_cases g4 : k = 4
  · subst g4
    rw [if_neg g2, if_neg g3, if_pos rfl]
    exact h
  rw [if_neg g2, if_neg g3, if_neg g4]
  rw [if_neg (fun q => g4 (by rw [fa_eq, ti4]; exact q)), if_neg (fun q => g2 (by rw [fa_eq, ti2]; exact q)), if_neg (fun q => g3 (by rw [fa_eq, ti3]; exact q))] at h
  exact h
theorem c_begin20 {G : zGT} {d : Nat} {β : zMem} {Φ : zMem → Prop} (hβ : Rany β) (hp : ∀ σ', XS20 β 0 (ws0 β) σ' → Φ σ') : CTV G (d + 2) Y_X10_begin [.inr (.inr 20), .inl (β 72 0)] β Φ := by
  have n24 := bN_24 hβ
  obtain ⟨⟨k1, k2, k3, k4, k5, k6, k7, k8, k9⟩, kas, kcl, kda, kdh, kpl, kkp, ksh, kwt, ktp, klw, ksd, kw0, kw1⟩ := id hβ
  obtain ⟨e3, b3, u3⟩ := id k3
  have en8 : ∀ τ : zMem, XF20 β τ → τ 1 6 = nI (bN β) := by
    intro τ ht
    rw [ht.1 1 (by decide), e3]
    exact nI_of_toInt (by omega) (by unfold bN; omega)
  refine en_X10_begin_i20 ?_
  rintro _ rfl
  rintro _ rfl
  have L33 : ∀ m c : Nat, c + m = bN β → ∀ τ : zMem, XF20 β τ → τ 20 9 = 0 → τ 20 10 = 0 → (∀ f : Nat, f < 6 → τ 25 f = 0) → (∀ i : Nat, i < c → (τ 21 i).toInt = bA β i ∧ τ 22 i = 0 ∧ τ 23 i = rkOf (β 78 i) ∧ τ 24 i = hfOf β i) →
      WJ G M_X10_begin (d + 2) (RV Φ) 33 [some (.inr (.inr 20)), some (.inl (β 72 0)), some (.inl (nI c)), none] [] τ := by
    intro m
    induction m with
    | zero =>
      intro c hc τ t1 t2 t3 t4 t5
      refine rg_X10_begin_i20_33 ?_
      have : c = bN β := by omega
      subst this
      rw [en8 τ t1, if_pos (nI_le (by omega) (by omega))]
      refine hp τ ⟨t1, t2, fun i hi => (t5 i hi).2.2, fun i hi => ?_, fun f hf => ?_, ?_, fun k hk => ?_⟩
      · obtain ⟨w1, w2, -⟩ := t5 i hi
        exact ⟨w1, by rw [w2]; rfl⟩
      · rw [t4 f hf]; rfl
      · rw [t3]; rfl
      · exact absurd hk (Nat.not_lt_zero k)
    | succ m ih =>
      intro c hc τ t1 t2 t3 t4 t5
      refine rg_X10_begin_i20_33 ?_
      rw [en8 τ t1, if_neg (nI_ge (by omega) (by omega)), nI_1]
      have hc' : (c : Int) < (β 72 8).toInt := (bN_c hβ).1 (by omega)
      have vc : vp_in (nI c) 24 := vin (by omega)
      have f72 : τ 72 = β 72 := t1.1 72 (by decide)
      obtain ⟨hr1, hr2⟩ := bH_rng hβ (show c < bN β by omega)
      refine cr_holderOn (hi := 9 + (β 72 1).toInt) (by rw [f72, t1.1 11 (by decide), t1.1 12 (by decide), t1.1 13 (by decide), t1.1 87 (by decide), t1.1 88 (by decide), t1.1 89 (by decide)]; exact kdh) (by rw [f72]; exact hc') (by rw [f72]; exact u3) ?_
      refine cr_amountOn (by rw [f72, t1.1 7 (by decide), t1.1 8 (by decide), t1.1 9 (by decide), t1.1 84 (by decide), t1.1 85 (by decide), t1.1 86 (by decide)]; exact kda) (by rw [f72]; exact hc') (by rw [f72]; exact u3) ?_
      rw [t1.1 84 (by decide), t1.1 85 (by decide), t1.1 86 (by decide), t1.1 87 (by decide), t1.1 88 (by decide), t1.1 89 (by decide), cln (show c < 2147483648 by omega)]
      refine ⟨vc, ?_⟩
      rintro _ rfl
      refine ⟨vc, ?_⟩
      rintro _ rfl
      refine ⟨vc, ?_⟩
      simp only [zwr_rne, ne_eq, Nat.reduceEqDiff, not_false_eq_true]
      rw [t1.1 2 (by decide), (kcl.1 c hc').1]
      refine c_rankOfKind20 ?_
      refine ⟨vc, ?_⟩
      rintro _ rfl
      have fin : ∀ w : Int32, w = hfOf β c → WJ G M_X10_begin (d + 2) (RV Φ) 33 [some (.inr (.inr 20)), some (.inl (β 72 0)), some (.inl (nI (c + 1))), none] [] (zwr (zwr (zwr (zwr τ 21 c (amtS (β 72 0) (β 84) (β 85) (β 86) c)) 22 c 0) 23 c (rkOf (β 78 c))) 24 c w) := by
        intro w hw
        refine ih (c + 1) (by omega) _ ((((t1.wr (by omega)).wr (by omega)).wr (by omega)).wr (by omega)) ?_ ?_ ?_ ?_
        · simp only [zwr_rne, zwr_req, upd_ne, upd_eq, ne_eq, Nat.reduceEqDiff, not_false_eq_true]; exact t2
        · simp only [zwr_rne, zwr_req, upd_ne, upd_eq, ne_eq, Nat.reduceEqDiff, not_false_eq_true]; exact t3
        · simp only [zwr_rne, zwr_req, upd_ne, upd_eq, ne_eq, Nat.reduceEqDiff, not_false_eq_true]; exact t4
        · intro i hi
          simp only [zwr_rne, zwr_req, upd_ne, upd_eq, ne_eq, Nat.reduceEqDiff, not_false_eq_true]
          by_cases e : i = c
          · subst e; rw [upd_eq, upd_eq, upd_eq, upd_eq]; exact ⟨rfl, rfl, rfl, hw⟩
          · rw [upd_ne e, upd_ne e, upd_ne e, upd_ne e]; exact t5 i (by omega)
      have hb : (hldS (β 72 0) (β 87) (β 88) (β 89) c).toInt = bH β c := rfl
      refine zle (fun g => ⟨vc, ?_⟩) (fun g => ⟨vc, ?_⟩)
      · rintro _ rfl
        refine fin _ ?_
        unfold hfOf
        rw [if_neg (by rw [ti10, hb] at g; omega)]
      · rintro _ rfl
        refine fin _ ?_
        unfold hfOf
        rw [if_pos (by rw [ti10, hb] at g; omega)]
  have L12 : ∀ m f : Nat, f + m = 6 → ∀ τ : zMem, XF20 β τ → τ 20 9 = 0 → τ 20 10 = 0 → (∀ i : Nat, i < f → τ 25 i = 0) →
      WJ G M_X10_begin (d + 2) (RV Φ) 12 [some (.inr (.inr 20)), some (.inl (β 72 0)), some (.inl (nI f)), none] [] τ := by
    intro m
    induction m with
    | zero =>
      intro f hf τ t1 t2 t3 t4
      refine rg_X10_begin_i20_12 ?_
      have : f = 6 := by omega
      subst this
      rw [if_pos (by decide)]
      exact L33 (bN β) 0 (by omega) τ t1 t2 t3 t4 (fun i hi => by omega)
    | succ m ih =>
      intro f hf τ t1 t2 t3 t4
      refine rg_X10_begin_i20_12 ?_
      have q6 : ¬ (nI 6 ≤ nI f) := nI_ge (by omega) (by omega)
      rw [if_neg (show ¬ ((6 : Int32) ≤ nI f) from q6), nI_1, cln (by omega)]
      refine ⟨vin (by omega), ?_⟩
      rintro _ rfl
      refine ih (f + 1) (by omega) _ (t1.wr (by omega)) ?_ ?_ ?_
      · simp only [zwr_rne, zwr_req, upd_ne, upd_eq, ne_eq, Nat.reduceEqDiff, not_false_eq_true]; exact t2
      · simp only [zwr_rne, zwr_req, upd_ne, upd_eq, ne_eq, Nat.reduceEqDiff, not_false_eq_true]; exact t3
      · intro i hi
        simp only [zwr_rne, zwr_req, upd_ne, upd_eq, ne_eq, Nat.reduceEqDiff, not_false_eq_true]
        by_cases e : i = f
        · subst e; rw [upd_eq]
        · rw [upd_ne e]; exact t4 i (by omega)
  refine L12 6 0 rfl _ (((XF20.refl β).wr (by omega)).wr (by omega)) ?_ ?_ (fun i hi => by omega)
  · simp only [zwr_rne, zwr_req, upd_ne, upd_eq, ne_eq, Nat.reduceEqDiff, not_false_eq_true]
  · simp only [zwr_rne, zwr_req, upd_ne, upd_eq, ne_eq, Nat.reduceEqDiff, not_false_eq_true]
theorem c_windUp20 {G : zGT} {d : Nat} {β : zMem} {Φ : zMem → Prop} (hβ : Rany β)
    (hp : ∀ σ', XS20 β (wsLoop (bR β) (bH β) (β 72 1).toInt.toNat (bN β) 60 0 (wsA β 0 (β 72 2).toInt.toNat)).1 (wsLoop (bR β) (bH β) (β 72 1).toInt.toNat (bN β) 60 0 (wsA β 0 (β 72 2).toInt.toNat)).2 σ' → σ' 20 11 = 1 → Φ σ') : CTV G (d + 4) Y_X10_windUp [.inr (.inr 20), .inl (β 72 1), .inl (β 72 0)] β Φ := by
  have n24 := bN_24 hβ
  obtain ⟨⟨k1, k2, k3, k4, k5, k6, k7, k8, k9⟩, -⟩ := id hβ
  obtain ⟨-, b1, u1⟩ := id k1
  obtain ⟨-, b2, u2⟩ := id k2
  have wa := WI.assets (s := 0) hβ (β 72 2).toInt.toNat (by omega)
  obtain ⟨fm, hfm, hfm2, hfm3⟩ := num_of b1 u1
  have tfm : (β 72 1).toInt.toNat = fm := by rw [hfm, tin hfm3]; omega
  rw [tfm] at hp
  generalize hna : (β 72 2).toInt.toNat = na at hp wa
  have fin : ∀ (rd : Nat) (S : zWS) (τ : zMem), XS20 β rd S τ → XS20 β rd S (zwr τ 20 11 1) ∧ zwr τ 20 11 1 20 11 = 1 := by
    intro rd S τ hτ
    obtain ⟨m1, m2, m0, m3⟩ := hτ
    refine ⟨⟨m1.wr (by omega), ?_, ?_, ?_⟩, zwr_same _ _ _ _⟩
    · simp only [zwr_rne, zwr_req, upd_ne, upd_eq, ne_eq, Nat.reduceEqDiff, not_false_eq_true]; exact m2
    · simp only [zwr_rne, zwr_req, upd_ne, upd_eq, ne_eq, Nat.reduceEqDiff, not_false_eq_true]; exact m0
    · simp only [zwr_rne, zwr_req, upd_ne, upd_eq, ne_eq, Nat.reduceEqDiff, not_false_eq_true]; exact m3
  have L40 : ∀ (rd rows0 : Nat) (S0 : zWS), rd ≤ 60 → rows0 ≤ 2400000 → WI (bN β) (100000 * na) S0 → (∀ τ', XS20 β rd (wsRound (bR β) (bH β) fm (bN β) rd S0) τ' → (if (wsRound (bR β) (bH β) fm (bN β) rd S0).2.2.2.1 ≤ rows0 then WJ G M_X10_windUp (d + 4) (RV Φ) 14 [some (.inr (.inr 20)), some (.inl (nI fm)), none, some (.inl 0), some (.inl (nI (rd + 1))), none, none] [] τ' else WJ G M_X10_windUp (d + 4) (RV Φ) 14 [some (.inr (.inr 20)), some (.inl (nI fm)), none, some (.inl 1), some (.inl (nI (rd + 1))), none, none] [] τ')) →
      ∀ m f : Nat, f + m = fm → ∀ (τ : zMem), XS20 β rd (wsRound (bR β) (bH β) f (bN β) rd S0) τ →
      WJ G M_X10_windUp (d + 4) (RV Φ) 40 [some (.inr (.inr 20)), some (.inl (nI fm)), none, none, some (.inl (nI rd)), some (.inl (nI rows0)), some (.inl (nI f))] [] τ := by
    intro rd rows0 S0 hrd hr0 hw0 H m
    induction m with
    | zero =>
      intro f hf τ hτ
      refine rg_X10_windUp_i20_40 ?_
      have : f = fm := by omega
      subst this
      rw [if_pos (nI_le (by omega) (by omega)), nI_1]
      have hw := WI.round (rd := rd) (hd := bH β) (ir := bR β) hw0 f (by omega)
      have rr := hw.rows n24
      have e40 : (τ 20 10).toInt = ((wsRound (bR β) (bH β) f (bN β) rd S0).2.2.2.1 : Int) := hτ.2.2.2.2.2.1
      have HH := H τ hτ
      by_cases g : (wsRound (bR β) (bH β) f (bN β) rd S0).2.2.2.1 ≤ rows0
      · rw [if_pos g] at HH
        rw [if_pos (by rw [fa_le, e40, tin (by omega)]; omega)]
        exact HH
      · rw [if_neg g] at HH
        rw [if_neg (by rw [fa_le, e40, tin (by omega)]; omega)]
        exact HH
    | succ m ih =>
      intro f hf τ hτ
      refine rg_X10_windUp_i20_40 ?_
      have q6 : ¬ (nI 6 ≤ nI f) := nI_ge (by omega) (by omega)
      rw [if_neg (nI_ge (by omega) (by omega)), if_neg (show ¬ ((6 : Int32) ≤ nI f) from q6)]
      have hw := WI.round (rd := rd) (hd := bH β) (ir := bR β) hw0 f (by omega)
      refine c_payOut20 hβ hw (by omega) (by omega) hrd hτ (fun τ' h' => ?_)
      rw [nI_1]
      exact ih (f + 1) (by omega) τ' h'
  have L14 : ∀ (k rd : Nat) (S : zWS), rd + k = 60 → WI (bN β) (100000 * na) S → (∀ σ', XS20 β (wsLoop (bR β) (bH β) fm (bN β) k rd S).1 (wsLoop (bR β) (bH β) fm (bN β) k rd S).2 σ' → σ' 20 11 = 1 → Φ σ') → ∀ (τ : zMem), XS20 β rd S τ →
      WJ G M_X10_windUp (d + 4) (RV Φ) 14 [some (.inr (.inr 20)), some (.inl (nI fm)), none, some (.inl 1), some (.inl (nI (rd + 1))), none, none] [] τ := by
    intro k
    induction k with
    | zero =>
      intro rd S hr hw H τ hτ
      refine rg_X10_windUp_i20_14 ?_
      have : rd = 60 := by omega
      subst this
      rw [if_pos (by decide)]
      rintro _ rfl
      obtain ⟨f1, f2⟩ := fin _ _ _ hτ
      exact H _ f1 f2
    | succ k ih =>
      intro rd S hr hw H τ hτ
      refine rg_X10_windUp_i20_14 ?_
      rw [if_neg (by rw [fa_lt, ti60, tin (by omega)]; omega), if_neg (by decide)]
      rintro _ rfl
      have rr := hw.rows n24
      have e40 : τ 20 10 = nI S.2.2.2.1 := nI_of_toInt (by omega) hτ.2.2.2.2.2.1
      have ms : XS20 β (rd + 1) S (zwr τ 20 9 (nI (rd + 1))) := by
        obtain ⟨m1, m2, m0, m3⟩ := hτ
        refine ⟨m1.wr (by omega), zwr_same _ _ _ _, ?_, ?_⟩
        · simp only [zwr_rne, zwr_req, upd_ne, upd_eq, ne_eq, Nat.reduceEqDiff, not_false_eq_true]; exact m0
        · simp only [zwr_rne, zwr_req, upd_ne, upd_eq, ne_eq, Nat.reduceEqDiff, not_false_eq_true]
          exact m3
      rw [e40]
      refine L40 (rd + 1) S.2.2.2.1 S (by omega) (by omega) hw (fun τ' h' => ?_) fm 0 (by omega) _ ms
      unfold wsLoop at H
      by_cases g : S.2.2.2.1 < (wsRound (bR β) (bH β) fm (bN β) (rd + 1) S).2.2.2.1
      · rw [if_neg (by omega)]
        simp only [if_pos g] at H
        exact ih (rd + 1) _ (by omega) (WI.round hw fm (by omega)) H τ' h'
      · rw [if_pos (by omega)]
        simp only [if_neg g] at H
        refine rg_X10_windUp_i20_14 ?_
        obtain ⟨f1, f2⟩ := fin _ _ _ h'
        split
        · rintro _ rfl
          exact H _ f1 f2
        · rw [if_pos rfl]
          rintro _ rfl
          exact H _ f1 f2
  refine en_X10_windUp_i20 ?_
  rw [hfm]
  refine c_begin20 hβ (fun τ hτ => ?_)
  refine c_payCharged20 hβ hτ (fun τ' h' => ?_)
  rw [hna] at h'
  exact L14 60 0 _ (by omega) wa hp τ' h'
theorem c_payOut27 {G : zGT} {d : Nat} {β : zMem} {rd : Nat} {B : Int} {S : zWS} {σ : zMem} {Φ : zMem → Prop} {f : Nat} (hβ : Rany β) (hw : WI (bN β) B S) (hB : B ≤ 1600000) (hf : f < 6) (hrd : rd ≤ 60) (h : XS27 β rd S σ)
    (hp : ∀ σ', XS27 β rd (wsFirm (fun c r => bR β c f r) (bH β) (bN β) f rd 4 0 S) σ' → Φ σ') : CTV G (d + 3) Y_X10_payOut [.inr (.inr 27), .inl (nI f)] σ Φ := by
  refine en_X10_payOut_i27 ?_
  have vf : vp_in (nI f) 6 := vin hf
  have cf : (nI f).toNatClampNeg = f := cln (by omega)
  have L : ∀ (k r : Nat) (S : zWS), r + k = 4 → WI (bN β) B S → (∀ σ', XS27 β rd (wsFirm (fun c r => bR β c f r) (bH β) (bN β) f rd k r S) σ' → Φ σ') → ∀ τ : zMem, XS27 β rd S τ →
      WJ G M_X10_payOut (d + 3) (RV Φ) 2 [some (.inr (.inr 27)), some (.inl (nI f)), some (.inl (nI r))] [] τ := by
    intro k
    induction k with
    | zero =>
      intro r S hr hw H τ hτ
      refine rg_X10_payOut_i27_2 ?_
      have : r = 4 := by omega
      subst this
      rw [if_pos (by decide)]
      exact H τ hτ
    | succ k ih =>
      intro r S hr hw H τ hτ
      refine rg_X10_payOut_i27_2 ?_
      have q4 : ¬ (nI 4 ≤ nI r) := nI_ge (by omega) (by omega)
      rw [if_neg (show ¬ ((4 : Int32) ≤ nI r) from q4), cf, nI_1]
      refine ⟨vf, ?_⟩
      have ec : (τ 32 f).toInt = S.2.2.1 f := hτ.2.2.2.2.1 f hf
      have e0 := hw.2.1 f hf
      refine zle (fun g => ?_) (fun _ => ?_)
      · rw [ti0] at g
        rw [wsFirm_poor hw (show S.2.2.1 f = 0 by omega)] at H
        exact H τ hτ
      · refine c_payRank27 hβ hw hB hf (by omega) hrd hτ (fun τ' h' => ?_)
        unfold wsFirm at H
        by_cases g : wsTot (fun c => bR β c f r) S.1 (bN β) ≤ S.2.2.1 f
        · rw [if_pos g, if_neg (by decide)]
          simp only [if_pos g] at H
          exact ih (r + 1) _ (by omega) (hw.rank hf) H τ' h'
        · rw [if_neg g, if_pos rfl]
          simp only [if_neg g] at H
          exact H τ' h'
  exact L 4 0 S rfl hw hp σ h
theorem c_proceeds27 {G : zGT} {d : Nat} {β σ : zMem} {Φ : Int32 → zMem → Prop} {a s : Nat} (hβ : Rany β) (hm : XF27 β σ) (ha : (a : Int) < (β 72 2).toInt) (hs : s < 2) (h : ∀ v : Int32, v.toInt = bB β s a → 0 ≤ v.toInt → v.toInt ≤ 100000 → Φ v σ) : CTI G d Y_X0_proceeds [.inr (.inr 14), .inl (nI a), .inl (nI s)] σ Φ := by
  obtain ⟨⟨k1, k2, k3, k4, k5, k6, k7, k8, k9⟩, kas, -⟩ := id hβ
  obtain ⟨q1, q2, q3, q4, q5, q6, q7, q8, q9, q10, q11, q12, q13, q14, q15⟩ := kas a ha
  have u2 := k2.2.2
  obtain ⟨e6, b6, u6⟩ := k6
  have va : vp_in (nI a) 16 := vin (by omega)
  refine en_X0_proceeds ?_
  rw [cln (by omega), hm.1 16 (by decide), hm.1 17 (by decide), hm.1 18 (by decide), hm.1 14 (by decide), q2, q3, q4, e6, Int32.mul_assoc, Int32.mul_assoc]
  have s2 : s = 0 ∨ s = 1 := by omega
  rcases s2 with rfl | rfl
  · rw [if_pos (by decide)]
    obtain ⟨e1, e2, e3⟩ := br_val q8 q9 b6 u6 q12 q13
    exact ⟨va, va, by decide, h _ e1 (by rw [e1]; exact e2) (by rw [e1]; exact e3)⟩
  · rw [if_neg (by decide)]
    obtain ⟨e1, e2, e3⟩ := br_val q10 q11 b6 u6 q12 q13
    exact ⟨va, va, by decide, h _ e1 (by rw [e1]; exact e2) (by rw [e1]; exact e3)⟩
theorem c_payCharged27 {G : zGT} {d : Nat} {β : zMem} {σ : zMem} {Φ : zMem → Prop} (hβ : Rany β) (h : XS27 β 0 (ws0 β) σ)
    (hp : ∀ σ', XS27 β 0 (wsA β 1 (β 72 2).toInt.toNat) σ' → Φ σ') : CTV G (d + 2) Y_X10_payCharged [.inr (.inr 27)] σ Φ := by
  have n24 := bN_24 hβ
  obtain ⟨⟨k1, k2, k3, k4, k5, k6, k7, k8, k9⟩, kas, kcl, kda, kdh, kpl, kkp, ksh, kwt, ktp, klw, ksd, kw0, kw1⟩ := id hβ
  obtain ⟨e1, b1, u1⟩ := id k1
  obtain ⟨e2, b2, u2⟩ := id k2
  obtain ⟨e3, b3, u3⟩ := id k3
  have en2 : ∀ τ : zMem, XF27 β τ → τ 14 5 = nI (β 72 2).toInt.toNat := by
    intro τ ht
    rw [ht.1 14 (by decide), e2]
    exact nI_of_toInt (by omega) (by omega)
  have esd : ∀ τ : zMem, XF27 β τ → τ 27 2 = nI 1 := by
    intro τ ht
    rw [ht.2 2 (by decide) (by decide) (by decide)]
    exact ksd.2
  generalize hna : (β 72 2).toInt.toNat = na at en2 hp
  refine en_X10_payCharged_i27 ?_
  have L : ∀ m a : Nat, a + m = na → ∀ τ : zMem, XS27 β 0 (wsA β 1 a) τ → WJ G M_X10_payCharged (d + 2) (RV Φ) 2 [some (.inr (.inr 27)), some (.inl (nI a)), none, none, none] [] τ := by
    intro m
    induction m with
    | zero =>
      intro a ha τ hτ
      refine rg_X10_payCharged_i27_2 ?_
      have : a = na := by omega
      subst this
      rw [en2 τ hτ.1, if_pos (nI_le (by omega) (by omega))]
      exact hp τ hτ
    | succ m ih =>
      intro a ha τ hτ
      refine rg_X10_payCharged_i27_2 ?_
      have a2 : (a : Int) < (β 72 2).toInt := by omega
      have hw := WI.assets (s := 1) hβ a (by omega)
      obtain ⟨q1, q2, q3, q4, q5, q6, q7, q8, q9, q10, q11, q12, q13, q14, q15⟩ := kas a a2
      have va : vp_in (nI a) 16 := vin (by omega)
      have ca : (nI a).toNatClampNeg = a := cln (by omega)
      obtain ⟨f, hf, hf2, hf3⟩ := num_of q6 (show (β 73 a).toInt ≤ 5 by omega)
      have tf : (β 73 a).toInt.toNat = f := by rw [hf, tin hf3]; omega
      have vf : vp_in (nI f) 6 := vin (by omega)
      have cf : (nI f).toNatClampNeg = f := cln (by omega)
      have ih' := ih (a + 1) (by omega)
      have st : wsA β 1 (a + 1) = wsAsset (bH β) (bB β 1) (β 73) (β 77) a (wsA β 1 a) := rfl
      rw [st] at ih'
      unfold wsAsset at ih'
      rw [tf] at ih'
      have hcf := hw.cash (f := f) (by omega)
      have hnf := hw.2.1 f (by omega)
      rw [en2 τ hτ.1, if_neg (nI_ge (by omega) (by omega)), nI_1, ca, esd τ hτ.1, hτ.1.1 15 (by decide), q1, hf, cf]
      refine ⟨va, ?_⟩
      refine c_proceeds27 hβ hτ.1 a2 (by decide) (fun v hv hv0 hv1 => ?_)
      refine ⟨va, vf, vf, ?_⟩
      rintro _ rfl
      have h1 := hτ.cash (f := f) (V := v) (by omega) (by omega) (by omega)
      rw [hv] at h1
      rw [hτ.1.1 19 (by decide), q5]
      by_cases g : (β 77 a).toInt < 0
      · have em : β 77 a = -1 := by rw [fa_eq, tim1]; omega
        rw [em, enc_m1]
        refine c_hasC (fun p => absurd p (by decide)) (fun _ => ?_)
        rw [if_pos rfl]
        simp only [if_pos g] at ih'
        exact ih' _ h1
      · simp only [if_neg g] at ih'
        obtain ⟨c, hc, hc2, hc3⟩ := num_of (show 0 ≤ (β 77 a).toInt by omega) (show (β 77 a).toInt ≤ 23 by omega)
        have tc : (β 77 a).toInt.toNat = c := by rw [hc, tin hc3]; omega
        have hcn : c < bN β := by rw [bN_c hβ]; rw [hc, tin hc3] at q15; exact q15
        rw [enc_nn (by omega), hc, cln (show c < 2147483648 by omega)]
        have vc : vp_in (nI c) 24 := vin (by omega)
        refine c_hasC (fun _ _ => ?_) (fun p => ?_)
        · rw [if_neg (by decide)]
          refine ⟨vc, ?_⟩
          have o := hw.1 c hcn
          have rr := hw.rows n24
          rw [tc] at ih'
          have oc : (zwr τ 32 f (τ 32 f + v) 28 c).toInt = (wsA β 1 a).1 c := (h1.2.2.2.1 c hcn).1
          have eV : (if zwr τ 32 f (τ 32 f + v) 28 c < v then zwr τ 32 f (τ 32 f + v) 28 c else v).toInt = (if bB β 1 a ≤ (wsA β 1 a).1 c then bB β 1 a else (wsA β 1 a).1 c) := by
            split
            · rename_i q
              rw [fa_lt, oc] at q
              rw [oc]
              split <;> omega
            · rename_i q
              rw [fa_lt, oc] at q
              rw [if_pos (by omega)]; exact hv
          generalize (if zwr τ 32 f (τ 32 f + v) 28 c < v then zwr τ 32 f (τ 32 f + v) 28 c else v) = V at eV ⊢
          rw [← eV] at ih'
          refine c_pay27 hβ h1 (by omega) hcn ?_ ?_ o.2.1 ?_ ?_ (fun g hg => ?_) (by omega) ih'
          · show V.toInt ≤ (wsA β 1 a).1 c
            rw [eV]; split <;> omega
          · show (wsA β 1 a).1 c ≤ _
            omega
          · show (wsA β 1 a).2.1 c ≤ _
            omega
          · show (wsA β 1 a).2.2.2.1 ≤ _
            omega
          · have := hw.2.1 g hg
            have := hw.cash hg
            show -2000000 ≤ (wsA β 1 a).2.2.1 g + (if g = f then bB β 1 a else 0) ∧ (wsA β 1 a).2.2.1 g + (if g = f then bB β 1 a else 0) ≤ 2000000
            split <;> omega
        · exfalso
          rw [zwr_rne (by decide), hτ.1.1 1 (by decide), e3, tin hc3] at p
          rw [hc, tin hc3] at q15
          omega
  exact L na 0 (by omega) σ h
theorem c_rankOfKind27 {G : zGT} {d : Nat} {σ : zMem} {Φ : Int32 → zMem → Prop} {k : Int32} (h : Φ (rkOf k) σ) : CTI G d Y_X10_rankOfKind [.inl k] σ Φ := by
  refine en_X10_rankOfKind ?_
  unfold rkOf at h
  by_cases g2 : k = 2
  · subst g2
    rw [if_pos rfl]
    exact h
  by_cases g3 : k = 3
  · subst g3
    rw [if_neg g2, if_pos rfl]
    exact h
  by_cases g4 : k = 4
  · subst g4
    rw [if_neg g2, if_neg g3, if_pos rfl]
    exact h
  rw [if_neg g2, if_neg g3, if_neg g4]
  rw [if_neg (fun q => g4 (by rw [fa_eq, ti4]; exact q)), if_neg (fun q => g2 (by rw [fa_eq, ti2]; exact q)), if_neg (fun q => g3 (by rw [fa_eq, ti3]; exact q))] at h
  exact h
theorem c_begin27 {G : zGT} {d : Nat} {β : zMem} {Φ : zMem → Prop} (hβ : Rany β) (hp : ∀ σ', XS27 β 0 (ws0 β) σ' → Φ σ') : CTV G (d + 2) Y_X10_begin [.inr (.inr 27), .inl (β 72 0)] β Φ := by
  have n24 := bN_24 hβ
  obtain ⟨⟨k1, k2, k3, k4, k5, k6, k7, k8, k9⟩, kas, kcl, kda, kdh, kpl, kkp, ksh, kwt, ktp, klw, ksd, kw0, kw1⟩ := id hβ
  obtain ⟨e3, b3, u3⟩ := id k3
  have en8 : ∀ τ : zMem, XF27 β τ → τ 1 6 = nI (bN β) := by
    intro τ ht
    rw [ht.1 1 (by decide), e3]
    exact nI_of_toInt (by omega) (by unfold bN; omega)
  refine en_X10_begin_i27 ?_
  rintro _ rfl
  rintro _ rfl
  have L33 : ∀ m c : Nat, c + m = bN β → ∀ τ : zMem, XF27 β τ → τ 27 9 = 0 → τ 27 10 = 0 → (∀ f : Nat, f < 6 → τ 32 f = 0) → (∀ i : Nat, i < c → (τ 28 i).toInt = bA β i ∧ τ 29 i = 0 ∧ τ 30 i = rkOf (β 78 i) ∧ τ 31 i = hfOf β i) →
      WJ G M_X10_begin (d + 2) (RV Φ) 33 [some (.inr (.inr 27)), some (.inl (β 72 0)), some (.inl (nI c)), none] [] τ := by
    intro m
    induction m with
    | zero =>
      intro c hc τ t1 t2 t3 t4 t5
      refine rg_X10_begin_i27_33 ?_
      have : c = bN β := by omega
      subst this
      rw [en8 τ t1, if_pos (nI_le (by omega) (by omega))]
      refine hp τ ⟨t1, t2, fun i hi => (t5 i hi).2.2, fun i hi => ?_, fun f hf => ?_, ?_, fun k hk => ?_⟩
      · obtain ⟨w1, w2, -⟩ := t5 i hi
        exact ⟨w1, by rw [w2]; rfl⟩
      · rw [t4 f hf]; rfl
      · rw [t3]; rfl
      · exact absurd hk (Nat.not_lt_zero k)
    | succ m ih =>
      intro c hc τ t1 t2 t3 t4 t5
      refine rg_X10_begin_i27_33 ?_
      rw [en8 τ t1, if_neg (nI_ge (by omega) (by omega)), nI_1]
      have hc' : (c : Int) < (β 72 8).toInt := (bN_c hβ).1 (by omega)
      have vc : vp_in (nI c) 24 := vin (by omega)
      have f72 : τ 72 = β 72 := t1.1 72 (by decide)
      obtain ⟨hr1, hr2⟩ := bH_rng hβ (show c < bN β by omega)
      refine cr_holderOn (hi := 9 + (β 72 1).toInt) (by rw [f72, t1.1 11 (by decide), t1.1 12 (by decide), t1.1 13 (by decide), t1.1 87 (by decide), t1.1 88 (by decide), t1.1 89 (by decide)]; exact kdh) (by rw [f72]; exact hc') (by rw [f72]; exact u3) ?_
      refine cr_amountOn (by rw [f72, t1.1 7 (by decide), t1.1 8 (by decide), t1.1 9 (by decide), t1.1 84 (by decide), t1.1 85 (by decide), t1.1 86 (by decide)]; exact kda) (by rw [f72]; exact hc') (by rw [f72]; exact u3) ?_
      rw [t1.1 84 (by decide), t1.1 85 (by decide), t1.1 86 (by decide), t1.1 87 (by decide), t1.1 88 (by decide), t1.1 89 (by decide), cln (show c < 2147483648 by omega)]
      refine ⟨vc, ?_⟩
      rintro _ rfl
      refine ⟨vc, ?_⟩
      rintro _ rfl
      refine ⟨vc, ?_⟩
      simp only [zwr_rne, ne_eq, Nat.reduceEqDiff, not_false_eq_true]
      rw [t1.1 2 (by decide), (kcl.1 c hc').1]
      refine c_rankOfKind27 ?_
      refine ⟨vc, ?_⟩
      rintro _ rfl
      have fin : ∀ w : Int32, w = hfOf β c → WJ G M_X10_begin (d + 2) (RV Φ) 33 [some (.inr (.inr 27)), some (.inl (β 72 0)), some (.inl (nI (c + 1))), none] [] (zwr (zwr (zwr (zwr τ 28 c (amtS (β 72 0) (β 84) (β 85) (β 86) c)) 29 c 0) 30 c (rkOf (β 78 c))) 31 c w) := by
        intro w hw
        refine ih (c + 1) (by omega) _ ((((t1.wr (by omega)).wr (by omega)).wr (by omega)).wr (by omega)) ?_ ?_ ?_ ?_
        · simp only [zwr_rne, zwr_req, upd_ne, upd_eq, ne_eq, Nat.reduceEqDiff, not_false_eq_true]; exact t2
        · simp only [zwr_rne, zwr_req, upd_ne, upd_eq, ne_eq, Nat.reduceEqDiff, not_false_eq_true]; exact t3
        · simp only [zwr_rne, zwr_req, upd_ne, upd_eq, ne_eq, Nat.reduceEqDiff, not_false_eq_true]; exact t4
        · intro i hi
          simp only [zwr_rne, zwr_req, upd_ne, upd_eq, ne_eq, Nat.reduceEqDiff, not_false_eq_true]
          by_cases e : i = c
          · subst e; rw [upd_eq, upd_eq, upd_eq, upd_eq]; exact ⟨rfl, rfl, rfl, hw⟩
          · rw [upd_ne e, upd_ne e, upd_ne e, upd_ne e]; exact t5 i (by omega)
      have hb : (hldS (β 72 0) (β 87) (β 88) (β 89) c).toInt = bH β c := rfl
      refine zle (fun g => ⟨vc, ?_⟩) (fun g => ⟨vc, ?_⟩)
      · rintro _ rfl
        refine fin _ ?_
        unfold hfOf
        rw [if_neg (by rw [ti10, hb] at g; omega)]
      · rintro _ rfl
        refine fin _ ?_
        unfold hfOf
        rw [if_pos (by rw [ti10, hb] at g; omega)]
  have L12 : ∀ m f : Nat, f + m = 6 → ∀ τ : zMem, XF27 β τ → τ 27 9 = 0 → τ 27 10 = 0 → (∀ i : Nat, i < f → τ 32 i = 0) →
      WJ G M_X10_begin (d + 2) (RV Φ) 12 [some (.inr (.inr 27)), some (.inl (β 72 0)), some (.inl (nI f)), none] [] τ := by
    intro m
    induction m with
    | zero =>
      intro f hf τ t1 t2 t3 t4
      refine rg_X10_begin_i27_12 ?_
      have : f = 6 := by omega
      subst this
      rw [if_pos (by decide)]
      exact L33 (bN β) 0 (by omega) τ t1 t2 t3 t4 (fun i hi => by omega)
    | succ m ih =>
      intro f hf τ t1 t2 t3 t4
      refine rg_X10_begin_i27_12 ?_
      have q6 : ¬ (nI 6 ≤ nI f) := nI_ge (by omega) (by omega)
      rw [if_neg (show ¬ ((6 : Int32) ≤ nI f) from q6), nI_1, cln (by omega)]
      refine ⟨vin (by omega), ?_⟩
      rintro _ rfl
      refine ih (f + 1) (by omega) _ (t1.wr (by omega)) ?_ ?_ ?_
      · simp only [zwr_rne, zwr_req, upd_ne, upd_eq, ne_eq, Nat.reduceEqDiff, not_false_eq_true]; exact t2
      · simp only [zwr_rne, zwr_req, upd_ne, upd_eq, ne_eq, Nat.reduceEqDiff, not_false_eq_true]; exact t3
      · intro i hi
        simp only [zwr_rne, zwr_req, upd_ne, upd_eq, ne_eq, Nat.reduceEqDiff, not_false_eq_true]
        by_cases e : i = f
        · subst e; rw [upd_eq]
        · rw [upd_ne e]; exact t4 i (by omega)
  refine L12 6 0 rfl _ (((XF27.refl β).wr (by omega)).wr (by omega)) ?_ ?_ (fun i hi => by omega)
  · simp only [zwr_rne, zwr_req, upd_ne, upd_eq, ne_eq, Nat.reduceEqDiff, not_false_eq_true]
  · simp only [zwr_rne, zwr_req, upd_ne, upd_eq, ne_eq, Nat.reduceEqDiff, not_false_eq_true]
theorem c_windUp27 {G : zGT} {d : Nat} {β : zMem} {Φ : zMem → Prop} (hβ : Rany β)
    (hp : ∀ σ', XS27 β (wsLoop (bR β) (bH β) (β 72 1).toInt.toNat (bN β) 60 0 (wsA β 1 (β 72 2).toInt.toNat)).1 (wsLoop (bR β) (bH β) (β 72 1).toInt.toNat (bN β) 60 0 (wsA β 1 (β 72 2).toInt.toNat)).2 σ' → σ' 27 11 = 1 → Φ σ') : CTV G (d + 4) Y_X10_windUp [.inr (.inr 27), .inl (β 72 1), .inl (β 72 0)] β Φ := by
  have n24 := bN_24 hβ
  obtain ⟨⟨k1, k2, k3, k4, k5, k6, k7, k8, k9⟩, -⟩ := id hβ
  obtain ⟨-, b1, u1⟩ := id k1
  obtain ⟨-, b2, u2⟩ := id k2
  have wa := WI.assets (s := 1) hβ (β 72 2).toInt.toNat (by omega)
  obtain ⟨fm, hfm, hfm2, hfm3⟩ := num_of b1 u1
  have tfm : (β 72 1).toInt.toNat = fm := by rw [hfm, tin hfm3]; omega
  rw [tfm] at hp
  generalize hna : (β 72 2).toInt.toNat = na at hp wa
  have fin : ∀ (rd : Nat) (S : zWS) (τ : zMem), XS27 β rd S τ → XS27 β rd S (zwr τ 27 11 1) ∧ zwr τ 27 11 1 27 11 = 1 := by
    intro rd S τ hτ
    obtain ⟨m1, m2, m0, m3⟩ := hτ
    refine ⟨⟨m1.wr (by omega), ?_, ?_, ?_⟩, zwr_same _ _ _ _⟩
    · simp only [zwr_rne, zwr_req, upd_ne, upd_eq, ne_eq, Nat.reduceEqDiff, not_false_eq_true]; exact m2
    · simp only [zwr_rne, zwr_req, upd_ne, upd_eq, ne_eq, Nat.reduceEqDiff, not_false_eq_true]; exact m0
    · simp only [zwr_rne, zwr_req, upd_ne, upd_eq, ne_eq, Nat.reduceEqDiff, not_false_eq_true]; exact m3
  have L40 : ∀ (rd rows0 : Nat) (S0 : zWS), rd ≤ 60 → rows0 ≤ 2400000 → WI (bN β) (100000 * na) S0 → (∀ τ', XS27 β rd (wsRound (bR β) (bH β) fm (bN β) rd S0) τ' → (if (wsRound (bR β) (bH β) fm (bN β) rd S0).2.2.2.1 ≤ rows0 then WJ G M_X10_windUp (d + 4) (RV Φ) 14 [some (.inr (.inr 27)), some (.inl (nI fm)), none, some (.inl 0), some (.inl (nI (rd + 1))), none, none] [] τ' else WJ G M_X10_windUp (d + 4) (RV Φ) 14 [some (.inr (.inr 27)), some (.inl (nI fm)), none, some (.inl 1), some (.inl (nI (rd + 1))), none, none] [] τ')) →
      ∀ m f : Nat, f + m = fm → ∀ (τ : zMem), XS27 β rd (wsRound (bR β) (bH β) f (bN β) rd S0) τ →
      WJ G M_X10_windUp (d + 4) (RV Φ) 40 [some (.inr (.inr 27)), some (.inl (nI fm)), none, none, some (.inl (nI rd)), some (.inl (nI rows0)), some (.inl (nI f))] [] τ := by
    intro rd rows0 S0 hrd hr0 hw0 H m
    induction m with
    | zero =>
      intro f hf τ hτ
      refine rg_X10_windUp_i27_40 ?_
      have : f = fm := by omega
      subst this
      rw [if_pos (nI_le (by omega) (by omega)), nI_1]
      have hw := WI.round (rd := rd) (hd := bH β) (ir := bR β) hw0 f (by omega)
      have rr := hw.rows n24
      have e40 : (τ 27 10).toInt = ((wsRound (bR β) (bH β) f (bN β) rd S0).2.2.2.1 : Int) := hτ.2.2.2.2.2.1
      have HH := H τ hτ
      by_cases g : (wsRound (bR β) (bH β) f (bN β) rd S0).2.2.2.1 ≤ rows0
      · rw [if_pos g] at HH
        rw [if_pos (by rw [fa_le, e40, tin (by omega)]; omega)]
        exact HH
      · rw [if_neg g] at HH
        rw [if_neg (by rw [fa_le, e40, tin (by omega)]; omega)]
        exact HH
    | succ m ih =>
      intro f hf τ hτ
      refine rg_X10_windUp_i27_40 ?_
      have q6 : ¬ (nI 6 ≤ nI f) := nI_ge (by omega) (by omega)
      rw [if_neg (nI_ge (by omega) (by omega)), if_neg (show ¬ ((6 : Int32) ≤ nI f) from q6)]
      have hw := WI.round (rd := rd) (hd := bH β) (ir := bR β) hw0 f (by omega)
      refine c_payOut27 hβ hw (by omega) (by omega) hrd hτ (fun τ' h' => ?_)
      rw [nI_1]
      exact ih (f + 1) (by omega) τ' h'
  have L14 : ∀ (k rd : Nat) (S : zWS), rd + k = 60 → WI (bN β) (100000 * na) S → (∀ σ', XS27 β (wsLoop (bR β) (bH β) fm (bN β) k rd S).1 (wsLoop (bR β) (bH β) fm (bN β) k rd S).2 σ' → σ' 27 11 = 1 → Φ σ') → ∀ (τ : zMem), XS27 β rd S τ →
      WJ G M_X10_windUp (d + 4) (RV Φ) 14 [some (.inr (.inr 27)), some (.inl (nI fm)), none, some (.inl 1), some (.inl (nI (rd + 1))), none, none] [] τ := by
    intro k
    induction k with
    | zero =>
      intro rd S hr hw H τ hτ
      refine rg_X10_windUp_i27_14 ?_
      have : rd = 60 := by omega
      subst this
      rw [if_pos (by decide)]
      rintro _ rfl
      obtain ⟨f1, f2⟩ := fin _ _ _ hτ
      exact H _ f1 f2
    | succ k ih =>
      intro rd S hr hw H τ hτ
      refine rg_X10_windUp_i27_14 ?_
      rw [if_neg (by rw [fa_lt, ti60, tin (by omega)]; omega), if_neg (by decide)]
      rintro _ rfl
      have rr := hw.rows n24
      have e40 : τ 27 10 = nI S.2.2.2.1 := nI_of_toInt (by omega) hτ.2.2.2.2.2.1
      have ms : XS27 β (rd + 1) S (zwr τ 27 9 (nI (rd + 1))) := by
        obtain ⟨m1, m2, m0, m3⟩ := hτ
        refine ⟨m1.wr (by omega), zwr_same _ _ _ _, ?_, ?_⟩
        · simp only [zwr_rne, zwr_req, upd_ne, upd_eq, ne_eq, Nat.reduceEqDiff, not_false_eq_true]; exact m0
        · simp only [zwr_rne, zwr_req, upd_ne, upd_eq, ne_eq, Nat.reduceEqDiff, not_false_eq_true]
          exact m3
      rw [e40]
      refine L40 (rd + 1) S.2.2.2.1 S (by omega) (by omega) hw (fun τ' h' => ?_) fm 0 (by omega) _ ms
      unfold wsLoop at H
      by_cases g : S.2.2.2.1 < (wsRound (bR β) (bH β) fm (bN β) (rd + 1) S).2.2.2.1
      · rw [if_neg (by omega)]
        simp only [if_pos g] at H
        exact ih (rd + 1) _ (by omega) (WI.round hw fm (by omega)) H τ' h'
      · rw [if_pos (by omega)]
        simp only [if_neg g] at H
        refine rg_X10_windUp_i27_14 ?_
        obtain ⟨f1, f2⟩ := fin _ _ _ h'
        split
        · rintro _ rfl
          exact H _ f1 f2
        · rw [if_pos rfl]
          rintro _ rfl
          exact H _ f1 f2
  refine en_X10_windUp_i27 ?_
  rw [hfm]
  refine c_begin27 hβ (fun τ hτ => ?_)
  refine c_payCharged27 hβ hτ (fun τ' h' => ?_)
  rw [hna] at h'
  exact L14 60 0 _ (by omega) wa hp τ' h'
