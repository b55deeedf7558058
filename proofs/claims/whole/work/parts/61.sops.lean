theorem pks_mono {P : Nat → Bool} {c : Nat} (h : pkd P c = true) : ∀ n : Nat, c < n → (pks P c).1 < (pks P n).1
  | 0, hc => absurd hc (Nat.not_lt_zero c)
  | n + 1, hc => by
    by_cases e : c = n
    · subst e
      rw [pks_y h]
      exact Nat.lt_succ_self _
    · have i := pks_mono h n (by omega)
      by_cases g : pkd P n = true
      · rw [pks_y g]
        show _ < (pks P n).1 + 1
        omega
      · rw [pks_n g]; exact i
theorem cq_step {P : Nat → Bool} {s c : Nat} (h : Qs P s c = true) : cq P s (c + 1) = cq P s c + 1 := by
  show isum _ c + (if Qs P s c = true then (1 : Int) else 0) = _
  rw [if_pos h]
  rfl
theorem cq_mono (P : Nat → Bool) (s c : Nat) : ∀ u : Nat, cq P s c ≤ cq P s (c + u)
  | 0 => Int.le_refl _
  | u + 1 => by
    have i := cq_mono P s c u
    have e : cq P s (c + (u + 1)) = cq P s (c + u) + (if Qs P s (c + u) = true then (1 : Int) else 0) := rfl
    have b : 0 ≤ (if Qs P s (c + u) = true then (1 : Int) else 0) := by split <;> omega
    omega
theorem cq_uniq {P : Nat → Bool} {s c c' : Nat} (h : Qs P s c = true) (h' : Qs P s c' = true) (e : cq P s c = cq P s c') : c = c' := by
  by_cases g : c < c'
  · have a := cq_step h
    have b := cq_mono P s (c + 1) (c' - (c + 1))
    rw [show c + 1 + (c' - (c + 1)) = c' by omega] at b
    omega
  · by_cases g2 : c' < c
    · have a := cq_step h'
      have b := cq_mono P s (c' + 1) (c - (c' + 1))
      rw [show c' + 1 + (c - (c' + 1)) = c by omega] at b
      omega
    · omega
/-- the i-th one of a set -/
theorem c_member {G : zGT} {d : Nat} {Φ : Int32 → zMem → Prop} {β σ : zMem} {P : Nat → Bool} {x : Nat} {v : Int32} (hβ : Rall β) (hi : SI β P σ) (h7 : σ 64 7 = nI x) (hx : x < 1024)
    (h1 : ∀ c, c < bN β → Qs P x c = true → cq P x c = v.toInt → Φ (nI c) σ) (h0 : (∀ c, c < bN β → Qs P x c = true → cq P x c ≠ v.toInt) → Φ (-1000000005) σ) : CTI G d Y_X7_member [.inr (.inr 64), .inl v] σ Φ := by
  obtain ⟨o1, o2, o3⟩ := pks_ok P (bN β)
  have n24 := bN_24 hβ.any
  refine en_X7_member ?_
  have L : ∀ m i : Nat, i + m = (pks P (bN β)).1 → (∀ j, j < i → x.testBit j = true → sms x (fun _ => 1) j ≠ v.toInt) → ∀ a : Int32, a.toInt = sms x (fun _ => 1) i → WJ G M_X7_member d (RI Φ) 4 [some (.inr (.inr 64)), some (.inl v), some (.inl a), some (.inl (nI i))] [] σ := by
    intro m
    induction m with
    | zero =>
      intro i hii hn a ha
      refine rg_X7_member_4 ?_
      have : i = (pks P (bN β)).1 := by omega
      subst this
      rw [hi.2.1, if_pos (nI_le (by omega) (by omega))]
      refine h0 (fun c hc q e => ?_)
      have pc : pkd P c = true ∧ x.testBit (pks P c).1 = true := by
        unfold Qs at q
        rw [Bool.and_eq_true] at q
        exact q
      rw [cq_eq] at e
      exact hn _ (pks_mono pc.1 _ hc) pc.2 e
    | succ m ih =>
      intro i hii hn a ha
      refine rg_X7_member_4 ?_
      have lt : i < (pks P (bN β)).1 := by omega
      obtain ⟨c1, c2, c3, c4⟩ := o3 i lt
      have ih' := ih (i + 1) (by omega)
      rw [sms_s] at ih'
      obtain ⟨s0, s1⟩ := sms_rng (s := x) (g := fun _ => 1) (B := 1) (t := i) (fun _ _ => by omega) (by omega)
      rw [hi.2.1, if_neg (nI_ge (by omega) (by omega)), h7, nI_1]
      by_cases g : x.testBit i = true
      · rw [if_pos ((bt_test (by omega) (by omega)).2 g)]
        simp only [if_pos g] at ih'
        refine zeq (fun e => ?_) (fun e => ?_)
        · rw [cln (by omega), hi.2.2 i lt |>.1]
          refine ⟨vin (by omega), h1 _ c1 ?_ ?_⟩
          · unfold Qs
            rw [c3, c4, g]; rfl
          · rw [cq_eq, c4, ← ha, e]
        · refine ih' (fun j hj hb => ?_) _ ?_
          · by_cases q : j = i
            · subst q
              rw [← ha]; exact e
            · exact hn j (by omega) hb
          · rw [fb_addI (by rw [ti1]; omega) (by rw [ti1]; omega), ha, ti1]
      · rw [if_neg (fun q => g ((bt_test (by omega) (by omega)).1 q))]
        simp only [if_neg g] at ih'
        refine ih' (fun j hj hb => ?_) a (by rw [ha, Int.add_zero])
        by_cases q : j = i
        · subst q
          exact absurd hb g
        · exact hn j (by omega) hb
  exact L (pks P (bN β)).1 0 (by omega) (fun j hj => absurd hj (Nat.not_lt_zero j)) 0 rfl
theorem m_bitAt {G : zGT} {d : Nat} {Φ : Int32 → zMem → Prop} {σ : zMem} {X : Nat} {v : Int32} (hX : X < 2147483648) (hv : 0 ≤ v.toInt)
    (h1 : ∀ c, c < 24 → X.testBit c = true → sms X (fun _ => 1) c = v.toInt → Φ (nI c) σ) (h0 : (∀ c, c < 24 → X.testBit c = true → sms X (fun _ => 1) c ≠ v.toInt) → Φ (-1000000005) σ) : CTI G d Y_X12_bitAt [.inl (nI X), .inl v] σ Φ := by
  refine en_X12_bitAt ?_
  have rv := fb_rng v
  have L : ∀ m i : Nat, i + m = 24 → (∀ j, j < i → X.testBit j = true → sms X (fun _ => 1) j ≠ v.toInt) → ∀ a : Int32, a.toInt = v.toInt - sms X (fun _ => 1) i → 0 ≤ a.toInt → WJ G M_X12_bitAt d (RI Φ) 4 [some (.inl (nI X)), none, some (.inl a), some (.inl (nI i))] [] σ := by
    intro m
    induction m with
    | zero =>
      intro i hi hn a ha a0
      refine rg_X12_bitAt_4 ?_
      have : i = 24 := by omega
      subst this
      rw [if_pos (by decide)]
      exact h0 hn
    | succ m ih =>
      intro i hi hn a ha a0
      refine rg_X12_bitAt_4 ?_
      have q24 : ¬ (nI 24 ≤ nI i) := nI_ge (by omega) (by omega)
      have ih' := ih (i + 1) (by omega)
      rw [sms_s] at ih'
      obtain ⟨s0, s1⟩ := sms_rng (s := X) (g := fun _ => 1) (B := 1) (t := i) (fun _ _ => by omega) (by omega)
      rw [if_neg (show ¬ ((24 : Int32) ≤ nI i) from q24), nI_1]
      by_cases g : X.testBit i = true
      · rw [if_pos ((bt_test hX (by omega)).2 g)]
        simp only [if_pos g] at ih'
        refine zeq (fun e => ?_) (fun e => ?_)
        · rw [ti0] at e
          exact h1 i (by omega) g (by omega)
        · rw [ti0] at e
          have ea : (a + -1).toInt = a.toInt - 1 := by
            have ra := fb_rng a
            rw [fb_addI (by rw [tim1]; omega) (by rw [tim1]; omega), tim1]; omega
          refine ih' (fun j hj hb => ?_) _ ?_ ?_
          · by_cases q : j = i
            · subst q; omega
            · exact hn j (by omega) hb
          · rw [ea]; omega
          · rw [ea]; omega
      · rw [if_neg (fun q => g ((bt_test hX (by omega)).1 q))]
        simp only [if_neg g] at ih'
        refine ih' (fun j hj hb => ?_) a (by omega) a0
        by_cases q : j = i
        · subst q
          exact absurd hb g
        · exact hn j (by omega) hb
  exact L 24 0 (by omega) (fun j hj => absurd hj (Nat.not_lt_zero j)) v (by show _ = v.toInt - 0; omega) hv
/-- the same of bits of claims -/
theorem m_bitAtS {G : zGT} {d : Nat} {Φ : Int32 → zMem → Prop} {β σ : zMem} {P : Nat → Bool} {x : Nat} {v : Int32} (hβ : Rall β) (hv : 0 ≤ v.toInt)
    (h1 : ∀ c, c < bN β → Qs P x c = true → cq P x c = v.toInt → Φ (nI c) σ) (h0 : (∀ c, c < bN β → Qs P x c = true → cq P x c ≠ v.toInt) → Φ (-1000000005) σ) : CTI G d Y_X12_bitAt [.inl (nI (bYs β P x)), .inl v] σ Φ := by
  have n24 := bN_24 hβ.any
  have e : ∀ c, c ≤ bN β → sms (bYs β P x) (fun _ => 1) c = cq P x c := by
    intro c hc
    unfold sms cq
    refine isum_congr c (fun i hi => ?_)
    rw [bYs_bit (by omega)]
  have lt : ∀ c, (bYs β P x).testBit c = true → c < bN β := by
    intro c q
    refine Classical.byContradiction (fun g => ?_)
    have z : (bYs β P x).testBit c = false := Nat.testBit_lt_two_pow (Nat.lt_of_lt_of_le (show bYs β P x < 2 ^ bN β from sob_lt _ _) (Nat.pow_le_pow_right (by decide) (by omega)))
    rw [z] at q
    exact absurd q (by decide)
  refine m_bitAt (bYs_24 hβ P x) hv (fun c hc q w => ?_) (fun H => ?_)
  · have l := lt c q
    rw [bYs_bit l] at q
    rw [e c (by omega)] at w
    exact h1 c l q w
  · refine h0 (fun c hc q w => ?_)
    refine H c (by omega) (by rw [bYs_bit hc]; exact q) ?_
    rw [e c (by omega)]
    exact w
theorem lt_1024 {P : Nat → Bool} {n x : Nat} (h : x < 2 ^ (pks P n).1) : x < 1024 := by
  have := pow_10 (pks_ok P n).1
  omega
theorem m_noPrice {G : zGT} {d : Nat} {Φ : Int32 → zMem → Prop} {σ : zMem} {v1 v2 : Int32} (q : v1.toInt < 0 ∨ 5 < v1.toInt ∨ v2.toInt < 1 ∨ 200 < v2.toInt) (h : Φ (-1000000001) σ) : CTI G (d + 2) Y_X12_buy [.inr (.inr 72), .inl v1, .inl v2] σ Φ := by
  refine en_X12_buy ?_
  refine m_isClass (fun w1 w2 => ?_) (fun _ => ?_)
  · rw [if_neg (by decide)]
    refine m_isIn (fun w3 w4 => ?_) (fun _ => ?_)
    · rw [ti1] at w3
      rw [ti200] at w4
      omega
    · rw [if_pos rfl]; exact h
  · rw [if_pos rfl]; exact h
theorem P_buy {G : zGT} {d : Nat} {v1 v2 : Int32} : Pair G (d + 8) Y_X11_buy Y_X12_buy [.inl v1, .inl v2] := by
  intro σ h
  refine en_X11_buy ?_
  refine c_isClass (fun w1 w2 => ?_) (fun w => ?_)
  rotate_left
  · rw [if_pos rfl]; exact m_noPrice (by omega) ⟨rfl, h⟩
  rw [if_neg (by decide)]
  refine c_isPrice (fun w3 w4 => ?_) (fun w => ?_)
  rotate_left
  · rw [if_pos rfl]; exact m_noPrice (by omega) ⟨rfl, h⟩
  rw [if_neg (by decide)]
  obtain ⟨k, rfl, hk, hk3⟩ := num_of w1 w2
  obtain ⟨w, rfl, hw, hw3⟩ := num_of (show 0 ≤ v2.toInt by omega) w4
  refine c_findPurchase (PB.refl h) h (by omega) (by omega) (fun σ1 i1 b1 => ?_)
  have M : ∀ r : Int32, (bsB σ k w (2 ^ (pks (bPb σ k) (bN σ)).1) = none → r = -1000000002) → (∀ x, bsB σ k w (2 ^ (pks (bPb σ k) (bN σ)).1) = some x → r.toInt = coS σ (bPb σ k) w x) →
      CTI G (d + 8) Y_X12_buy [.inr (.inr 72), .inl (nI k), .inl (nI w)] σ1 (fun r' σ2 => r = r' ∧ Rall σ2) := by
    intro r rn rs
    refine en_X12_buy ?_
    refine m_isClass (fun _ _ => ?_) (fun q => by omega)
    rw [if_neg (by decide)]
    refine m_isIn (fun _ _ => ?_) (fun q => by rw [ti1, ti200] at q; omega)
    rw [if_neg (by decide)]
    refine m_purchase i1.1 h (by omega) (fun σ2 v hb2 mb => ?_)
    cases hbs : bsB σ k w (2 ^ (pks (bPb σ k) (bN σ)).1) with
    | none =>
      rw [hbs] at mb
      have mb : v = -1 := mb
      rw [mb, if_neg (by decide)]
      exact ⟨rn hbs, hb2.2⟩
    | some x =>
      rw [hbs] at mb
      obtain ⟨m1, m2⟩ := mb
      have := bYs_24 h (bPb σ k) x
      rw [m1, if_pos (by rw [fa_le, ti0, tin (by omega)]; omega)]
      exact ⟨by rw [fa_eq, rs x hbs, m2], hb2.2⟩
  cases hbs : bsB σ k w (2 ^ (pks (bPb σ k) (bN σ)).1) with
  | none =>
    rw [hbs] at b1 M
    have b1 : σ1 64 6 = 0 := b1
    rw [if_pos b1]
    exact M _ (fun _ => rfl) (fun x q => by cases q)
  | some x =>
    rw [hbs] at b1 M
    obtain ⟨t6, t7, t8, t9⟩ := b1
    rw [if_neg (by rw [t6]; decide)]
    refine M _ (fun q => by cases q) (fun y q => ?_)
    injection q with q
    rw [← q]
    exact t9
theorem m_noBought {G : zGT} {d : Nat} {Φ : Int32 → zMem → Prop} {σ : zMem} {v1 v2 v3 : Int32} (q : v1.toInt < 0 ∨ 5 < v1.toInt ∨ v2.toInt < 1 ∨ 200 < v2.toInt ∨ v3.toInt < 0) (h : Φ (-1000000001) σ) : CTI G (d + 2) Y_X12_bought [.inr (.inr 72), .inl v1, .inl v2, .inl v3] σ Φ := by
  refine en_X12_bought ?_
  refine m_isClass (fun w1 w2 => ?_) (fun _ => ?_)
  · rw [if_neg (by decide)]
    refine m_isIn (fun w3 w4 => ?_) (fun _ => ?_)
    · rw [ti1] at w3
      rw [ti200] at w4
      rw [if_neg (by decide), if_neg (by rw [fa_le, ti0]; omega)]
      exact h
    · rw [if_pos rfl]; exact h
  · rw [if_pos rfl]; exact h
theorem P_bought {G : zGT} {d : Nat} {v1 v2 v3 : Int32} : Pair G (d + 8) Y_X11_bought Y_X12_bought [.inl v1, .inl v2, .inl v3] := by
  intro σ h
  refine en_X11_bought ?_
  refine c_isClass (fun w1 w2 => ?_) (fun w => ?_)
  rotate_left
  · rw [if_pos rfl]; exact m_noBought (by omega) ⟨rfl, h⟩
  rw [if_neg (by decide)]
  refine c_isPrice (fun w3 w4 => ?_) (fun w => ?_)
  rotate_left
  · rw [if_pos rfl]; exact m_noBought (by omega) ⟨rfl, h⟩
  rw [if_neg (by decide)]
  refine zle (fun w5 => ?_) (fun w5 => ?_)
  rotate_left
  · rw [ti0] at w5
    exact m_noBought (by omega) ⟨rfl, h⟩
  rw [ti0] at w5
  obtain ⟨k, rfl, hk, hk3⟩ := num_of w1 w2
  obtain ⟨w, rfl, hw, hw3⟩ := num_of (show 0 ≤ v2.toInt by omega) w4
  refine c_findPurchase (PB.refl h) h (by omega) (by omega) (fun σ1 i1 b1 => ?_)
  have M : ∀ r : Int32, (bsB σ k w (2 ^ (pks (bPb σ k) (bN σ)).1) = none → r = -1000000002) →
      (∀ x, bsB σ k w (2 ^ (pks (bPb σ k) (bN σ)).1) = some x → (∀ c, c < bN σ → Qs (bPb σ k) x c = true → cq (bPb σ k) x c = v3.toInt → r = nI c) ∧ ((∀ c, c < bN σ → Qs (bPb σ k) x c = true → cq (bPb σ k) x c ≠ v3.toInt) → r = -1000000005)) →
      CTI G (d + 8) Y_X12_bought [.inr (.inr 72), .inl (nI k), .inl (nI w), .inl v3] σ1 (fun r' σ2 => r = r' ∧ Rall σ2) := by
    intro r rn rs
    refine en_X12_bought ?_
    refine m_isClass (fun _ _ => ?_) (fun q => by omega)
    rw [if_neg (by decide)]
    refine m_isIn (fun _ _ => ?_) (fun q => by rw [ti1, ti200] at q; omega)
    rw [if_neg (by decide), if_pos (by rw [fa_le, ti0]; omega)]
    refine m_purchase i1.1 h (by omega) (fun σ2 v hb2 mb => ?_)
    cases hbs : bsB σ k w (2 ^ (pks (bPb σ k) (bN σ)).1) with
    | none =>
      rw [hbs] at mb
      have mb : v = -1 := mb
      rw [mb, if_neg (by decide)]
      exact ⟨rn hbs, hb2.2⟩
    | some x =>
      rw [hbs] at mb
      obtain ⟨m1, m2⟩ := mb
      have := bYs_24 h (bPb σ k) x
      rw [m1, if_pos (by rw [fa_le, ti0, tin (by omega)]; omega)]
      exact m_bitAtS h w5 (fun c a b e => ⟨(rs x hbs).1 c a b e, hb2.2⟩) (fun q => ⟨(rs x hbs).2 q, hb2.2⟩)
  cases hbs : bsB σ k w (2 ^ (pks (bPb σ k) (bN σ)).1) with
  | none =>
    rw [hbs] at b1 M
    have b1 : σ1 64 6 = 0 := b1
    rw [if_pos b1]
    exact M _ (fun _ => rfl) (fun x q => by cases q)
  | some x =>
    have hx := bst_lt _ x hbs
    rw [Nat.zero_add] at hx
    rw [hbs] at b1 M
    obtain ⟨t6, t7, t8, t9⟩ := b1
    rw [if_neg (by rw [t6]; decide)]
    refine c_member h i1 t7 (lt_1024 hx) (fun c hc q e => ?_) (fun q => ?_)
    · refine M _ (fun q => by cases q) (fun y qy => ?_)
      injection qy with qy
      subst qy
      exact ⟨fun c' a b e' => by rw [cq_uniq q b (e.trans e'.symm)], fun w => absurd e (w c hc q)⟩
    · refine M _ (fun q => by cases q) (fun y qy => ?_)
      injection qy with qy
      subst qy
      exact ⟨fun c' a b e' => absurd e' (q c' a b), fun _ => rfl⟩
theorem m_noPart {G : zGT} {d : Nat} {Φ : Int32 → zMem → Prop} {σ : zMem} {v1 : Int32} (q : v1.toInt < 0 ∨ 5 < v1.toInt) (h : Φ (-1000000001) σ) : CTI G (d + 2) Y_X12_part [.inr (.inr 72), .inl v1] σ Φ := by
  refine en_X12_part ?_
  refine m_isClass (fun w1 w2 => by omega) (fun _ => ?_)
  rw [if_pos rfl]; exact h
theorem P_part {G : zGT} {d : Nat} {v1 : Int32} : Pair G (d + 8) Y_X11_part Y_X12_part [.inl v1] := by
  intro σ h
  refine en_X11_part ?_
  refine c_isClass (fun w1 w2 => ?_) (fun w => ?_)
  rotate_left
  · rw [if_pos rfl]; exact m_noPart w ⟨rfl, h⟩
  rw [if_neg (by decide)]
  obtain ⟨k, rfl, hk, hk3⟩ := num_of w1 w2
  refine c_findPart (PB.refl h) h (by omega) (fun σ1 i1 b1 => ?_)
  have pp := Nat.two_pow_pos (pks (bIn σ k) (bN σ)).1
  have M : ∀ r : Int32, (bsA σ k (2 ^ (pks (bIn σ k) (bN σ)).1 - 1) = none → r = -1000000002) → (∀ x, bsA σ k (2 ^ (pks (bIn σ k) (bN σ)).1 - 1) = some x → r.toInt = cnS x) →
      CTI G (d + 8) Y_X12_part [.inr (.inr 72), .inl (nI k)] σ1 (fun r' σ2 => r = r' ∧ Rall σ2) := by
    intro r rn rs
    refine en_X12_part ?_
    refine m_isClass (fun _ _ => ?_) (fun q => by omega)
    rw [if_neg (by decide)]
    refine m_partOf i1.1 h (fun σ2 v hb2 mb => ?_)
    cases hbs : bsA σ k (2 ^ (pks (bIn σ k) (bN σ)).1 - 1) with
    | none =>
      rw [hbs] at mb
      have mb : v = -1 := mb
      rw [mb, if_neg (by decide)]
      exact ⟨rn hbs, hb2.2⟩
    | some x =>
      have hx := bst_lt _ x hbs
      rw [hbs] at mb
      have m1 : v = nI (bYs σ (bIn σ k) x) := mb
      have := bYs_24 h (bIn σ k) x
      rw [m1, if_pos (by rw [fa_le, ti0, tin (by omega)]; omega)]
      refine m_many this (fun v' hv' => ⟨?_, hb2.2⟩)
      rw [many_bYs h (by omega)] at hv'
      rw [fa_eq, rs x hbs, hv']
  cases hbs : bsA σ k (2 ^ (pks (bIn σ k) (bN σ)).1 - 1) with
  | none =>
    rw [hbs] at b1 M
    have b1 : σ1 64 6 = 0 := b1
    rw [if_pos b1]
    exact M _ (fun _ => rfl) (fun x q => by cases q)
  | some x =>
    rw [hbs] at b1 M
    obtain ⟨t6, t7, t8⟩ := b1
    rw [if_neg (by rw [t6]; decide)]
    refine M _ (fun q => by cases q) (fun y q => ?_)
    injection q with q
    rw [← q]
    exact t8
theorem m_noParted {G : zGT} {d : Nat} {Φ : Int32 → zMem → Prop} {σ : zMem} {v1 v2 : Int32} (q : v1.toInt < 0 ∨ 5 < v1.toInt ∨ v2.toInt < 0) (h : Φ (-1000000001) σ) : CTI G (d + 2) Y_X12_parted [.inr (.inr 72), .inl v1, .inl v2] σ Φ := by
  refine en_X12_parted ?_
  refine m_isClass (fun w1 w2 => ?_) (fun _ => ?_)
  · rw [if_neg (by decide), if_neg (by rw [fa_le, ti0]; omega)]
    exact h
  · rw [if_pos rfl]; exact h
theorem P_parted {G : zGT} {d : Nat} {v1 v2 : Int32} : Pair G (d + 8) Y_X11_parted Y_X12_parted [.inl v1, .inl v2] := by
  intro σ h
  refine en_X11_parted ?_
  refine c_isClass (fun w1 w2 => ?_) (fun w => ?_)
  rotate_left
  · rw [if_pos rfl]; exact m_noParted (by omega) ⟨rfl, h⟩
  rw [if_neg (by decide)]
  refine zle (fun w5 => ?_) (fun w5 => ?_)
  rotate_left
  · rw [ti0] at w5
    exact m_noParted (by omega) ⟨rfl, h⟩
  rw [ti0] at w5
  obtain ⟨k, rfl, hk, hk3⟩ := num_of w1 w2
  refine c_findPart (PB.refl h) h (by omega) (fun σ1 i1 b1 => ?_)
  have pp := Nat.two_pow_pos (pks (bIn σ k) (bN σ)).1
  have M : ∀ r : Int32, (bsA σ k (2 ^ (pks (bIn σ k) (bN σ)).1 - 1) = none → r = -1000000002) →
      (∀ x, bsA σ k (2 ^ (pks (bIn σ k) (bN σ)).1 - 1) = some x → (∀ c, c < bN σ → Qs (bIn σ k) x c = true → cq (bIn σ k) x c = v2.toInt → r = nI c) ∧ ((∀ c, c < bN σ → Qs (bIn σ k) x c = true → cq (bIn σ k) x c ≠ v2.toInt) → r = -1000000005)) →
      CTI G (d + 8) Y_X12_parted [.inr (.inr 72), .inl (nI k), .inl v2] σ1 (fun r' σ2 => r = r' ∧ Rall σ2) := by
    intro r rn rs
    refine en_X12_parted ?_
    refine m_isClass (fun _ _ => ?_) (fun q => by omega)
    rw [if_neg (by decide), if_pos (by rw [fa_le, ti0]; omega)]
    refine m_partOf i1.1 h (fun σ2 v hb2 mb => ?_)
    cases hbs : bsA σ k (2 ^ (pks (bIn σ k) (bN σ)).1 - 1) with
    | none =>
      rw [hbs] at mb
      have mb : v = -1 := mb
      rw [mb, if_neg (by decide)]
      exact ⟨rn hbs, hb2.2⟩
    | some x =>
      rw [hbs] at mb
      have m1 : v = nI (bYs σ (bIn σ k) x) := mb
      have := bYs_24 h (bIn σ k) x
      rw [m1, if_pos (by rw [fa_le, ti0, tin (by omega)]; omega)]
      exact m_bitAtS h w5 (fun c a b e => ⟨(rs x hbs).1 c a b e, hb2.2⟩) (fun q => ⟨(rs x hbs).2 q, hb2.2⟩)
  cases hbs : bsA σ k (2 ^ (pks (bIn σ k) (bN σ)).1 - 1) with
  | none =>
    rw [hbs] at b1 M
    have b1 : σ1 64 6 = 0 := b1
    rw [if_pos b1]
    exact M _ (fun _ => rfl) (fun x q => by cases q)
  | some x =>
    have hx := bst_lt _ x hbs
    rw [hbs] at b1 M
    obtain ⟨t6, t7, t8⟩ := b1
    rw [if_neg (by rw [t6]; decide)]
    refine c_member h i1 t7 (lt_1024 (by omega : x < 2 ^ (pks (bIn σ k) (bN σ)).1)) (fun c hc q e => ?_) (fun q => ?_)
    · refine M _ (fun q => by cases q) (fun y qy => ?_)
      injection qy with qy
      subst qy
      exact ⟨fun c' a b e' => by rw [cq_uniq q b (e.trans e'.symm)], fun w => absurd e (w c hc q)⟩
    · refine M _ (fun q => by cases q) (fun y qy => ?_)
      injection qy with qy
      subst qy
      exact ⟨fun c' a b e' => absurd e' (q c' a b), fun _ => rfl⟩
