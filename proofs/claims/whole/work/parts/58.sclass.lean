-- how many bits
def bc0 (x k : Int32) : Int32 := (x.toUInt32 >>> (k.toUInt32 &&& Int32.toUInt32 31)).toInt32
def bc1 (v : Int32) : Int32 := v - (bc0 v 1 &&& 1431655765)
def bc2 (x : Int32) : Int32 := (x &&& 858993459) + (bc0 x 2 &&& 858993459)
def bc3 (x : Int32) : Int32 := (x + bc0 x 4) &&& 252645135
def bc4 (x : Int32) : Int32 := x + bc0 x 8
def bc5 (x : Int32) : Int32 := (x + bc0 x 16) &&& 63
def bcf (v : Int32) : Int32 := bc5 (bc4 (bc3 (bc2 (bc1 v))))
theorem bcf_1024 : ∀ s, s < 1024 → (bcf (nI s)).toInt = sms s (fun _ => 1) 10 := by decide +kernel
theorem sms_cut {s t : Nat} {g : Nat → Int} (hs : s < 2 ^ t) : ∀ u : Nat, sms s g (t + u) = sms s g t
  | 0 => rfl
  | u + 1 => by
    have z : s.testBit (t + u) = false := Nat.testBit_lt_two_pow (Nat.lt_of_lt_of_le hs (Nat.pow_le_pow_right (by decide) (by omega)))
    show sms s g (t + u) + (if s.testBit (t + u) = true then g (t + u) else 0) = sms s g t
    rw [sms_cut hs u, z]
    simp
theorem c_bitCount {G : zGT} {d : Nat} {Φ : Int32 → zMem → Prop} {σ : zMem} {s : Nat} (hs : s < 1024) (h : ∀ v : Int32, v.toInt = sms s (fun _ => 1) 10 → Φ v σ) : CTI G d Y_J6_bitCount_0f7a4 [.inl (nI s)] σ Φ := by
  refine en_J6_bitCount_0f7a4 ?_
  exact h (bcf (nI s)) (bcf_1024 s hs)
-- the best of all sets
noncomputable def bst (less : Nat → Nat → Prop) (ok : Nat → Prop) (s0 : Nat) : Nat → Option Nat
  | 0 => none
  | m + 1 => @ite _ ((bst less ok s0 m = none ∨ ∃ x, bst less ok s0 m = some x ∧ less (s0 + m) x) ∧ ok (s0 + m)) (Classical.propDecidable _) (some (s0 + m)) (bst less ok s0 m)
theorem bst_y {less : Nat → Nat → Prop} {ok : Nat → Prop} {s0 m : Nat} (h : bst less ok s0 m = none ∨ ∃ x, bst less ok s0 m = some x ∧ less (s0 + m) x) (h2 : ok (s0 + m)) : bst less ok s0 (m + 1) = some (s0 + m) := by
  show @ite _ _ (Classical.propDecidable _) _ _ = _
  rw [if_pos ⟨h, h2⟩]
theorem bst_n {less : Nat → Nat → Prop} {ok : Nat → Prop} {s0 m : Nat} (h : ¬ ((bst less ok s0 m = none ∨ ∃ x, bst less ok s0 m = some x ∧ less (s0 + m) x) ∧ ok (s0 + m))) : bst less ok s0 (m + 1) = bst less ok s0 m := by
  show @ite _ _ (Classical.propDecidable _) _ _ = _
  rw [if_neg h]
theorem bst_lt {less : Nat → Nat → Prop} {ok : Nat → Prop} {s0 : Nat} : ∀ m x : Nat, bst less ok s0 m = some x → x < s0 + m
  | 0, x, h => by exact absurd h (by show ¬ (none = some x); exact fun q => by cases q)
  | m + 1, x, h => by
    by_cases g : ((bst less ok s0 m = none ∨ ∃ x, bst less ok s0 m = some x ∧ less (s0 + m) x) ∧ ok (s0 + m))
    · rw [bst_y g.1 g.2] at h
      have : s0 + m = x := by injection h
      omega
    · rw [bst_n g] at h
      have := bst_lt m x h
      omega
def bPb (β : zMem) (k c : Nat) : Bool := bIn β k c && decide (β 83 c = 2)
def cst (β : zMem) (w c : Nat) : Int := bV β c * (w : Int) / 100
def coS (β : zMem) (P : Nat → Bool) (w s : Nat) : Int := sms s (fun i => cst β w ((pks P (bN β)).2 i)) (pks P (bN β)).1
def cnS (s : Nat) : Int := sms s (fun _ => 1) 10
def bYs (β : zMem) (P : Nat → Bool) (s : Nat) : Nat := sob (Qs P s) (bN β)
def okB (β : zMem) (k s : Nat) : Prop := dpT β (tly (bIn β k) (bK β) (bV β) (vtY β (bYs β (bPb β k) s)) (bN β))
def okA (β : zMem) (k s : Nat) : Prop := dpT β (tly (Qs (bIn β k) s) (bK β) (bV β) (bVt β) (bN β))
def lsB (β : zMem) (k w s x : Nat) : Prop := coS β (bPb β k) w s < coS β (bPb β k) w x ∨ (coS β (bPb β k) w s = coS β (bPb β k) w x ∧ cnS s < cnS x)
def lsA (s x : Nat) : Prop := cnS s < cnS x
noncomputable def bsB (β : zMem) (k w m : Nat) : Option Nat := bst (lsB β k w) (okB β k) 0 m
noncomputable def bsA (β : zMem) (k m : Nat) : Option Nat := bst lsA (okA β k) 1 m
theorem cst_rng {β : zMem} (h : Rall β) {w c : Nat} (hw : w ≤ 200) (hc : c < bN β) : 0 ≤ cst β w c ∧ cst β w c ≤ 200000 := by
  obtain ⟨v1, v2⟩ := bV_rng h hc
  unfold cst
  have a0 : 0 ≤ bV β c * (w : Int) := Int.mul_nonneg v1 (by omega)
  have a1 : bV β c * (w : Int) ≤ 100000 * 200 := Int.mul_le_mul v2 (by omega) (by omega) (by omega)
  omega
theorem cst_val {β : zMem} (h : Rall β) {w c : Nat} {v : Int32} (hw : w ≤ 200) (hc : c < bN β) (hv : v.toInt = bV β c) : (v * nI w / 100).toInt = cst β w c := by
  obtain ⟨v1, v2⟩ := bV_rng h hc
  have a0 : 0 ≤ bV β c * (w : Int) := Int.mul_nonneg v1 (by omega)
  have a1 : bV β c * (w : Int) ≤ 100000 * 200 := Int.mul_le_mul v2 (by omega) (by omega) (by omega)
  have e : (v * nI w).toInt = bV β c * (w : Int) := by rw [fb_mulI (by rw [hv, tin (by omega)]; omega) (by rw [hv, tin (by omega)]; omega), hv, tin (by omega)]
  rw [fb_divI (by omega) (by rw [ti100]; omega), e, ti100]
  rfl
-- the class looks through all sets
/-- those picked stand in their rows -/
def SI (β : zMem) (P : Nat → Bool) (σ : zMem) : Prop := PB β σ ∧ σ 64 5 = nI (pks P (bN β)).1 ∧ ∀ i, i < (pks P (bN β)).1 → σ 65 i = nI ((pks P (bN β)).2 i) ∧ (σ 66 i).toInt = bV β ((pks P (bN β)).2 i)
theorem SI.fr {β σ σ' : zMem} {P : Nat → Bool} (h : SI β P σ) (hb : PB β σ') (h5 : σ' 64 5 = σ 64 5) (h65 : σ' 65 = σ 65) (h66 : σ' 66 = σ 66) : SI β P σ' := ⟨hb, by rw [h5]; exact h.2.1, by rw [h65, h66]; exact h.2.2⟩
theorem c_pick {G : zGT} {d : Nat} {Φ : zMem → Prop} {β σ : zMem} {k : Nat} {v : Int32} {P : Nat → Bool} (hb : PB β σ) (hβ : Rall β) (hk : k < 6) (hP : ∀ c, c < bN β → (P c = true ↔ (v = -1000000005 ∨ β 83 c = v) ∧ β 82 c = nI k)) (h : ∀ σ', SI β P σ' → σ' 64 6 = 0 → Φ σ') : CTV G (d + 3) Y_X7_pick [.inr (.inr 64), .inl (nI k), .inl v] σ Φ := by
  have n24 := bN_24 hβ.any
  refine en_X7_pick ?_
  rintro _ rfl
  rintro _ rfl
  have L : ∀ m i : Nat, i + m = bN β → ∀ τ : zMem, PB β τ → τ 64 6 = 0 → τ 64 5 = nI (pks P i).1 → (∀ j, j < (pks P i).1 → τ 65 j = nI ((pks P i).2 j) ∧ (τ 66 j).toInt = bV β ((pks P i).2 j)) →
      WJ G M_X7_pick (d + 3) (RV Φ) 12 [some (.inr (.inr 64)), some (.inl (nI k)), some (.inl v), some (.inl (nI i)), none] [] τ := by
    intro m
    induction m with
    | zero =>
      intro i hi τ hbt t6 t5 tr
      refine rg_X7_pick_12 ?_
      have : i = bN β := by omega
      subst this
      have en8 : τ 1 6 = nI (bN β) := by
        rw [hbt.1.1 1 (by decide) (by decide) (by decide), hβ.1.2.2.1.1]
        have := hβ.1.2.2.1.2.1
        exact nI_of_toInt (by omega) (by unfold bN; omega)
      rw [en8, if_pos (nI_le (by omega) (by omega))]
      exact h τ ⟨hbt, t5, tr⟩ t6
    | succ m ih =>
      intro i hi τ hbt t6 t5 tr
      refine rg_X7_pick_12 ?_
      have en8 : τ 1 6 = nI (bN β) := by
        rw [hbt.1.1 1 (by decide) (by decide) (by decide), hβ.1.2.2.1.1]
        have := hβ.1.2.2.1.2.1
        exact nI_of_toInt (by omega) (by unfold bN; omega)
      have hc' := (bN_c hβ.any).1 (show i < bN β by omega)
      obtain ⟨p1, p2, p3, p4, p5, p6⟩ := hβ.2.2.2.2.2.1.1 i hc'
      obtain ⟨o1, o2, o3⟩ := pks_ok P i
      have vi : vp_in (nI i) 24 := vin (by omega)
      have g35 : τ 35 i = enc (β 82 i) := by rw [hbt.1.1 35 (by decide) (by decide) (by decide), p1]
      have g36 : τ 36 i = β 83 i := by rw [hbt.1.1 36 (by decide) (by decide) (by decide), p2]
      have ek : enc (β 82 i) = nI k ↔ β 82 i = nI k := enc_nI p3 (by omega)
      have hPi := hP i (by omega)
      rw [en8, if_neg (nI_ge (by omega) (by omega)), t5, cln (show i < 2147483648 by omega), g35, g36, nI_1]
      -- nothing is picked
      have skip : ¬ pkd P i = true → WJ G M_X7_pick (d + 3) (RV Φ) 12 [some (.inr (.inr 64)), some (.inl (nI k)), some (.inl v), some (.inl (nI (i + 1))), none] [] τ := by
        intro q
        exact ih (i + 1) (by omega) τ hbt t6 (by rw [pks_n q]; exact t5) (by rw [pks_n q]; exact tr)
      by_cases g10 : (pks P i).1 < 10
      · have q10 : ¬ (nI 10 ≤ nI (pks P i).1) := nI_ge (by omega) (by omega)
        rw [if_neg (show ¬ ((10 : Int32) ≤ nI (pks P i).1) from q10)]
        have v10 : vp_in (nI (pks P i).1) 10 := vin (by omega)
        have c10 : (nI (pks P i).1).toNatClampNeg = (pks P i).1 := cln (by omega)
        -- one is picked
        have pick : P i = true → (vp_in (nI (pks P i).1) 10 ∧ ∀ s1 : zMem, s1 = zwr τ 65 (nI (pks P i).1).toNatClampNeg (nI i) → (CTI G (d + 2) Y_X2_valueOf [.inr (.inr 55), .inl (nI i)] s1 (fun (r3 : Int32) (s2 : zMem) => vp_in (s1 64 5) 10 ∧ ∀ s4 : zMem, s4 = zwr s2 66 (s1 64 5).toNatClampNeg r3 → (∀ s5 : zMem, s5 = zwr s4 64 5 ((s4 64 5) + 1) → (WJ G M_X7_pick (d + 3) (RV Φ) 12 [some (.inr (.inr 64)), some (.inl (nI k)), some (.inl v), some (.inl (nI (i + 1))), none] [] s5))))) := by
          intro hp
          have pk : pkd P i = true := by
            unfold pkd
            rw [hp, decide_eq_true g10]; rfl
          refine ⟨v10, ?_⟩
          rintro _ rfl
          have hb1 : PB β (zwr τ 65 (nI (pks P i).1).toNatClampNeg (nI i)) := hbt.fr ((FR.refl τ).wr (Or.inl (by decide)))
          refine cr_valueOf hb1.2 (by rw [hb1.1.2 8 (by decide)]; exact hc') ?_
          rw [hb1.1.2 22 (by decide), hb1.1.1 84 (by decide) (by decide) (by decide), hb1.1.1 85 (by decide) (by decide) (by decide), hb1.1.1 86 (by decide) (by decide) (by decide), hb1.1.1 81 (by decide) (by decide) (by decide), zwr_rne (show (64 : Nat) ≠ 65 by decide), t5, c10]
          refine ⟨v10, ?_⟩
          rintro _ rfl
          rintro _ rfl
          rw [c10] at hb1
          refine ih (i + 1) (by omega) _ ((hb1.fr ((FR.refl _).wr (k := 66) (Or.inl (by decide)))).fr ((FR.refl _).wr (k := 64) (Or.inl (by decide)))) ?_ ?_ ?_
          · simp only [zwr_rne, zwr_req, upd_ne, upd_eq, ne_eq, Nat.reduceEqDiff, not_false_eq_true]; exact t6
          · simp only [zwr_rne, zwr_req, upd_ne, upd_eq, ne_eq, Nat.reduceEqDiff, not_false_eq_true]
            rw [t5, nI_1, pks_y pk]
          · rw [pks_y pk]
            intro j hj
            have hj : j < (pks P i).1 + 1 := hj
            simp only [zwr_rne, zwr_req, upd_ne, upd_eq, ne_eq, Nat.reduceEqDiff, not_false_eq_true]
            by_cases e : j = (pks P i).1
            · subst e
              rw [upd_eq, upd_eq]
              refine ⟨by rw [if_pos rfl], ?_⟩
              rw [if_pos rfl]
              rfl
            · rw [upd_ne e, upd_ne e]
              simp only [if_neg e]
              exact tr j (by omega)
        by_cases gv : v = -1000000005
        · rw [if_pos gv]
          refine ⟨vi, ?_⟩
          by_cases g : β 82 i = nI k
          · rw [if_pos (ek.2 g)]
            exact pick (hPi.2 ⟨Or.inl gv, g⟩)
          · rw [if_neg (fun q => g (ek.1 q))]
            refine skip (fun q => ?_)
            unfold pkd at q
            rw [Bool.and_eq_true] at q
            exact g (hPi.1 q.2).2
        · rw [if_neg gv]
          refine ⟨vi, ?_⟩
          by_cases gw : β 83 i = v
          · rw [if_pos gw]
            refine ⟨vi, ?_⟩
            by_cases g : β 82 i = nI k
            · rw [if_pos (ek.2 g)]
              exact pick (hPi.2 ⟨Or.inr gw, g⟩)
            · rw [if_neg (fun q => g (ek.1 q))]
              refine skip (fun q => ?_)
              unfold pkd at q
              rw [Bool.and_eq_true] at q
              exact g (hPi.1 q.2).2
          · rw [if_neg gw]
            refine ⟨vi, ?_⟩
            have sk := skip (fun q => by
              unfold pkd at q
              rw [Bool.and_eq_true] at q
              rcases (hPi.1 q.2).1 with w | w
              · exact gv w
              · exact gw w)
            split
            · exact sk
            · exact sk
      · have q10 : (nI 10 ≤ nI (pks P i).1) := nI_le (by omega) (by omega)
        rw [if_pos (show ((10 : Int32) ≤ nI (pks P i).1) from q10)]
        -- no more are picked
        have stay : ∀ u : Nat, pks P (i + u) = pks P i := by
          intro u
          induction u with
          | zero => rfl
          | succ u ih2 =>
            rw [← Nat.add_assoc, pks_n, ih2]
            unfold pkd
            rw [ih2, Bool.and_eq_true, decide_eq_true_eq]
            exact fun q => g10 q.1
        have e := stay (m + 1)
        rw [hi] at e
        refine h τ ⟨hbt, by rw [e]; exact t5, by rw [e]; exact tr⟩ t6
  exact L (bN β) 0 (by omega) _ ((hb.fr ((FR.refl σ).wr (k := 64) (Or.inl (by decide)))).fr ((FR.refl _).wr (k := 64) (Or.inl (by decide)))) (zwr_same _ _ _ _) (by simp only [zwr_rne, zwr_req, upd_ne, upd_eq, ne_eq, Nat.reduceEqDiff, not_false_eq_true]; rfl) (fun j hj => absurd hj (Nat.not_lt_zero j))
theorem shl_t {t : Nat} (h : t ≤ 10) : (1 : Int32) <<< (nI t &&& 31) = nI (2 ^ t) := bt_shl t (by omega)
theorem pow_10 {t : Nat} (h : t ≤ 10) : 2 ^ t ≤ 1024 := by
  have := Nat.pow_le_pow_right (n := 2) (by decide) h
  exact this
/-- a bit times a number -/
theorem bit_mul {s i : Nat} {x : Int32} (hs : s < 2147483648) (hi : i < 24) (h0 : 0 ≤ x.toInt) : (((nI s >>> (nI i &&& 31)) &&& 1) * x).toInt = if s.testBit i then x.toInt else 0 := by
  have b := bt_bit hs hi
  have r := fb_rng x
  by_cases g : s.testBit i = true
  · rw [if_pos g] at b ⊢
    rw [fb_mulI (by rw [b]; omega) (by rw [b]; omega), b]; omega
  · rw [if_neg g] at b ⊢
    rw [fb_mulI (by rw [b]; omega) (by rw [b]; omega), b]; omega
theorem c_costOf {G : zGT} {d : Nat} {Φ : Int32 → zMem → Prop} {β σ : zMem} {P : Nat → Bool} {w s : Nat} (hβ : Rall β) (hi : SI β P σ) (hw : w ≤ 200) (hs : s < 1024) (h : ∀ v : Int32, v.toInt = coS β P w s → Φ v σ) : CTI G (d + 1) Y_X7_costOf [.inr (.inr 64), .inl (nI s), .inl (nI w)] σ Φ := by
  obtain ⟨o1, o2, o3⟩ := pks_ok P (bN β)
  refine en_X7_costOf ?_
  have L : ∀ m i : Nat, i + m = (pks P (bN β)).1 → ∀ v : Int32, v.toInt = sms s (fun i => cst β w ((pks P (bN β)).2 i)) i → WJ G M_X7_costOf (d + 1) (RI Φ) 5 [some (.inr (.inr 64)), some (.inl (nI s)), some (.inl (nI w)), some (.inl v), some (.inl (nI i))] [] σ := by
    intro m
    induction m with
    | zero =>
      intro i hii v hv
      refine rg_X7_costOf_5 ?_
      have : i = (pks P (bN β)).1 := by omega
      rw [hi.2.1, if_pos (nI_le (by omega) (by omega))]
      refine h v ?_
      rw [hv, this]
      rfl
    | succ m ih =>
      intro i hii v hv
      refine rg_X7_costOf_5 ?_
      have lt : i < (pks P (bN β)).1 := by omega
      obtain ⟨c1, c2, c3, c4⟩ := o3 i lt
      obtain ⟨q1, q2⟩ := hi.2.2 i lt
      rw [hi.2.1, if_neg (nI_ge (by omega) (by omega)), cln (show i < 2147483648 by omega), nI_1]
      refine ⟨vin (by omega), by decide, ?_⟩
      have cv := cst_val hβ hw c1 q2
      obtain ⟨r0, r1⟩ := cst_rng hβ hw c1
      obtain ⟨s0, s1⟩ := sms_rng (s := s) (g := fun i => cst β w ((pks P (bN β)).2 i)) (B := 200000) (t := i) (fun j hj => cst_rng hβ hw (o3 j (by omega)).1) (by omega)
      have bm := bit_mul (s := s) (i := i) (x := σ 66 i * nI w / 100) (by omega) (by omega) (by omega)
      refine ih (i + 1) (by omega) _ ?_
      have bb : 0 ≤ (if s.testBit i = true then (σ 66 i * nI w / 100).toInt else 0) ∧ (if s.testBit i = true then (σ 66 i * nI w / 100).toInt else 0) ≤ 200000 := by split <;> omega
      rw [fb_addI (by omega) (by omega), hv, bm, sms_s, cv]
  exact L (pks P (bN β)).1 0 (by omega) 0 rfl
