-- sets of claims as bits
theorem bt_shl : ∀ c, c < 24 → ((1 : Int32) <<< (nI c &&& 31)) = nI (2 ^ c) := by decide +kernel
theorem bt_amt : ∀ c, c < 24 → ((nI c &&& 31).toBitVec.smod 32).toNat = c := by decide +kernel
theorem bt_or (a b : Nat) : nI a ||| nI b = nI (a ||| b) := by
  apply Int32.toBitVec_inj.1
  show BitVec.ofNat 32 a ||| BitVec.ofNat 32 b = BitVec.ofNat 32 (a ||| b)
  apply BitVec.eq_of_toNat_eq
  rw [BitVec.toNat_or, BitVec.toNat_ofNat, BitVec.toNat_ofNat, BitVec.toNat_ofNat, Nat.or_mod_two_pow]
theorem and1 (y : Int32) : (y &&& 1).toInt = y.toInt % 2 := by
  have e : (y &&& 1).toInt = (y.toBitVec &&& 1#32).toInt := rfl
  have e2 : y.toInt = y.toBitVec.toInt := rfl
  have n1 : (y.toBitVec &&& 1#32).toNat = y.toBitVec.toNat % 2 := by
    rw [BitVec.toNat_and]
    exact Nat.and_two_pow_sub_one_eq_mod _ 1
  have hlt := y.toBitVec.isLt
  rw [e, e2, BitVec.toInt_eq_toNat_cond, BitVec.toInt_eq_toNat_cond, n1, if_pos (by omega)]
  split <;> omega
theorem bt_shr {b c : Nat} (hb : b < 2147483648) (hc : c < 24) : (nI b >>> (nI c &&& 31)).toInt = ((b / 2 ^ c : Nat) : Int) := by
  have e : (nI b >>> (nI c &&& 31)).toInt = ((nI b).toBitVec.sshiftRight' ((nI c &&& 31).toBitVec.smod 32)).toInt := rfl
  rw [e, BitVec.toInt_sshiftRight', bt_amt c hc, Int.shiftRight_eq_div_pow]
  have e2 : (nI b).toBitVec.toInt = (nI b).toInt := rfl
  rw [e2, tin hb]
  exact (Int.natCast_ediv b (2 ^ c)).symm
theorem bt_bit {b c : Nat} (hb : b < 2147483648) (hc : c < 24) : ((nI b >>> (nI c &&& 31)) &&& 1).toInt = if b.testBit c then 1 else 0 := by
  rw [and1, bt_shr hb hc, Nat.testBit_eq_decide_div_mod_eq]
  by_cases g : b / 2 ^ c % 2 = 1
  · rw [if_pos (decide_eq_true g)]; omega
  · rw [if_neg (fun q => g (of_decide_eq_true q))]; omega
theorem bt_test {b c : Nat} (hb : b < 2147483648) (hc : c < 24) : ((nI b >>> (nI c &&& 31)) &&& 1) = 1 ↔ b.testBit c = true := by
  rw [fa_eq, bt_bit hb hc, ti1]
  split
  · rename_i g; exact ⟨fun _ => g, fun _ => rfl⟩
  · rename_i g; exact ⟨fun q => absurd q (by decide), fun q => absurd q g⟩
/-- those below n of which p holds -/
def sob (p : Nat → Bool) : Nat → Nat
  | 0 => 0
  | n + 1 => sob p n ||| (if p n then 2 ^ n else 0)
theorem sob_lt (p : Nat → Bool) : ∀ n : Nat, sob p n < 2 ^ n
  | 0 => Nat.one_pos
  | n + 1 => by
    have ih := sob_lt p n
    have h2 : 2 ^ n < 2 ^ (n + 1) := Nat.pow_lt_pow_right (by decide) (by omega)
    unfold sob
    refine Nat.or_lt_two_pow (by omega) ?_
    split
    · exact h2
    · exact Nat.two_pow_pos _
theorem sob_bit (p : Nat → Bool) (c : Nat) : ∀ n : Nat, (sob p n).testBit c = (decide (c < n) && p c)
  | 0 => by simp [sob]
  | n + 1 => by
    unfold sob
    rw [Nat.testBit_or, sob_bit p c n]
    by_cases e : c = n
    · subst e
      by_cases g : p c = true
      · rw [if_pos g, Nat.testBit_two_pow_self, g]; simp
      · have g' : p c = false := by simpa using g
        rw [if_neg g, g', Nat.zero_testBit]; simp
    · have z : (if p n = true then 2 ^ n else 0).testBit c = false := by
        split
        · exact Nat.testBit_two_pow_of_ne (by omega)
        · exact Nat.zero_testBit _
      rw [z, Bool.or_false]
      have : decide (c < n) = decide (c < n + 1) := by
        apply Bool.eq_iff_iff.2
        simp only [decide_eq_true_eq]
        omega
      rw [this]
theorem sob_24 (p : Nat → Bool) {n : Nat} (hn : n ≤ 24) : sob p n < 2147483648 := by
  have h1 := sob_lt p n
  have h2 : 2 ^ n ≤ 2 ^ 24 := Nat.pow_le_pow_right (by decide) hn
  have h3 : (2 : Nat) ^ 24 = 16777216 := by decide
  omega
theorem sob_zero {p : Nat → Bool} {n : Nat} : sob p n = 0 ↔ ∀ c, c < n → p c = false := by
  refine ⟨fun h c hc => ?_, fun h => ?_⟩
  · have := sob_bit p c n
    rw [h, Nat.zero_testBit, decide_eq_true hc, Bool.true_and] at this
    exact this.symm
  · apply Nat.eq_of_testBit_eq
    intro i
    rw [sob_bit, Nat.zero_testBit]
    by_cases g : i < n
    · rw [h i g, Bool.and_false]
    · rw [decide_eq_false g, Bool.false_and]
theorem m_setOf {G : zGT} {d : Nat} {Φ : Int32 → zMem → Prop} {β σ : zMem} {k : Nat} (hb : PB β σ) (hβ : Rall β) (h : Φ (nI (sob (bIn β k) (bN β))) σ) : CTI G (d + 1) Y_X12_setOf [.inr (.inr 72), .inl (nI k)] σ Φ := by
  have n24 := bN_24 hβ.any
  have en8 : σ 72 8 = nI (bN β) := by
    rw [hb.1.2 8 (by decide)]
    have := hβ.1.2.2.1.2.1
    exact nI_of_toInt (by omega) (by unfold bN; omega)
  have e82 : σ 82 = β 82 := hb.1.1 82 (by decide) (by decide) (by decide)
  refine en_X12_setOf ?_
  have L : ∀ m i : Nat, i + m = bN β → WJ G M_X12_setOf (d + 1) (RI Φ) 4 [some (.inr (.inr 72)), some (.inl (nI k)), some (.inl (nI (sob (bIn β k) i))), some (.inl (nI i))] [] σ := by
    intro m
    induction m with
    | zero =>
      intro i hi
      refine rg_X12_setOf_4 ?_
      have : i = bN β := by omega
      subst this
      rw [en8, if_pos (nI_le (by omega) (by omega))]
      exact h
    | succ m ih =>
      intro i hi
      refine rg_X12_setOf_4 ?_
      rw [en8, if_neg (nI_ge (by omega) (by omega)), cln (by omega), nI_1, e82]
      refine ⟨vin (by omega), ?_⟩
      have ih' := ih (i + 1) (by omega)
      unfold sob at ih'
      by_cases g : β 82 i = nI k
      · rw [if_pos g, bt_shl i (by omega), bt_or]
        rw [if_pos (show bIn β k i = true from decide_eq_true g)] at ih'
        exact ih'
      · rw [if_neg g, show (0 : Int32) = nI 0 from rfl, bt_or]
        rw [if_neg (show ¬ bIn β k i = true from fun q => g (of_decide_eq_true q))] at ih'
        exact ih'
  exact L (bN β) 0 (by omega)
/-- a claim's vote, or yes if it is one of Y -/
def vtY (β : zMem) (Y c : Nat) : Int := if Y.testBit c then 1 else bVt β c
theorem m_voteNow {G : zGT} {d : Nat} {Φ : Int32 → zMem → Prop} {β σ : zMem} {Y c : Nat} (hb : PB β σ) (hc : c < 24) (hY : σ 72 62 = nI Y) (hY2 : Y < 2147483648) (h : ∀ v : Int32, v.toInt = vtY β Y c → Φ v σ) : CTI G d Y_X12_voteNow [.inr (.inr 72), .inl (nI c)] σ Φ := by
  refine en_X12_voteNow ?_
  rw [hY]
  unfold vtY bVt at h
  by_cases g : Y.testBit c = true
  · rw [if_pos ((bt_test hY2 hc).2 g)]
    exact h 1 (by rw [if_pos g]; rfl)
  · rw [if_neg (fun q => g ((bt_test hY2 hc).1 q)), cln (by omega)]
    refine ⟨vin hc, h _ ?_⟩
    rw [if_neg g, hb.1.1 83 (by decide) (by decide) (by decide)]
/-- the first of those that p holds of, -1 if there is none -/
def ff1 (p : Nat → Bool) : Nat → Int32
  | 0 => -1
  | n + 1 => if (ff1 p n).toInt < 0 then (if p n then nI n else -1) else ff1 p n
theorem m_passName {G : zGT} {d : Nat} {Φ : Int32 → zMem → Prop} {β σ : zMem} {S Y : Nat} {L : Int32} (hb : PB β σ) (hβ : Rall β) (hS : σ 72 61 = nI S) (hS2 : S < 2147483648) (hY : σ 72 62 = nI Y) (hY2 : Y < 2147483648) (hne : ∃ c, c < bN β ∧ S.testBit c = true)
    (h : ∀ v : Int32, v.toInt = pvl (tly (fun c => S.testBit c) (bK β) (bV β) (vtY β Y) (bN β)) L → Φ v σ) : CTI G (d + 3) Y_X12_passName [.inr (.inr 72), .inl L] σ Φ := by
  have n24 := bN_24 hβ.any
  have en8 : σ 72 8 = nI (bN β) := by
    rw [hb.1.2 8 (by decide)]
    have := hβ.1.2.2.1.2.1
    exact nI_of_toInt (by omega) (by unfold bN; omega)
  have tb : ∀ i, i ≤ bN β → TB i (tly (fun c => S.testBit c) (bK β) (bV β) (vtY β Y) i) := fun i hi => TB.tly (p := fun c => S.testBit c) (vt := vtY β Y) i (fun j hj => bT_ok hβ j (by omega))
  refine en_X12_passName ?_
  have Lp : ∀ m i : Nat, i + m = bN β → ∀ (v2 v3 v4 v5 v6 v7 v8 : Int32),
      ((tly (fun c => S.testBit c) (bK β) (bV β) (vtY β Y) i 5 = 0 ∧ v2 = -1) ∨ (0 < tly (fun c => S.testBit c) (bK β) (bV β) (vtY β Y) i 5 ∧ ∃ f, f < i ∧ v2 = nI f ∧ bK β f = tly (fun c => S.testBit c) (bK β) (bV β) (vtY β Y) i 6)) →
      ((∃ c, c < i ∧ S.testBit c = true) → 0 < tly (fun c => S.testBit c) (bK β) (bV β) (vtY β Y) i 5) →
      v3.toInt = tly (fun c => S.testBit c) (bK β) (bV β) (vtY β Y) i 5 → v4.toInt = tly (fun c => S.testBit c) (bK β) (bV β) (vtY β Y) i 2 →
      v5.toInt = tly (fun c => S.testBit c) (bK β) (bV β) (vtY β Y) i 0 + tly (fun c => S.testBit c) (bK β) (bV β) (vtY β Y) i 1 → v6.toInt = tly (fun c => S.testBit c) (bK β) (bV β) (vtY β Y) i 0 →
      v7.toInt = tly (fun c => S.testBit c) (bK β) (bV β) (vtY β Y) i 3 + tly (fun c => S.testBit c) (bK β) (bV β) (vtY β Y) i 4 → v8.toInt = tly (fun c => S.testBit c) (bK β) (bV β) (vtY β Y) i 3 →
      WJ G M_X12_passName (d + 3) (RI Φ) 22 [some (.inr (.inr 72)), some (.inl L), some (.inl v2), some (.inl v3), some (.inl v4), some (.inl v5), some (.inl v6), some (.inl v7), some (.inl v8), some (.inl (nI i)), none] [] σ := by
    intro m
    induction m with
    | zero =>
      intro i hi v2 v3 v4 v5 v6 v7 v8 hF hE h3 h4 h5 h6 h7 h8
      refine rg_X12_passName_22 ?_
      have : i = bN β := by omega
      subst this
      obtain ⟨a, b, c, dd, e⟩ := tb (bN β) (Nat.le_refl _)
      have p5 := hE hne
      generalize tly (fun c => S.testBit c) (bK β) (bV β) (vtY β Y) (bN β) = T at *
      have a0 := a 0 (by omega)
      have a1 := a 1 (by omega)
      have a2 := a 2 (by omega)
      have a3 := a 3 (by omega)
      have a4 := a 4 (by omega)
      have a5 := a 5 (by omega)
      rw [en8, if_pos (nI_le (by omega) (by omega))]
      unfold pvl at h
      by_cases g1 : L = 107
      · rw [if_pos g1]
        rcases hF with ⟨q, _⟩ | ⟨_, f, hf, hf2, hf3⟩
        · omega
        · rw [hf2, cln (by omega)]
          refine ⟨vin (by omega), h _ ?_⟩
          rw [if_pos g1, hb.1.1 78 (by decide) (by decide) (by decide), ← hf3]
          rfl
      rw [if_neg g1]
      simp only [if_neg g1] at h
      by_cases g2 : L = 110
      · rw [if_pos g2]
        simp only [if_pos g2, if_neg (show ¬ L = 109 from fun q => absurd (g2.symm.trans q) (by decide))] at h
        refine m_hundredths (by omega) (by omega) (by omega) (fun v hv => h v ?_)
        rw [hv, h7, h8]
      rw [if_neg g2]
      by_cases g3 : L = 116
      · rw [if_pos g3]
        simp only [if_pos g3, if_neg g2, if_neg (show ¬ L = 109 from fun q => absurd (g3.symm.trans q) (by decide))] at h
        refine m_hundredths (by omega) (by omega) (by omega) (fun v hv => h v ?_)
        rw [hv, h5, h4]
      rw [if_neg g3]
      by_cases g4 : L = 118
      · rw [if_pos g4]
        simp only [if_pos g4, if_neg g3, if_neg g2, if_neg (show ¬ L = 109 from fun q => absurd (g4.symm.trans q) (by decide))] at h
        refine m_hundredths (by omega) (by omega) (by omega) (fun v hv => h v ?_)
        rw [hv, h6, h5]
      rw [if_neg g4]
      simp only [if_neg g4, if_neg g3, if_neg g2] at h
      refine h v3 ?_
      rw [h3]
      split <;> rfl
    | succ m ih =>
      intro i hi v2 v3 v4 v5 v6 v7 v8 hF hE h3 h4 h5 h6 h7 h8
      refine rg_X12_passName_22 ?_
      rw [en8, if_neg (nI_ge (by omega) (by omega)), hS]
      obtain ⟨a, b, c, dd, e⟩ := tb i (by omega)
      have hc' := (bN_c hβ.any).1 (show i < bN β by omega)
      obtain ⟨q1, q2, q3, -⟩ := hβ.2.2.2.1.1 i hc'
      obtain ⟨r1, r2, r3, r4, r5, r6, r7, r8, r9, r10, r11, r12⟩ := hβ.2.2.1.1 i hc'
      obtain ⟨p1, p2, p3, p4, p5, p6⟩ := hβ.2.2.2.2.2.1.1 i hc'
      obtain ⟨bv1, bv2⟩ := bV_rng hβ (show i < bN β by omega)
      have ih' := ih (i + 1) (by omega)
      simp only [tly_s] at ih'
      by_cases g : S.testBit i = true
      · rw [if_pos ((bt_test hS2 (by omega)).2 g)]
        simp only [if_pos g] at ih'
        generalize hTT : tly (fun c => S.testBit c) (bK β) (bV β) (vtY β Y) i = T at *
        have a0 := a 0 (by omega)
        have a1 := a 1 (by omega)
        have a2 := a 2 (by omega)
        have a3 := a 3 (by omega)
        have a4 := a 4 (by omega)
        have a5 := a 5 (by omega)
        have z0 : tadd (bK β i) (bV β i) (vtY β Y i) T 0 = (if vtY β Y i = 1 then T 0 + bV β i else T 0) := rfl
        have z1 : tadd (bK β i) (bV β i) (vtY β Y i) T 1 = (if vtY β Y i = 2 then T 1 + bV β i else T 1) := rfl
        have z2 : tadd (bK β i) (bV β i) (vtY β Y i) T 2 = T 2 + bV β i := rfl
        have z3 : tadd (bK β i) (bV β i) (vtY β Y i) T 3 = (if vtY β Y i = 1 then T 3 + 1 else T 3) := rfl
        have z4 : tadd (bK β i) (bV β i) (vtY β Y i) T 4 = (if vtY β Y i = 2 then T 4 + 1 else T 4) := rfl
        have z5 : tadd (bK β i) (bV β i) (vtY β Y i) T 5 = T 5 + 1 := rfl
        have z6 : tadd (bK β i) (bV β i) (vtY β Y i) T 6 = (if T 5 = 0 then bK β i else T 6) := rfl
        have vr : 0 ≤ vtY β Y i ∧ vtY β Y i ≤ 2 := by
          unfold vtY bVt
          split <;> omega
        refine mr_valueOf (by rw [hb.1.2 8 (by decide)]; exact hc') (by rw [hb.1.2 8 (by decide)]; exact hβ.1.2.2.1.2.2) (by rw [hb.1.1 84 (by decide) (by decide) (by decide)]; exact q2) (by rw [hb.1.1 84 (by decide) (by decide) (by decide)]; exact q3) (by rw [hb.1.1 81 (by decide) (by decide) (by decide)]; exact r11) ?_
        rw [hb.1.2 22 (by decide), hb.1.1 84 (by decide) (by decide) (by decide), hb.1.1 85 (by decide) (by decide) (by decide), hb.1.1 86 (by decide) (by decide) (by decide), hb.1.1 81 (by decide) (by decide) (by decide)]
        have hvv : (valS (β 72 22) (β 84) (β 85) (β 86) (β 81) i).toInt = bV β i := rfl
        generalize valS (β 72 22) (β 84) (β 85) (β 86) (β 81) i = V at hvv ⊢
        -- the rest of the step, from the first one
        have rest : ∀ (w2 w5 : Int32), ((0 < T 5 + 1 ∧ ∃ f, f < i + 1 ∧ w2 = nI f ∧ bK β f = (if T 5 = 0 then bK β i else T 6))) → w5.toInt = v5.toInt + (if 0 < vtY β Y i then bV β i else 0) →
            WJ G M_X12_passName (d + 3) (RI Φ) 93 [some (.inr (.inr 72)), some (.inl L), some (.inl w2), some (.inl (v3 + 1)), some (.inl (v4 + V)), some (.inl w5), some (.inl v6), some (.inl v7), some (.inl v8), some (.inl (nI i)), some (.inl V)] [] σ := by
          intro w2 w5 hw2 hw5
          have e3 : (v3 + 1).toInt = T 5 + 1 := by rw [fb_addI (by rw [ti1]; omega) (by rw [ti1]; omega), h3, ti1]
          have e4 : (v4 + V).toInt = T 2 + bV β i := by rw [fb_addI (by omega) (by omega), h4, hvv]
          refine rg_X12_passName_93 ?_
          refine m_voteNow hb (by omega) hY hY2 (fun r hr => ?_)
          have k93 : ∀ w7 : Int32, w7.toInt = v7.toInt + (if 0 < vtY β Y i then 1 else 0) → WJ G M_X12_passName (d + 3) (RI Φ) 112 [some (.inr (.inr 72)), some (.inl L), some (.inl w2), some (.inl (v3 + 1)), some (.inl (v4 + V)), some (.inl w5), some (.inl v6), some (.inl w7), some (.inl v8), some (.inl (nI i)), some (.inl V)] [] σ := by
            intro w7 hw7
            refine rg_X12_passName_112 ?_
            refine m_voteNow hb (by omega) hY hY2 (fun r hr => ?_)
            have k112 : ∀ w6 : Int32, w6.toInt = v6.toInt + (if vtY β Y i = 1 then bV β i else 0) → WJ G M_X12_passName (d + 3) (RI Φ) 133 [some (.inr (.inr 72)), some (.inl L), some (.inl w2), some (.inl (v3 + 1)), some (.inl (v4 + V)), some (.inl w5), some (.inl w6), some (.inl w7), some (.inl v8), some (.inl (nI i)), none] [] σ := by
              intro w6 hw6
              refine rg_X12_passName_133 ?_
              refine m_voteNow hb (by omega) hY hY2 (fun r hr => ?_)
              have k133 : ∀ w8 : Int32, w8.toInt = v8.toInt + (if vtY β Y i = 1 then 1 else 0) → WJ G M_X12_passName (d + 3) (RI Φ) 22 [some (.inr (.inr 72)), some (.inl L), some (.inl w2), some (.inl (v3 + 1)), some (.inl (v4 + V)), some (.inl w5), some (.inl w6), some (.inl w7), some (.inl w8), some (.inl (nI i + 1)), none] [] σ := by
                intro w8 hw8
                rw [nI_1]
                refine ih' w2 (v3 + 1) (v4 + V) w5 w6 w7 w8 (Or.inr ⟨by rw [z5]; omega, by rw [z6]; exact hw2.2⟩) (fun _ => by rw [z5]; omega) (by rw [z5]; exact e3) (by rw [z2]; exact e4) ?_ ?_ ?_ ?_
                · rw [z0, z1, hw5, h5]
                  by_cases t1 : vtY β Y i = 1
                  · rw [if_pos t1, if_neg (show ¬ vtY β Y i = 2 by omega), if_pos (show 0 < vtY β Y i by omega)]; omega
                  · by_cases t2 : vtY β Y i = 2
                    · rw [if_neg t1, if_pos t2, if_pos (show 0 < vtY β Y i by omega)]; omega
                    · rw [if_neg t1, if_neg t2, if_neg (show ¬ 0 < vtY β Y i by omega)]; omega
                · rw [z0, hw6, h6]
                  split <;> omega
                · rw [z3, z4, hw7, h7]
                  by_cases t1 : vtY β Y i = 1
                  · rw [if_pos t1, if_neg (show ¬ vtY β Y i = 2 by omega), if_pos (show 0 < vtY β Y i by omega)]; omega
                  · by_cases t2 : vtY β Y i = 2
                    · rw [if_neg t1, if_pos t2, if_pos (show 0 < vtY β Y i by omega)]; omega
                    · rw [if_neg t1, if_neg t2, if_neg (show ¬ 0 < vtY β Y i by omega)]; omega
                · rw [z3, hw8, h8]
                  split <;> omega
              refine zeq (fun q => k133 _ ?_) (fun q => k133 _ ?_)
              · rw [hr, ti1] at q
                rw [if_pos q, fb_addI (by rw [ti1]; omega) (by rw [ti1]; omega), ti1]
              · rw [hr, ti1] at q
                rw [if_neg q, Int32.add_zero]; omega
            refine zeq (fun q => k112 _ ?_) (fun q => k112 _ ?_)
            · rw [hr, ti1] at q
              rw [if_pos q, fb_addI (by omega) (by omega), hvv]
            · rw [hr, ti1] at q
              rw [if_neg q, Int32.add_zero]; omega
          refine zle (fun q => k93 _ ?_) (fun q => k93 _ ?_)
          · rw [hr, ti0] at q
            rw [if_neg (by omega), Int32.add_zero]; omega
          · rw [hr, ti0] at q
            rw [if_pos (by omega), fb_addI (by rw [ti1]; omega) (by rw [ti1]; omega), ti1]
        have first : ∀ w2 : Int32, ((0 < T 5 + 1 ∧ ∃ f, f < i + 1 ∧ w2 = nI f ∧ bK β f = (if T 5 = 0 then bK β i else T 6))) → CTI G (d + 2) Y_X12_voteNow [.inr (.inr 72), .inl (nI i)] σ (fun (r10 : Int32) (s9 : zMem) => if r10 ≤ 0 then (WJ G M_X12_passName (d + 3) (RI Φ) 93 [some (.inr (.inr 72)), some (.inl L), some (.inl w2), some (.inl (v3 + 1)), some (.inl (v4 + V)), some (.inl (v5 + 0)), some (.inl v6), some (.inl v7), some (.inl v8), some (.inl (nI i)), some (.inl V)] [] s9) else (WJ G M_X12_passName (d + 3) (RI Φ) 93 [some (.inr (.inr 72)), some (.inl L), some (.inl w2), some (.inl (v3 + 1)), some (.inl (v4 + V)), some (.inl (v5 + V)), some (.inl v6), some (.inl v7), some (.inl v8), some (.inl (nI i)), some (.inl V)] [] s9)) := by
          intro w2 hw2
          refine m_voteNow hb (by omega) hY hY2 (fun r hr => ?_)
          refine zle (fun q => rest w2 _ hw2 ?_) (fun q => rest w2 _ hw2 ?_)
          · rw [hr, ti0] at q
            rw [if_neg (by omega), Int32.add_zero]; omega
          · rw [hr, ti0] at q
            rw [if_pos (by omega), fb_addI (by omega) (by omega), hvv]
        rcases hF with ⟨t5, hv2⟩ | ⟨t5, f, hf, hf2, hf3⟩
        · rw [hv2, if_neg (by decide)]
          refine first (nI i) ⟨by omega, i, by omega, rfl, ?_⟩
          rw [if_pos t5]
        · rw [hf2, if_pos (by rw [fa_le, ti0, tin (by omega)]; omega)]
          refine first (nI f) ⟨by omega, f, by omega, rfl, ?_⟩
          rw [if_neg (by omega)]; exact hf3
      · rw [if_neg (fun q => g ((bt_test hS2 (by omega)).1 q)), nI_1]
        simp only [if_neg g] at ih'
        refine ih' v2 v3 v4 v5 v6 v7 v8 ?_ ?_ h3 h4 h5 h6 h7 h8
        · rcases hF with q | ⟨t5, f, hf, r⟩
          · exact Or.inl q
          · exact Or.inr ⟨t5, f, by omega, r⟩
        · rintro ⟨c, hc, hc2⟩
          refine hE ⟨c, ?_, hc2⟩
          by_cases e : c = i
          · subst e; exact absurd hc2 g
          · omega
  exact Lp (bN β) 0 (by omega) (-1) 0 0 0 0 0 0 (Or.inl ⟨rfl, rfl⟩) (fun ⟨c, hc, _⟩ => by omega) rfl rfl rfl rfl rfl rfl
