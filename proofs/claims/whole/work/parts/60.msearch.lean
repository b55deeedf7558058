-- the reference looks through all sets
def KM (σ σ' : zMem) : Prop := σ' 112 = σ 112 ∧ σ' 72 66 = σ 72 66 ∧ σ' 72 67 = σ 72 67
theorem KM.refl (σ : zMem) : KM σ σ := ⟨rfl, rfl, rfl⟩
theorem KM.trans {a b c : zMem} (h : KM a b) (h2 : KM b c) : KM a c := ⟨h2.1.trans h.1, h2.2.1.trans h.2.1, h2.2.2.trans h.2.2⟩
theorem m_workQ {G : zGT} {d : Nat} {Φ : Int32 → zMem → Prop} {β σ ρ : zMem} {S Y : Nat} {q : Nat → Int32} (hβ : Rall β) (hlaw : β 72 46 = 1) (hi : IP β S Y q σ) (hm : KM ρ σ) (hS2 : S < 2147483648) (hY2 : Y < 2147483648) (hne : ∃ c, c < bN β ∧ S.testBit c = true)
    (h : ∀ σ', IP β S Y q σ' → KM ρ σ' → Φ (ePs β (tly (fun c => S.testBit c) (bK β) (bV β) (vtY β Y) (bN β))) σ') : CTI G (d + 4) Y_X12_work [.inr (.inr 72), .inl 0, .inl (β 72 48)] σ Φ := by
  rcases lawOf hβ with ⟨q1, -⟩ | ⟨-, -, p, qq, r1, r2, r3, rp, rq, r4, r5, r6, r7, r8, r9⟩
  · rw [q1] at hlaw; exact absurd hlaw (by decide)
  refine en_X12_work ?_
  rw [hi.1.1.2 48 (by decide), r1, if_pos (by rw [fa_lt, ti0, tin (by omega)]; omega)]
  refine m_work110 (β := β) (N := isPn) (nm := fun L => Int32.ofInt (pvl (tly (fun c => S.testBit c) (bK β) (bV β) (vtY β Y) (bN β)) L)) (Inv := fun τ => IP β S Y q τ ∧ KM ρ τ) (to := p) (by omega) (fun τ ht => ⟨ht.1.1.1.1 106 (by decide) (by decide) (by decide), ht.1.1.1.1 107 (by decide) (by decide) (by decide)⟩) (fun τ j v ht => ?_) (fun τ L Ψ ht hL H => ?_) p 0 0 σ (by omega) (by omega) r8 ⟨hi, hm⟩ (fun τ' ht => ?_)
  · refine ⟨⟨ht.1.1.fr ((FR.refl τ).wr (Or.inl (by decide))), ?_, ?_, ?_⟩, ?_⟩
    · rw [zwr_rne (by decide)]; exact ht.1.2.1
    · rw [zwr_rne (by decide)]; exact ht.1.2.2.1
    · rw [zwr_rne (by decide)]; exact ht.1.2.2.2
    · unfold KM
      rw [zwr_rne (show (112 : Nat) ≠ 110 by decide), zwr_rne (show (72 : Nat) ≠ 110 by decide)]
      exact ht.2
  · refine m_passName ht.1.1 hβ ht.1.2.1 hS2 ht.1.2.2.1 hY2 hne (fun v hv => ?_)
    rw [ofI_eq hv]
    exact H τ ht rfl
  · have e : (evf (β 106) (β 107) (fun L => Int32.ofInt (pvl (tly (fun c => S.testBit c) (bK β) (bV β) (vtY β Y) (bN β)) L)) p 0 (0, σ 110)).2 0 = ePs β (tly (fun c => S.testBit c) (bK β) (bV β) (vtY β Y) (bN β)) := by
      unfold ePs
      rw [r1, tin (by omega)]
      exact evf_agree p 0 0 _ _ r8 (fun j hj => absurd hj (Nat.not_lt_zero j)) 0 (by decide)
    rw [e]
    exact h τ' ht.1 ht.2
theorem m_doesPassQ {G : zGT} {d : Nat} {Φ : Int32 → zMem → Prop} {β σ : zMem} {S Y : Nat} (hβ : Rall β) (hb : PB β σ) (hY : σ 72 62 = nI Y) (hS2 : S < 2147483648) (hY2 : Y < 2147483648) (hne : S ≠ 0 → ∃ c, c < bN β ∧ S.testBit c = true)
    (h1 : ∀ σ', PB β σ' → KM σ σ' → σ' 72 62 = nI Y → dpT β (tly (fun c => S.testBit c) (bK β) (bV β) (vtY β Y) (bN β)) → Φ 1 σ') (h0 : ∀ σ', PB β σ' → KM σ σ' → σ' 72 62 = nI Y → ¬ dpT β (tly (fun c => S.testBit c) (bK β) (bV β) (vtY β Y) (bN β)) → Φ 0 σ') : CTI G (d + 5) Y_X12_doesPassSet [.inr (.inr 72), .inl (nI S)] σ Φ := by
  refine en_X12_doesPassSet ?_
  rintro _ rfl
  have ip : IP β S Y (σ 111) (zwr σ 72 61 (nI S)) := by
    refine ⟨hb.fr ((FR.refl σ).wr (Or.inr ⟨rfl, by decide⟩)), zwr_same _ _ _ _, ?_, ?_⟩
    · simp only [zwr_rne, zwr_req, upd_ne, upd_eq, ne_eq, Nat.reduceEqDiff, not_false_eq_true]; exact hY
    · rw [zwr_rne (by decide)]
  have km : KM σ (zwr σ 72 61 (nI S)) := by
    unfold KM
    simp only [zwr_rne, zwr_req, upd_ne, upd_eq, ne_eq, Nat.reduceEqDiff, not_false_eq_true, and_self]
  have e46 : zwr σ 72 61 (nI S) 72 46 = β 72 46 := ip.1.1.2 46 (by decide)
  have e48 : zwr σ 72 61 (nI S) 72 48 = β 72 48 := ip.1.1.2 48 (by decide)
  rw [e46, e48]
  generalize zwr σ 72 61 (nI S) = σ1 at ip km
  rcases lawOf hβ with ⟨q1, -⟩ | ⟨q1, -⟩
  · rw [q1, if_pos rfl]
    exact h0 σ1 ip.1 km ip.2.2.1 (fun w => by have w1 := w.1; rw [q1] at w1; exact absurd w1 (by decide))
  · rw [q1, if_neg (by decide)]
    by_cases z : S = 0
    · subst z
      rw [if_pos (by rfl)]
      refine h0 σ1 ip.1 km ip.2.2.1 (fun w => ?_)
      obtain ⟨c, hc, hp⟩ := (tly5 (bN β)).2.1 w.2.1
      rw [Nat.zero_testBit] at hp
      exact absurd hp (by decide)
    · rw [if_neg (by rw [fa_eq, tin (by omega), ti0]; omega)]
      have hne' := hne z
      refine m_workQ hβ q1 ip km hS2 hY2 hne' (fun σ' ip' km' => ?_)
      by_cases e : ePs β (tly (fun c => S.testBit c) (bK β) (bV β) (vtY β Y) (bN β)) = 0
      · rw [if_pos e]
        exact h0 σ' ip'.1 km' ip'.2.2.1 (fun w => w.2.2 e)
      · rw [if_neg e]
        exact h1 σ' ip'.1 km' ip'.2.2.1 ⟨q1, (tly5 (bN β)).2.2 hne', e⟩
/-- those picked stand in their row -/
def SM (β : zMem) (P : Nat → Bool) (σ : zMem) : Prop := PB β σ ∧ σ 72 66 = nI (pks P (bN β)).1 ∧ ∀ i, i < (pks P (bN β)).1 → σ 112 i = nI ((pks P (bN β)).2 i)
theorem SM.fr {β σ σ' : zMem} {P : Nat → Bool} (h : SM β P σ) (hb : PB β σ') (hk : KM σ σ') : SM β P σ' := ⟨hb, by rw [hk.2.1]; exact h.2.1, by rw [hk.1]; exact h.2.2⟩
theorem m_findTen {G : zGT} {d : Nat} {Φ : zMem → Prop} {β σ : zMem} {k : Nat} {v : Int32} {P : Nat → Bool} (hb : PB β σ) (hβ : Rall β) (hP : ∀ c, c < bN β → (P c = true ↔ β 82 c = nI k ∧ (v = 0 ∨ β 83 c = 2))) (h : ∀ σ', SM β P σ' → Φ σ') : CTV G d Y_X12_findTen [.inr (.inr 72), .inl (nI k), .inl v] σ Φ := by
  have n24 := bN_24 hβ.any
  refine en_X12_findTen ?_
  rintro _ rfl
  have L : ∀ m i : Nat, i + m = bN β → ∀ τ : zMem, PB β τ → τ 72 66 = nI (pks P i).1 → (∀ j, j < (pks P i).1 → τ 112 j = nI ((pks P i).2 j)) →
      WJ G M_X12_findTen d (RV Φ) 7 [some (.inr (.inr 72)), some (.inl (nI k)), some (.inl v), some (.inl (nI i))] [] τ := by
    intro m
    induction m with
    | zero =>
      intro i hi τ hbt t5 tr
      refine rg_X12_findTen_7 ?_
      have : i = bN β := by omega
      subst this
      have en8 : τ 72 8 = nI (bN β) := by
        rw [hbt.1.2 8 (by decide)]
        have := hβ.1.2.2.1.2.1
        exact nI_of_toInt (by omega) (by unfold bN; omega)
      rw [en8, if_pos (nI_le (by omega) (by omega))]
      exact h τ ⟨hbt, t5, tr⟩
    | succ m ih =>
      intro i hi τ hbt t5 tr
      refine rg_X12_findTen_7 ?_
      have en8 : τ 72 8 = nI (bN β) := by
        rw [hbt.1.2 8 (by decide)]
        have := hβ.1.2.2.1.2.1
        exact nI_of_toInt (by omega) (by unfold bN; omega)
      obtain ⟨o1, o2, o3⟩ := pks_ok P i
      have vi : vp_in (nI i) 24 := vin (by omega)
      have g35 : τ 82 = β 82 := hbt.1.1 82 (by decide) (by decide) (by decide)
      have g36 : τ 83 = β 83 := hbt.1.1 83 (by decide) (by decide) (by decide)
      have hPi := hP i (by omega)
      rw [en8, if_neg (nI_ge (by omega) (by omega)), t5, cln (show i < 2147483648 by omega), g35, g36, nI_1]
      have skip : ¬ pkd P i = true → WJ G M_X12_findTen d (RV Φ) 7 [some (.inr (.inr 72)), some (.inl (nI k)), some (.inl v), some (.inl (nI (i + 1)))] [] τ := by
        intro q
        exact ih (i + 1) (by omega) τ hbt (by rw [pks_n q]; exact t5) (by rw [pks_n q]; exact tr)
      by_cases g10 : (pks P i).1 < 10
      · have q10 : ¬ (nI 10 ≤ nI (pks P i).1) := nI_ge (by omega) (by omega)
        rw [if_neg (show ¬ ((10 : Int32) ≤ nI (pks P i).1) from q10)]
        have v10 : vp_in (nI (pks P i).1) 10 := vin (by omega)
        have c10 : (nI (pks P i).1).toNatClampNeg = (pks P i).1 := cln (by omega)
        have pick : P i = true → (vp_in (nI (pks P i).1) 10 ∧ ∀ s1 : zMem, s1 = zwr τ 112 (nI (pks P i).1).toNatClampNeg (nI i) → (∀ s2 : zMem, s2 = zwr s1 72 66 ((s1 72 66) + 1) → (WJ G M_X12_findTen d (RV Φ) 7 [some (.inr (.inr 72)), some (.inl (nI k)), some (.inl v), some (.inl (nI (i + 1)))] [] s2))) := by
          intro hp
          have pk : pkd P i = true := by
            unfold pkd
            rw [hp, decide_eq_true g10]; rfl
          refine ⟨v10, ?_⟩
          rintro _ rfl
          rintro _ rfl
          refine ih (i + 1) (by omega) _ ((hbt.fr ((FR.refl τ).wr (k := 112) (Or.inl (by decide)))).fr ((FR.refl _).wr (k := 72) (Or.inr ⟨rfl, by decide⟩))) ?_ ?_
          · simp only [zwr_rne, zwr_req, upd_ne, upd_eq, ne_eq, Nat.reduceEqDiff, not_false_eq_true]
            rw [t5, nI_1, pks_y pk]
          · rw [pks_y pk]
            intro j hj
            have hj : j < (pks P i).1 + 1 := hj
            simp only [zwr_rne, zwr_req, upd_ne, upd_eq, ne_eq, Nat.reduceEqDiff, not_false_eq_true]
            rw [c10]
            by_cases e : j = (pks P i).1
            · subst e
              rw [upd_eq, if_pos rfl]
            · rw [upd_ne e]
              simp only [if_neg e]
              exact tr j (by omega)
        refine ⟨vi, ?_⟩
        by_cases g : β 82 i = nI k
        · rw [if_pos g]
          by_cases gv : v = 0
          · rw [if_pos gv]
            exact pick (hPi.2 ⟨g, Or.inl gv⟩)
          · rw [if_neg gv]
            refine ⟨vi, ?_⟩
            by_cases gw : β 83 i = 2
            · rw [if_pos gw]
              exact pick (hPi.2 ⟨g, Or.inr gw⟩)
            · rw [if_neg gw]
              refine skip (fun q => ?_)
              unfold pkd at q
              rw [Bool.and_eq_true] at q
              rcases (hPi.1 q.2).2 with w | w
              · exact gv w
              · exact gw w
        · rw [if_neg g]
          refine skip (fun q => ?_)
          unfold pkd at q
          rw [Bool.and_eq_true] at q
          exact g (hPi.1 q.2).1
      · have q10 : (nI 10 ≤ nI (pks P i).1) := nI_le (by omega) (by omega)
        rw [if_pos (show ((10 : Int32) ≤ nI (pks P i).1) from q10)]
        have stay : ∀ u : Nat, pks P (i + u) = pks P i := by
          intro u
          induction u with
          | zero => rfl
          | succ u ih2 =>
            rw [← Nat.add_assoc, pks_n, ih2]
            unfold pkd
            rw [ih2, Bool.and_eq_true, decide_eq_true_eq]
            exact fun q => g10 q.1
        have e := stay (m + 1)
        rw [hi] at e
        refine h τ ⟨hbt, by rw [e]; exact t5, by rw [e]; exact tr⟩
  exact L (bN β) 0 (by omega) _ (hb.fr ((FR.refl σ).wr (k := 72) (Or.inr ⟨rfl, by decide⟩))) (by simp only [zwr_rne, zwr_req, upd_ne, upd_eq, ne_eq, Nat.reduceEqDiff, not_false_eq_true]; rfl) (fun j hj => absurd hj (Nat.not_lt_zero j))
theorem bYs_24 {β : zMem} (h : Rall β) (P : Nat → Bool) (s : Nat) : bYs β P s < 2147483648 := sob_24 _ (bN_24 h.any)
theorem m_bitsOf {G : zGT} {d : Nat} {Φ : Int32 → zMem → Prop} {β σ : zMem} {P : Nat → Bool} {s : Nat} (hβ : Rall β) (hi : SM β P σ) (hs : s < 1024) (h : Φ (nI (bYs β P s)) σ) : CTI G d Y_X12_bitsOf [.inr (.inr 72), .inl (nI s)] σ Φ := by
  obtain ⟨o1, o2, o3⟩ := pks_ok P (bN β)
  have n24 := bN_24 hβ.any
  refine en_X12_bitsOf ?_
  have L : ∀ m i : Nat, i + m = (pks P (bN β)).1 → WJ G M_X12_bitsOf d (RI Φ) 4 [some (.inr (.inr 72)), some (.inl (nI s)), some (.inl (nI (itr (fun i b => if s.testBit i then b ||| 2 ^ ((pks P (bN β)).2 i) else b) i 0))), some (.inl (nI i))] [] σ := by
    intro m
    induction m with
    | zero =>
      intro i hii
      refine rg_X12_bitsOf_4 ?_
      have : i = (pks P (bN β)).1 := by omega
      subst this
      rw [hi.2.1, if_pos (nI_le (by omega) (by omega))]
      have e : itr (fun i b => if s.testBit i then b ||| 2 ^ ((pks P (bN β)).2 i) else b) (pks P (bN β)).1 0 = bYs β P s := by
        unfold bYs
        rw [sob_itr, fold_eq P s (fun c b => b ||| 2 ^ c) 0 (bN β)]
      rw [e]
      exact h
    | succ m ih =>
      intro i hii
      refine rg_X12_bitsOf_4 ?_
      have lt : i < (pks P (bN β)).1 := by omega
      obtain ⟨c1, c2, c3, c4⟩ := o3 i lt
      have ih' := ih (i + 1) (by omega)
      rw [itr_s] at ih'
      rw [hi.2.1, if_neg (nI_ge (by omega) (by omega)), nI_1]
      by_cases g : s.testBit i = true
      · rw [if_pos ((bt_test (by omega) (by omega)).2 g), cln (by omega), hi.2.2 i lt, bt_shl _ (by omega), bt_or]
        rw [if_pos g] at ih'
        exact ⟨vin (by omega), ih'⟩
      · rw [if_neg (fun q => g ((bt_test (by omega) (by omega)).1 q)), show (0 : Int32) = nI 0 from rfl, bt_or, Nat.or_zero]
        rw [if_neg g] at ih'
        exact ih'
  exact L (pks P (bN β)).1 0 (by omega)
theorem m_many {G : zGT} {d : Nat} {Φ : Int32 → zMem → Prop} {σ : zMem} {X : Nat} (hX : X < 2147483648) (h : ∀ v : Int32, v.toInt = sms X (fun _ => 1) 24 → Φ v σ) : CTI G d Y_X12_many [.inl (nI X)] σ Φ := by
  refine en_X12_many ?_
  have L : ∀ m i : Nat, i + m = 24 → ∀ v : Int32, v.toInt = sms X (fun _ => 1) i → WJ G M_X12_many d (RI Φ) 4 [some (.inl (nI X)), some (.inl v), some (.inl (nI i))] [] σ := by
    intro m
    induction m with
    | zero =>
      intro i hi v hv
      refine rg_X12_many_4 ?_
      have : i = 24 := by omega
      subst this
      rw [if_pos (by decide)]
      exact h v hv
    | succ m ih =>
      intro i hi v hv
      refine rg_X12_many_4 ?_
      have q24 : ¬ (nI 24 ≤ nI i) := nI_ge (by omega) (by omega)
      rw [if_neg (show ¬ ((24 : Int32) ≤ nI i) from q24), nI_1]
      refine ih (i + 1) (by omega) _ ?_
      have b := bt_bit hX (show i < 24 by omega)
      obtain ⟨s0, s1⟩ := sms_rng (s := X) (g := fun _ => 1) (B := 1) (t := i) (fun _ _ => by omega) (by omega)
      have bb : 0 ≤ (if X.testBit i = true then (1 : Int) else 0) ∧ (if X.testBit i = true then (1 : Int) else 0) ≤ 1 := by split <;> omega
      rw [sms_s, fb_addI (by omega) (by omega), hv, b]
  exact L 24 0 (by omega) 0 rfl
/-- how many there are in a set -/
theorem many_bYs {β : zMem} (h : Rall β) {P : Nat → Bool} {s : Nat} (hs : s < 2 ^ (pks P (bN β)).1) : sms (bYs β P s) (fun _ => 1) 24 = cnS s := by
  have n24 := bN_24 h.any
  have e1 := sms_cut (g := fun _ => 1) (show bYs β P s < 2 ^ bN β from sob_lt _ _) (24 - bN β)
  rw [show bN β + (24 - bN β) = 24 by omega] at e1
  rw [e1]
  have e2 := bYs_sum (β := β) (P := P) (s := s) (fun _ => 1)
  rw [cnS_cut (pks_ok P (bN β)).1 hs] at e2
  exact e2
/-- what is kept of the best set -/
def MB (β : zMem) (k w : Nat) (b : Option Nat) (v : Int32) (σ : zMem) : Prop := match b with
  | none => v = -1
  | some x => v = nI (bYs β (bPb β k) x) ∧ (σ 72 67).toInt = coS β (bPb β k) w x
theorem m_purchase {G : zGT} {d : Nat} {Φ : Int32 → zMem → Prop} {β σ : zMem} {k w : Nat} (hb : PB β σ) (hβ : Rall β) (hw : w ≤ 200) (h : ∀ σ' v, PB β σ' → MB β k w (bsB β k w (2 ^ (pks (bPb β k) (bN β)).1)) v σ' → Φ v σ') : CTI G (d + 6) Y_X12_purchase [.inr (.inr 72), .inl (nI k), .inl (nI w)] σ Φ := by
  obtain ⟨o1, o2, o3⟩ := pks_ok (bPb β k) (bN β)
  have p10 := pow_10 o1
  have n24 := bN_24 hβ.any
  refine en_X12_purchase ?_
  refine m_findTen (P := bPb β k) hb hβ (fun c hc => ?_) (fun σ1 i1 => ?_)
  · unfold bPb bIn
    rw [Bool.and_eq_true, decide_eq_true_eq, decide_eq_true_eq]
    exact ⟨fun q => ⟨q.1, Or.inr q.2⟩, fun q => ⟨q.1, by rcases q.2 with r | r; exact absurd r (by decide); exact r⟩⟩
  have L : ∀ m s : Nat, s + m = 2 ^ (pks (bPb β k) (bN β)).1 → ∀ (τ : zMem) (b : Int32), SM β (bPb β k) τ → MB β k w (bsB β k w s) b τ →
      WJ G M_X12_purchase (d + 6) (RI Φ) 11 [some (.inr (.inr 72)), some (.inl (nI k)), some (.inl (nI w)), some (.inl b), some (.inl (nI s)), none, none, none] [] τ := by
    intro m
    induction m with
    | zero =>
      intro s hs τ b it tb
      refine rg_X12_purchase_11 ?_
      have : s = 2 ^ (pks (bPb β k) (bN β)).1 := by omega
      subst this
      rw [it.2.1, shl_t o1, if_pos (nI_le (by omega) (by omega))]
      rintro _ rfl
      refine h _ b (it.1.fr ((FR.refl τ).wr (Or.inr ⟨rfl, by decide⟩))) ?_
      unfold MB at tb ⊢
      split
      · rename_i q; rw [q] at tb; exact tb
      · rename_i x q; rw [q] at tb
        simp only [zwr_rne, zwr_req, upd_ne, upd_eq, ne_eq, Nat.reduceEqDiff, not_false_eq_true]
        exact tb
    | succ m ih =>
      intro s hs τ b it tb
      refine rg_X12_purchase_11 ?_
      rw [it.2.1, shl_t o1, if_neg (nI_ge (by omega) (by omega))]
      refine m_bitsOf hβ it (by omega) ?_
      have hY2 := bYs_24 hβ (bPb β k) s
      have I : ∀ m i : Nat, i + m = (pks (bPb β k) (bN β)).1 → ∀ v : Int32, v.toInt = sms s (fun i => cst β w ((pks (bPb β k) (bN β)).2 i)) i → WJ G M_X12_purchase (d + 6) (RI Φ) 36 [some (.inr (.inr 72)), some (.inl (nI k)), some (.inl (nI w)), some (.inl b), some (.inl (nI s)), some (.inl (nI (bYs β (bPb β k) s))), some (.inl v), some (.inl (nI i))] [] τ := by
        intro m'
        induction m' with
        | zero =>
          intro i hii v hv
          refine rg_X12_purchase_36 ?_
          have : i = (pks (bPb β k) (bN β)).1 := by omega
          subst this
          rw [it.2.1, if_pos (nI_le (by omega) (by omega)), nI_1]
          have hv : v.toInt = coS β (bPb β k) w s := hv
          -- the set is not taken
          have no : ∀ τ', SM β (bPb β k) τ' → τ' 72 67 = τ 72 67 → ¬ ((bsB β k w s = none ∨ ∃ x, bsB β k w s = some x ∧ lsB β k w (0 + s) x) ∧ okB β k (0 + s)) → WJ G M_X12_purchase (d + 6) (RI Φ) 11 [some (.inr (.inr 72)), some (.inl (nI k)), some (.inl (nI w)), some (.inl b), some (.inl (nI (s + 1))), none, none, none] [] τ' := by
            intro τ' a c q
            refine ih (s + 1) (by omega) τ' b a ?_
            have e : bsB β k w (s + 1) = bsB β k w s := bst_n q
            rw [e]
            unfold MB at tb ⊢
            split
            · rename_i q; rw [q] at tb; exact tb
            · rename_i x q; rw [q] at tb; rw [c]; exact tb
          -- it is asked whether the set does
          have ask : (bsB β k w s = none ∨ ∃ x, bsB β k w s = some x ∧ lsB β k w (0 + s) x) → ∀ s1 : zMem, s1 = zwr τ 72 62 (nI (bYs β (bPb β k) s)) → (CTI G (d + 5) Y_X12_setOf [.inr (.inr 72), .inl (nI k)] s1 (fun (r3 : Int32) (s2 : zMem) => CTI G (d + 5) Y_X12_doesPassSet [.inr (.inr 72), .inl r3] s2 (fun (r5 : Int32) (s4 : zMem) => if r5 = 0 then (WJ G M_X12_purchase (d + 6) (RI Φ) 11 [some (.inr (.inr 72)), some (.inl (nI k)), some (.inl (nI w)), some (.inl b), some (.inl (nI (s + 1))), none, none, none] [] s4) else (∀ s6 : zMem, s6 = zwr s4 72 67 v → (WJ G M_X12_purchase (d + 6) (RI Φ) 11 [some (.inr (.inr 72)), some (.inl (nI k)), some (.inl (nI w)), some (.inl (nI (bYs β (bPb β k) s))), some (.inl (nI (s + 1))), none, none, none] [] s6))))) := by
            intro q
            rintro _ rfl
            have hb1 : PB β (zwr τ 72 62 (nI (bYs β (bPb β k) s))) := it.1.fr ((FR.refl τ).wr (Or.inr ⟨rfl, by decide⟩))
            have km : KM τ (zwr τ 72 62 (nI (bYs β (bPb β k) s))) := by
              unfold KM
              simp only [zwr_rne, zwr_req, upd_ne, upd_eq, ne_eq, Nat.reduceEqDiff, not_false_eq_true, and_self]
            refine m_setOf hb1 hβ ?_
            have eT : tly (fun c => (sob (bIn β k) (bN β)).testBit c) (bK β) (bV β) (vtY β (bYs β (bPb β k) s)) (bN β) = tly (bIn β k) (bK β) (bV β) (vtY β (bYs β (bPb β k) s)) (bN β) := by
              refine tly_congr (bN β) (fun i hi => ⟨?_, fun _ => rfl⟩)
              show (sob (bIn β k) (bN β)).testBit i = bIn β k i
              rw [sob_bit, decide_eq_true hi, Bool.true_and]
            refine m_doesPassQ (S := sob (bIn β k) (bN β)) (Y := bYs β (bPb β k) s) hβ hb1 (zwr_same _ _ _ _) (sob_24 _ n24) hY2 sob_any (fun σ' a c _ g => ?_) (fun σ' a c _ g => ?_)
            · rw [if_neg (by decide)]
              rintro _ rfl
              rw [eT] at g
              have kc := km.trans c
              have i2 := it.fr a kc
              refine ih (s + 1) (by omega) _ _ ⟨a.fr ((FR.refl σ').wr (Or.inr ⟨rfl, by decide⟩)), ?_, ?_⟩ ?_
              · simp only [zwr_rne, zwr_req, upd_ne, upd_eq, ne_eq, Nat.reduceEqDiff, not_false_eq_true]; exact i2.2.1
              · rw [zwr_rne (by decide)]; exact i2.2.2
              · have e : bsB β k w (s + 1) = some (0 + s) := bst_y q (by rw [Nat.zero_add]; exact g)
                rw [e, Nat.zero_add]
                exact ⟨rfl, by rw [zwr_same]; exact hv⟩
            · rw [if_pos rfl]
              rw [eT] at g
              have kc := km.trans c
              refine no σ' (it.fr a kc) kc.2.2 (fun q2 => g ?_)
              have := q2.2
              rw [Nat.zero_add] at this
              exact this
          have self := fun q => no τ it rfl q
          cases hbs : bsB β k w s with
          | none =>
            rw [hbs] at tb ask
            have tb : b = -1 := tb
            rw [if_pos (by rw [tb]; decide)]
            exact ask (Or.inl rfl)
          | some x =>
            have hx := bst_lt s x hbs
            rw [Nat.zero_add] at hx
            rw [hbs] at tb ask self
            obtain ⟨t1, t9⟩ := tb
            have hX2 := bYs_24 hβ (bPb β k) x
            rw [if_neg (by rw [t1, fa_lt, ti0, tin (by omega)]; omega)]
            have notless : ¬ lsB β k w s x → ¬ ((some x = none ∨ ∃ y, some x = some y ∧ lsB β k w (0 + s) y) ∧ okB β k (0 + s)) := by
              rintro q ⟨r | ⟨y, e, r⟩, _⟩
              · cases r
              · injection e with e
                subst e
                rw [Nat.zero_add] at r
                exact q r
            have less : lsB β k w s x → (some x = none ∨ ∃ y, some x = some y ∧ lsB β k w (0 + s) y) := fun q => Or.inr ⟨x, rfl, by rw [Nat.zero_add]; exact q⟩
            refine zlt (fun g => ?_) (fun g => ?_)
            · rw [hv, t9] at g
              refine self (notless (fun q => ?_))
              rcases q with q | ⟨q, _⟩ <;> omega
            · rw [hv, t9] at g
              refine zeq (fun g2 => ?_) (fun g2 => ?_)
              · rw [hv, t9] at g2
                refine m_many hY2 (fun v1 h1 => ?_)
                rw [t1]
                refine m_many hX2 (fun v2 h2 => ?_)
                rw [many_bYs hβ (by omega)] at h1
                rw [many_bYs hβ (by omega)] at h2
                rw [t1] at ask self
                refine zlt (fun g3 => ?_) (fun g3 => ?_)
                · rw [h1, h2] at g3
                  exact ask (less (Or.inr ⟨g2, g3⟩))
                · rw [h1, h2] at g3
                  refine self (notless (fun q => ?_))
                  rcases q with q | ⟨_, q⟩ <;> omega
              · rw [hv, t9] at g2
                exact ask (less (Or.inl (by omega)))
        | succ m' ih' =>
          intro i hii v hv
          refine rg_X12_purchase_36 ?_
          have lt : i < (pks (bPb β k) (bN β)).1 := by omega
          obtain ⟨c1, c2, c3, c4⟩ := o3 i lt
          have hc' := (bN_c hβ.any).1 c1
          obtain ⟨r0, r1⟩ := cst_rng hβ hw c1
          obtain ⟨s0, s1⟩ := sms_rng (s := s) (g := fun i => cst β w ((pks (bPb β k) (bN β)).2 i)) (B := 200000) (t := i) (fun j hj => cst_rng hβ hw (o3 j (by omega)).1) (by omega)
          rw [it.2.1, if_neg (nI_ge (by omega) (by omega)), nI_1]
          by_cases g : s.testBit i = true
          · rw [if_pos ((bt_test (by omega) (by omega)).2 g), cln (by omega), it.2.2 i lt]
            refine ⟨vin (by omega), ?_⟩
            have e8 : τ 72 8 = β 72 8 := it.1.1.2 8 (by decide)
            obtain ⟨q1, q2, q3, q4⟩ := hβ.2.2.2.1.1 _ hc'
            have kd := hβ.2.2.1.1 _ hc'
            refine mr_valueOf (by rw [e8]; exact hc') (by rw [e8]; exact hβ.1.2.2.1.2.2) (by rw [it.1.1.1 84 (by decide) (by decide) (by decide)]; exact q2) (by rw [it.1.1.1 84 (by decide) (by decide) (by decide)]; exact q3) (by rw [it.1.1.1 81 (by decide) (by decide) (by decide)]; exact kd.2.2.2.2.2.2.2.2.2.2.1) ?_
            refine ⟨by decide, ?_⟩
            rw [it.1.1.2 22 (by decide), it.1.1.1 84 (by decide) (by decide) (by decide), it.1.1.1 85 (by decide) (by decide) (by decide), it.1.1.1 86 (by decide) (by decide) (by decide), it.1.1.1 81 (by decide) (by decide) (by decide)]
            have cv := cst_val hβ hw c1 (show (valS (β 72 22) (β 84) (β 85) (β 86) (β 81) ((pks (bPb β k) (bN β)).2 i)).toInt = bV β ((pks (bPb β k) (bN β)).2 i) from rfl)
            refine ih' (i + 1) (by omega) _ ?_
            rw [fb_addI (by omega) (by omega), hv, sms_s, if_pos g, cv]
          · rw [if_neg (fun q => g ((bt_test (by omega) (by omega)).1 q)), Int32.add_zero]
            refine ih' (i + 1) (by omega) _ ?_
            rw [hv, sms_s, if_neg g, Int.add_zero]
      exact I (pks (bPb β k) (bN β)).1 0 (by omega) 0 rfl
  exact L (2 ^ (pks (bPb β k) (bN β)).1) 0 (by omega) σ1 (-1) i1 rfl
def MA (β : zMem) (k : Nat) (b : Option Nat) (v : Int32) : Prop := match b with
  | none => v = -1
  | some x => v = nI (bYs β (bIn β k) x)
theorem m_partOf {G : zGT} {d : Nat} {Φ : Int32 → zMem → Prop} {β σ : zMem} {k : Nat} (hb : PB β σ) (hβ : Rall β) (h : ∀ σ' v, PB β σ' → MA β k (bsA β k (2 ^ (pks (bIn β k) (bN β)).1 - 1)) v → Φ v σ') : CTI G (d + 6) Y_X12_partOf [.inr (.inr 72), .inl (nI k)] σ Φ := by
  obtain ⟨o1, o2, o3⟩ := pks_ok (bIn β k) (bN β)
  have p10 := pow_10 o1
  have pp := Nat.two_pow_pos (pks (bIn β k) (bN β)).1
  have n24 := bN_24 hβ.any
  refine en_X12_partOf ?_
  refine m_findTen (P := bIn β k) hb hβ (fun c hc => ?_) (fun σ1 i1 => ?_)
  · unfold bIn
    rw [decide_eq_true_eq]
    exact ⟨fun q => ⟨q, Or.inl rfl⟩, fun q => q.1⟩
  rintro _ rfl
  have i1' : SM β (bIn β k) (zwr σ1 72 62 0) := by
    refine i1.fr (i1.1.fr ((FR.refl σ1).wr (Or.inr ⟨rfl, by decide⟩))) ?_
    unfold KM
    simp only [zwr_rne, zwr_req, upd_ne, upd_eq, ne_eq, Nat.reduceEqDiff, not_false_eq_true, and_self]
  have L : ∀ m s : Nat, s + 1 + m = 2 ^ (pks (bIn β k) (bN β)).1 → ∀ (τ : zMem) (b : Int32), SM β (bIn β k) τ → τ 72 62 = nI 0 → MA β k (bsA β k s) b →
      WJ G M_X12_partOf (d + 6) (RI Φ) 15 [some (.inr (.inr 72)), none, some (.inl b), some (.inl (nI (s + 1))), none] [] τ := by
    intro m
    induction m with
    | zero =>
      intro s hs τ b it t62 tb
      refine rg_X12_partOf_15 ?_
      rw [it.2.1, shl_t o1, if_pos (nI_le (by omega) (by omega))]
      have e : s = 2 ^ (pks (bIn β k) (bN β)).1 - 1 := by omega
      rw [← e] at h
      exact h τ b it.1 tb
    | succ m ih =>
      intro s hs τ b it t62 tb
      refine rg_X12_partOf_15 ?_
      rw [it.2.1, shl_t o1, if_neg (nI_ge (by omega) (by omega)), nI_1]
      refine m_bitsOf hβ it (by omega) ?_
      have hY2 := bYs_24 hβ (bIn β k) (s + 1)
      have no : ∀ τ', SM β (bIn β k) τ' → τ' 72 62 = nI 0 → ¬ ((bsA β k s = none ∨ ∃ x, bsA β k s = some x ∧ lsA (1 + s) x) ∧ okA β k (1 + s)) → WJ G M_X12_partOf (d + 6) (RI Φ) 15 [some (.inr (.inr 72)), none, some (.inl b), some (.inl (nI (s + 1 + 1))), none] [] τ' := by
        intro τ' a c q
        refine ih (s + 1) (by omega) τ' b a c ?_
        have e : bsA β k (s + 1) = bsA β k s := bst_n q
        rw [e]
        exact tb
      have eT : tly (fun c => (bYs β (bIn β k) (s + 1)).testBit c) (bK β) (bV β) (vtY β 0) (bN β) = tly (Qs (bIn β k) (s + 1)) (bK β) (bV β) (bVt β) (bN β) := by
        refine tly_congr (bN β) (fun i hi => ⟨bYs_bit hi, fun _ => ?_⟩)
        unfold vtY
        rw [Nat.zero_testBit]
        rfl
      have ask : (bsA β k s = none ∨ ∃ x, bsA β k s = some x ∧ lsA (1 + s) x) → CTI G (d + 5) Y_X12_doesPassSet [.inr (.inr 72), .inl (nI (bYs β (bIn β k) (s + 1)))] τ (fun (r4 : Int32) (s3 : zMem) => if r4 = 0 then (WJ G M_X12_partOf (d + 6) (RI Φ) 15 [some (.inr (.inr 72)), none, some (.inl b), some (.inl (nI (s + 1 + 1))), none] [] s3) else (WJ G M_X12_partOf (d + 6) (RI Φ) 15 [some (.inr (.inr 72)), none, some (.inl (nI (bYs β (bIn β k) (s + 1)))), some (.inl (nI (s + 1 + 1))), none] [] s3)) := by
        intro q
        refine m_doesPassQ (S := bYs β (bIn β k) (s + 1)) (Y := 0) hβ it.1 t62 hY2 (by decide) sob_any (fun σ' a c c2 g => ?_) (fun σ' a c c2 g => ?_)
        · rw [if_neg (by decide)]
          rw [eT] at g
          refine ih (s + 1) (by omega) σ' _ (it.fr a c) c2 ?_
          have e : bsA β k (s + 1) = some (1 + s) := bst_y q (by rw [Nat.add_comm]; exact g)
          rw [e, Nat.add_comm]
          exact rfl
        · rw [if_pos rfl]
          rw [eT] at g
          refine no σ' (it.fr a c) c2 (fun q2 => g ?_)
          have := q2.2
          rw [Nat.add_comm] at this
          exact this
      cases hbs : bsA β k s with
      | none =>
        rw [hbs] at tb ask
        have tb : b = -1 := tb
        rw [if_pos (by rw [tb]; decide)]
        exact ask (Or.inl rfl)
      | some x =>
        have hx := bst_lt s x hbs
        rw [hbs] at tb ask no
        have tb : b = nI (bYs β (bIn β k) x) := tb
        have hX2 := bYs_24 hβ (bIn β k) x
        rw [if_neg (by rw [tb, fa_lt, ti0, tin (by omega)]; omega)]
        refine m_many hY2 (fun v1 h1 => ?_)
        rw [tb]
        refine m_many hX2 (fun v2 h2 => ?_)
        rw [many_bYs hβ (by omega)] at h1
        rw [many_bYs hβ (by omega)] at h2
        rw [tb] at ask no
        refine zle (fun g => ?_) (fun g => ?_)
        · rw [h1, h2] at g
          refine no τ it t62 ?_
          rintro ⟨r | ⟨y, e, r⟩, _⟩
          · cases r
          · injection e with e
            subst e
            rw [Nat.add_comm] at r
            unfold lsA at r
            omega
        · rw [h1, h2] at g
          exact ask (Or.inr ⟨x, rfl, by rw [Nat.add_comm]; exact g⟩)
  exact L (2 ^ (pks (bIn β k) (bN β)).1 - 1) 0 (by omega) _ (-1) i1' (zwr_same _ _ _ _) rfl
