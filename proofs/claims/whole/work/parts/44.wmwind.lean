theorem fb_divI {x y : Int32} (hx : 0 ≤ x.toInt) (hy : 0 < y.toInt) : (x / y).toInt = x.toInt / y.toInt := by
  have r := fb_rng x
  have h1 : 0 ≤ x.toInt / y.toInt := Int.ediv_nonneg hx (by omega)
  have h2 : x.toInt / y.toInt ≤ x.toInt := Int.ediv_le_self _ hx
  rw [Int32.toInt_div, Int.tdiv_eq_ediv_of_nonneg hx, fb_bmod (by omega) (by omega)]
/-- what an asset brings, from the full sum -/
theorem br_val {v w m : Int32} (h1 : 0 ≤ v.toInt) (h2 : v.toInt ≤ 100000) (w1 : 0 ≤ w.toInt) (w2 : w.toInt ≤ 4) (m1 : 0 ≤ m.toInt) (m2 : m.toInt ≤ 24) :
    (v - v * (w * m) / 100).toInt = v.toInt - v.toInt * (w.toInt * m.toInt) / 100 ∧ 0 ≤ v.toInt - v.toInt * (w.toInt * m.toInt) / 100 ∧ v.toInt - v.toInt * (w.toInt * m.toInt) / 100 ≤ 100000 := by
  have a0 : 0 ≤ w.toInt * m.toInt := Int.mul_nonneg w1 m1
  have a1 : w.toInt * m.toInt ≤ 4 * 24 := Int.mul_le_mul w2 m2 m1 (by omega)
  have b0 : 0 ≤ v.toInt * (w.toInt * m.toInt) := Int.mul_nonneg h1 a0
  have b1 : v.toInt * (w.toInt * m.toInt) ≤ v.toInt * 96 := Int.mul_le_mul_of_nonneg_left (by omega) h1
  have e1 : (w * m).toInt = w.toInt * m.toInt := fb_mulI (by omega) (by omega)
  have e2 : (v * (w * m)).toInt = v.toInt * (w.toInt * m.toInt) := by rw [fb_mulI (by rw [e1]; omega) (by rw [e1]; omega), e1]
  have e3 : (v * (w * m) / 100).toInt = v.toInt * (w.toInt * m.toInt) / 100 := by rw [fb_divI (by omega) (by rw [ti100]; omega), e2, ti100]
  generalize v.toInt * (w.toInt * m.toInt) = z at b0 b1 e3
  rw [fb_subI (by omega) (by omega), e3]
  omega
theorem m_bringsOf {G : zGT} {d : Nat} {β σ : zMem} {Φ : Int32 → zMem → Prop} {a s : Nat} (hβ : Rany β) (hm : MF β σ) (ha : (a : Int) < (β 72 2).toInt) (hs : s < 2) (h : ∀ v : Int32, v.toInt = bB β s a → 0 ≤ v.toInt → v.toInt ≤ 100000 → Φ v σ) : CTI G d Y_X12_bringsOf [.inr (.inr 72), .inl (nI a), .inl (nI s)] σ Φ := by
  obtain ⟨⟨k1, k2, k3, k4, k5, k6, k7, k8, k9⟩, kas, -⟩ := id hβ
  obtain ⟨q1, q2, q3, q4, q5, q6, q7, q8, q9, q10, q11, q12, q13, q14, q15⟩ := kas a ha
  have u2 := k2.2.2
  obtain ⟨-, b6, u6⟩ := k6
  have va : vp_in (nI a) 16 := vin (by omega)
  refine en_X12_bringsOf ?_
  rw [cln (by omega), hm.1 74 (by decide) (by decide), hm.1 75 (by decide) (by decide), hm.1 76 (by decide) (by decide), hm.2 23 (by decide) (by decide)]
  have s2 : s = 0 ∨ s = 1 := by omega
  rcases s2 with rfl | rfl
  · rw [if_pos (by decide)]
    obtain ⟨e1, e2, e3⟩ := br_val q8 q9 b6 u6 q12 q13
    exact ⟨va, va, by decide, h _ e1 (by rw [e1]; exact e2) (by rw [e1]; exact e3)⟩
  · rw [if_neg (by decide)]
    obtain ⟨e1, e2, e3⟩ := br_val q10 q11 b6 u6 q12 q13
    exact ⟨va, va, by decide, h _ e1 (by rw [e1]; exact e2) (by rw [e1]; exact e3)⟩
def ws0 (β : zMem) : zWS := (bA β, fun _ => 0, fun _ => 0, 0, fun _ _ => 0)
theorem WI.init {β : zMem} (h : Rany β) : WI (bN β) 0 (ws0 β) := by
  refine ⟨fun c hc => ?_, fun f _ => Int.le_refl _, ?_, ?_⟩
  · obtain ⟨a1, a2⟩ := bA_rng h hc
    show 0 ≤ bA β c ∧ (0 : Int) ≤ 0 ∧ bA β c + 0 ≤ 100000
    omega
  · show isum (fun _ => (0 : Int)) 6 ≤ 0
    decide
  · have : isum (ws0 β).2.1 (bN β) = 0 := by
      show isum (fun _ => (0 : Int)) (bN β) = 0
      induction bN β with
      | zero => rfl
      | succ n ih => show isum _ n + 0 = 0; rw [ih]; rfl
    rw [this]
    show ((0 : Nat) : Int) ≤ 0
    omega
/-- the state after the first a assets -/
def wsA (β : zMem) (s a : Nat) : zWS := itr (wsAsset (bH β) (bB β s) (β 73) (β 77)) a (ws0 β)
theorem bB_rng {β : zMem} {s a : Nat} (h : Rany β) (ha : (a : Int) < (β 72 2).toInt) : 0 ≤ bB β s a ∧ bB β s a ≤ 100000 := by
  obtain ⟨⟨k1, k2, k3, k4, k5, k6, k7, k8, k9⟩, kas, -⟩ := id h
  obtain ⟨q1, q2, q3, q4, q5, q6, q7, q8, q9, q10, q11, q12, q13, q14, q15⟩ := kas a ha
  obtain ⟨-, b6, u6⟩ := k6
  unfold bB wsBr
  by_cases g : s = 0
  · rw [if_pos g]
    exact (br_val q8 q9 b6 u6 q12 q13).2
  · rw [if_neg g]
    exact (br_val q10 q11 b6 u6 q12 q13).2
theorem WI.asset {β : zMem} {s a : Nat} {B : Int} {S : zWS} (h : Rany β) (ha : (a : Int) < (β 72 2).toInt) (hw : WI (bN β) B S) : WI (bN β) (B + 100000) (wsAsset (bH β) (bB β s) (β 73) (β 77) a S) := by
  obtain ⟨b0, b1⟩ := bB_rng (s := s) h ha
  obtain ⟨q1, q2, q3, q4, q5, q6, q7, q8, q9, q10, q11, q12, q13, q14, q15⟩ := h.2.1 a ha
  have u1 := h.1.1.2.2
  have hf : (β 73 a).toInt.toNat < 6 := by omega
  have w2 := hw.addCash hf b0
  unfold wsAsset
  by_cases g : (β 77 a).toInt < 0
  · rw [if_pos g]
    exact w2.more (by omega)
  · rw [if_neg g]
    have hc : (β 77 a).toInt.toNat < bN β := by rw [bN_c h]; omega
    have o := hw.1 _ hc
    refine (w2.pay hf hc ?_ ?_ ?_).more (by omega)
    · split <;> omega
    · show _ ≤ S.1 _
      split <;> omega
    · show _ ≤ S.2.2.1 _ + (if _ = _ then bB β s a else 0)
      rw [if_pos rfl]
      have := hw.2.1 _ hf
      split <;> omega
theorem WI.assets {β : zMem} {s : Nat} (h : Rany β) : ∀ a : Nat, (a : Int) ≤ (β 72 2).toInt → WI (bN β) (100000 * a) (wsA β s a)
  | 0, _ => (WI.init h).more (by omega)
  | a + 1, ha => ((WI.asset (s := s) h (by omega) (WI.assets h a (by omega)))).more (by omega)
theorem WI.round {n rd : Nat} {B : Int} {hd : Nat → Int} {ir : Nat → Nat → Nat → Bool} {S : zWS} (h : WI n B S) : ∀ fm : Nat, fm ≤ 6 → WI n B (wsRound ir hd fm n rd S)
  | 0, _ => h
  | f + 1, hf => WI.firm (by omega) 4 0 _ (WI.round h f (by omega))
theorem m_windUp {G : zGT} {d : Nat} {β : zMem} {Φ : zMem → Prop} {s : Nat} (hβ : Rany β) (hs : s < 2)
    (hp : ∀ q σ', MS β q (wsLoop (bR β) (bH β) (β 72 1).toInt.toNat (bN β) 60 0 (wsA β s (β 72 2).toInt.toNat)).1 (wsLoop (bR β) (bH β) (β 72 1).toInt.toNat (bN β) 60 0 (wsA β s (β 72 2).toInt.toNat)).2 σ' → Φ σ') : CTV G (d + 4) Y_X12_windUp [.inr (.inr 72), .inl (nI s)] β Φ := by
  have n24 := bN_24 hβ
  obtain ⟨⟨k1, k2, k3, k4, k5, k6, k7, k8, k9⟩, kas, kcl, kda, kdh, -⟩ := id hβ
  obtain ⟨-, b1, u1⟩ := id k1
  obtain ⟨-, b2, u2⟩ := id k2
  obtain ⟨-, b3, u3⟩ := id k3
  have en8 : ∀ τ : zMem, MF β τ → τ 72 8 = nI (bN β) := by
    intro τ ht
    rw [ht.2 8 (by decide) (by decide)]
    exact nI_of_toInt (by omega) (by unfold bN; omega)
  have en1 : ∀ τ : zMem, MF β τ → τ 72 1 = nI (β 72 1).toInt.toNat := by
    intro τ ht
    rw [ht.2 1 (by decide) (by decide)]
    exact nI_of_toInt (by omega) (by omega)
  have en2 : ∀ τ : zMem, MF β τ → τ 72 2 = nI (β 72 2).toInt.toNat := by
    intro τ ht
    rw [ht.2 2 (by decide) (by decide)]
    exact nI_of_toInt (by omega) (by omega)
  generalize hfm : (β 72 1).toInt.toNat = fm at en1 hp
  generalize hna : (β 72 2).toInt.toNat = na at en2 hp
  have wa := WI.assets (s := s) hβ na (by omega)
  -- a round's ranks of a firm
  have L208 : ∀ (rd : Nat) (v3 : Int32) (f : Nat), rd ≤ 60 → f < 6 → ∀ (k r : Nat) (S : zWS), r + k = 4 → WI (bN β) (100000 * na) S → ∀ (q : Nat → Int32) (τ : zMem), MS β q rd S τ →
      (∀ q' τ', MS β q' rd (wsFirm (fun c r => bR β c f r) (bH β) (bN β) f rd k r S) τ' → WJ G M_X12_windUp (d + 4) (RV Φ) 196 [some (.inr (.inr 72)), none, none, some (.inl v3), some (.inl (nI (f + 1))), none] [] τ') →
      WJ G M_X12_windUp (d + 4) (RV Φ) 208 [some (.inr (.inr 72)), none, none, some (.inl v3), some (.inl (nI f)), some (.inl (nI r))] [] τ := by
    intro rd v3 f hrd hf k
    induction k with
    | zero =>
      intro r S hr hw q τ hτ H
      refine rg_X12_windUp_208 ?_
      have : r = 4 := by omega
      subst this
      rw [if_pos (by decide), nI_1]
      exact H q τ hτ
    | succ k ih =>
      intro r S hr hw q τ hτ H
      refine rg_X12_windUp_208 ?_
      have q4 : ¬ (nI 4 ≤ nI r) := nI_ge (by omega) (by omega)
      rw [if_neg (show ¬ ((4 : Int32) ≤ nI r) from q4), nI_1, nI_1]
      refine m_payRank hβ hw (by omega) hf (by omega) hrd hτ (fun q' τ' h' => ?_)
      by_cases g : wsTot (fun c => bR β c f r) S.1 (bN β) ≤ S.2.2.1 f
      · rw [if_pos g, if_neg (by decide)]
        refine ih (r + 1) _ (by omega) (hw.rank hf) q' τ' h' (fun q'' τ'' h'' => H q'' τ'' ?_)
        unfold wsFirm
        rw [if_pos g]
        exact h''
      · rw [if_neg g, if_pos rfl]
        refine H q' τ' ?_
        unfold wsFirm
        rw [if_neg g]
        exact h'
  -- a round
  have L196 : ∀ (rd rows0 : Nat) (S0 : zWS), rd ≤ 60 → rows0 ≤ 2400000 → WI (bN β) (100000 * na) S0 → (∀ q' τ', MS β q' rd (wsRound (bR β) (bH β) fm (bN β) rd S0) τ' → (if (wsRound (bR β) (bH β) fm (bN β) rd S0).2.2.2.1 ≤ rows0 then WJ G M_X12_windUp (d + 4) (RV Φ) 165 [some (.inr (.inr 72)), none, some (.inl 0), none, none, none] [] τ' else WJ G M_X12_windUp (d + 4) (RV Φ) 165 [some (.inr (.inr 72)), none, some (.inl 1), none, none, none] [] τ')) →
      ∀ m f : Nat, f + m = fm → ∀ (q : Nat → Int32) (τ : zMem), MS β q rd (wsRound (bR β) (bH β) f (bN β) rd S0) τ →
      WJ G M_X12_windUp (d + 4) (RV Φ) 196 [some (.inr (.inr 72)), none, none, some (.inl (nI rows0)), some (.inl (nI f)), none] [] τ := by
    intro rd rows0 S0 hrd hr0 hw0 H m
    induction m with
    | zero =>
      intro f hf q τ hτ
      refine rg_X12_windUp_196 ?_
      have : f = fm := by omega
      subst this
      rw [en1 τ hτ.1, if_pos (nI_le (by omega) (by omega))]
      have hw := WI.round (rd := rd) (hd := bH β) (ir := bR β) hw0 f (by omega)
      have rr := hw.rows n24
      have e40 : (τ 72 40).toInt = ((wsRound (bR β) (bH β) f (bN β) rd S0).2.2.2.1 : Int) := hτ.2.2.2.2.2.1
      have HH := H q τ hτ
      by_cases g : (wsRound (bR β) (bH β) f (bN β) rd S0).2.2.2.1 ≤ rows0
      · rw [if_pos g] at HH
        rw [if_pos (by rw [fa_le, e40, tin (by omega)]; omega)]
        exact HH
      · rw [if_neg g] at HH
        rw [if_neg (by rw [fa_le, e40, tin (by omega)]; omega)]
        exact HH
    | succ m ih =>
      intro f hf q τ hτ
      refine rg_X12_windUp_196 ?_
      rw [en1 τ hτ.1, if_neg (nI_ge (by omega) (by omega))]
      have hw := WI.round (rd := rd) (hd := bH β) (ir := bR β) hw0 f (by omega)
      exact L208 rd (nI rows0) f hrd (by omega) 4 0 _ rfl hw q τ hτ (fun q' τ' h' => ih (f + 1) (by omega) q' τ' h')
  have L165 : ∀ (k rd : Nat) (S : zWS), rd + k = 60 → WI (bN β) (100000 * na) S → (∀ q σ', MS β q (wsLoop (bR β) (bH β) fm (bN β) k rd S).1 (wsLoop (bR β) (bH β) fm (bN β) k rd S).2 σ' → Φ σ') → ∀ (q : Nat → Int32) (τ : zMem), MS β q rd S τ →
      WJ G M_X12_windUp (d + 4) (RV Φ) 165 [some (.inr (.inr 72)), none, some (.inl 1), none, none, none] [] τ := by
    intro k
    induction k with
    | zero =>
      intro rd S hr hw H q τ hτ
      refine rg_X12_windUp_165 ?_
      have : rd = 60 := by omega
      subst this
      rw [if_neg (by decide), hτ.2.2.1, if_pos (by decide)]
      exact H q τ hτ
    | succ k ih =>
      intro rd S hr hw H q τ hτ
      refine rg_X12_windUp_165 ?_
      have q60 : ¬ (nI 60 ≤ nI rd) := nI_ge (by omega) (by omega)
      rw [if_neg (by decide), hτ.2.2.1, if_neg (show ¬ ((60 : Int32) ≤ nI rd) from q60), nI_1]
      rintro _ rfl
      have rr := hw.rows n24
      have e40 : τ 72 40 = nI S.2.2.2.1 := nI_of_toInt (by omega) hτ.2.2.2.2.2.1
      have e40' : zwr τ 72 39 (nI (rd + 1)) 72 40 = nI S.2.2.2.1 := by rw [zwr_req, upd_ne (by decide)]; exact e40
      have ms : MS β q (rd + 1) S (zwr τ 72 39 (nI (rd + 1))) := by
        obtain ⟨m1, m0, m2, m3⟩ := hτ
        have z : mzz (zwr τ 72 39 (nI (rd + 1))) = mzz τ := by
          funext a b
          simp only [mzz, zwr_rne, ne_eq, Nat.reduceEqDiff, not_false_eq_true]
        refine ⟨m1.wr (by omega), by rw [zwr_rne (by decide)]; exact m0, zwr_same _ _ _ _, ?_⟩
        rw [z]
        simp only [zwr_rne, zwr_req, upd_ne, upd_eq, ne_eq, Nat.reduceEqDiff, not_false_eq_true]
        exact m3
      rw [e40']
      refine L196 (rd + 1) S.2.2.2.1 S (by omega) (by omega) hw (fun q' τ' h' => ?_) fm 0 (by omega) q _ ms
      unfold wsLoop at H
      by_cases g : S.2.2.2.1 < (wsRound (bR β) (bH β) fm (bN β) (rd + 1) S).2.2.2.1
      · rw [if_neg (by omega)]
        simp only [if_pos g] at H
        exact ih (rd + 1) _ (by omega) (WI.round hw fm (by omega)) H q' τ' h'
      · rw [if_pos (by omega)]
        simp only [if_neg g] at H
        refine rg_X12_windUp_165 ?_
        rw [if_pos rfl]
        exact H q' τ' h'
  -- the assets
  have L71 : ∀ m a : Nat, a + m = na → ∀ (q : Nat → Int32) (τ : zMem), MS β q 0 (wsA β s a) τ →
      WJ G M_X12_windUp (d + 4) (RV Φ) 71 [some (.inr (.inr 72)), some (.inl (nI s)), some (.inl (nI a)), none, none, none] [] τ := by
    intro m
    induction m with
    | zero =>
      intro a ha q τ hτ
      refine rg_X12_windUp_71 ?_
      have : a = na := by omega
      subst this
      rw [en2 τ hτ.1, if_pos (nI_le (by omega) (by omega))]
      exact L165 60 0 _ (by omega) wa hp q τ hτ
    | succ m ih =>
      intro a ha q τ hτ
      refine rg_X12_windUp_71 ?_
      rw [en2 τ hτ.1, if_neg (nI_ge (by omega) (by omega)), nI_1]
      have a2 : (a : Int) < (β 72 2).toInt := by omega
      have hw := WI.assets (s := s) hβ a (by omega)
      obtain ⟨q1, q2, q3, q4, q5, q6, q7, q8, q9, q10, q11, q12, q13, q14, q15⟩ := kas a a2
      have va : vp_in (nI a) 16 := vin (by omega)
      have ca : (nI a).toNatClampNeg = a := cln (by omega)
      obtain ⟨f, hf, hf2, hf3⟩ := num_of q6 (show (β 73 a).toInt ≤ 5 by omega)
      have tf : (β 73 a).toInt.toNat = f := by rw [hf, tin hf3]; omega
      have vf : vp_in (nI f) 6 := vin (by omega)
      have cf : (nI f).toNatClampNeg = f := cln (by omega)
      have ih' := ih (a + 1) (by omega)
      have st : wsA β s (a + 1) = wsAsset (bH β) (bB β s) (β 73) (β 77) a (wsA β s a) := rfl
      rw [st] at ih'
      unfold wsAsset at ih'
      rw [tf] at ih'
      have f73 : ∀ τ' : zMem, MF β τ' → τ' 73 a = nI f := fun τ' h' => by rw [h'.1 73 (by decide) (by decide), hf]
      have hcf := hw.cash (f := f) (by omega)
      have hnf := hw.2.1 f (by omega)
      refine m_bringsOf hβ hτ.1 a2 hs (fun v hv hv0 hv1 => ?_)
      rw [ca, hτ.1.1 77 (by decide) (by decide), f73 τ hτ.1]
      refine ⟨va, ?_⟩
      by_cases g : (β 77 a).toInt < 0
      · rw [if_pos (by rw [fa_lt, ti0]; exact g)]
        simp only [if_pos g] at ih'
        refine ⟨va, vf, vf, ?_⟩
        rintro _ rfl
        rw [cf]
        refine ih' q _ ?_
        rw [← hv]
        exact hτ.cashAdd (by omega) (by omega) (by omega)
      · rw [if_neg (by rw [fa_lt, ti0]; exact g)]
        simp only [if_neg g] at ih'
        obtain ⟨c, hc, hc2, hc3⟩ := num_of (show 0 ≤ (β 77 a).toInt by omega) (show (β 77 a).toInt ≤ 23 by omega)
        have tc : (β 77 a).toInt.toNat = c := by rw [hc, tin hc3]; omega
        have hcn : c < bN β := by rw [bN_c hβ]; rw [hc, tin hc3] at q15; exact q15
        have o := hw.1 c hcn
        have oc : (τ 98 c).toInt = (wsA β s a).1 c := (hτ.2.2.2.1 c hcn).1
        have rr := hw.rows n24
        have vc : vp_in (nI c) 24 := vin (by omega)
        rw [tc] at ih'
        rw [hc, cln (show c < 2147483648 by omega)]
        have cash6 : ∀ g : Nat, g < 6 → -2000000 ≤ (wsA β s a).2.2.1 g ∧ (wsA β s a).2.2.1 g ≤ 2000000 := fun g hg => by
          have := hw.2.1 g hg
          have := hw.cash hg
          omega
        have step : ∀ V : Int32, V.toInt = (if bB β s a ≤ (wsA β s a).1 c then bB β s a else (wsA β s a).1 c) → CTV G (d + 3) Y_X12_pay [.inr (.inr 72), .inl (nI f), .inl (nI c), .inl V] τ (fun s4 : zMem => vp_in (nI a) 16 ∧ (vp_in (s4 73 a) 6 ∧ (vp_in (s4 73 a) 6 ∧ ∀ s5 : zMem, s5 = zwr s4 100 (s4 73 a).toNatClampNeg ((s4 100 (s4 73 a).toNatClampNeg) + (v - V)) → (WJ G M_X12_windUp (d + 4) (RV Φ) 71 [some (.inr (.inr 72)), some (.inl (nI s)), some (.inl (nI (a + 1))), none, none, none] [] s5)))) := by
          intro V hV
          have V0 : 0 ≤ V.toInt := by rw [hV]; split <;> omega
          have V1 : V.toInt ≤ (wsA β s a).1 c := by rw [hV]; split <;> omega
          have V2 : V.toInt ≤ v.toInt := by rw [hV]; split <;> omega
          refine m_pay hβ hτ (by omega) hcn V1 (by omega) o.2.1 (by omega) (by omega) cash6 (by omega) (fun σ' h' => ?_)
          rw [f73 σ' h'.1, cf]
          refine ⟨va, vf, vf, ?_⟩
          rintro _ rfl
          refine ih' q _ ?_
          have ev : (v - V).toInt = v.toInt - V.toInt := fb_subI (by omega) (by omega)
          rw [← hV, wsPay_M2 V0, ← hv, ← ev]
          have pc : 0 ≤ (wsPayM (bH β) 0 f c V.toInt (wsA β s a)).2.2.1 f ∧ (wsPayM (bH β) 0 f c V.toInt (wsA β s a)).2.2.1 f ≤ 2000000 := by
            unfold wsPayM
            by_cases g0 : V.toInt ≤ 0
            · rw [if_pos g0]; omega
            · rw [if_neg g0]
              show 0 ≤ (wsA β s a).2.2.1 f + (if _ then V.toInt else 0) ∧ (wsA β s a).2.2.1 f + (if _ then V.toInt else 0) ≤ 2000000
              split <;> omega
          exact h'.cashAdd (by omega) (by omega) (by omega)
        refine ⟨vc, ?_⟩
        refine zle (fun g2 => ⟨vc, va, ?_⟩) (fun g2 => ⟨va, ?_⟩)
        · refine step _ ?_
          rw [oc]
          split <;> omega
        · refine step v ?_
          rw [if_pos (by omega)]; exact hv
  -- the claims' amounts
  have L33 : ∀ m c : Nat, c + m = bN β → ∀ τ : zMem, MF β τ → τ 72 39 = nI 0 → τ 72 40 = 0 → (∀ f : Nat, f < 6 → τ 100 f = 0) → (∀ i : Nat, i < c → (τ 98 i).toInt = bA β i ∧ τ 99 i = 0) →
      WJ G M_X12_windUp (d + 4) (RV Φ) 33 [some (.inr (.inr 72)), some (.inl (nI s)), some (.inl (nI c)), none, none, none] [] τ := by
    intro m
    induction m with
    | zero =>
      intro c hc τ t1 t2 t3 t4 t5
      refine rg_X12_windUp_33 ?_
      have : c = bN β := by omega
      rw [en8 τ t1, if_pos (nI_le (by omega) (by omega))]
      refine L71 na 0 (by omega) (τ 105) τ ⟨t1, rfl, t2, ?_⟩
      refine ⟨fun i hi => ?_, fun f hf => ?_, ?_, fun k hk => ?_⟩
      · obtain ⟨w1, w2⟩ := t5 i (by omega)
        exact ⟨w1, by rw [w2]; rfl⟩
      · rw [t4 f hf]; rfl
      · rw [t3]; rfl
      · exact absurd hk (Nat.not_lt_zero k)
    | succ m ih =>
      intro c hc τ t1 t2 t3 t4 t5
      refine rg_X12_windUp_33 ?_
      rw [en8 τ t1, if_neg (nI_ge (by omega) (by omega)), nI_1]
      have hc' : (c : Int) < (β 72 8).toInt := (bN_c hβ).1 (by omega)
      have e8 : τ 72 8 = β 72 8 := t1.2 8 (by decide) (by decide)
      have e84 : τ 84 = β 84 := t1.1 84 (by decide) (by decide)
      have e85 : τ 85 = β 85 := t1.1 85 (by decide) (by decide)
      have e86 : τ 86 = β 86 := t1.1 86 (by decide) (by decide)
      have e0 : τ 72 0 = β 72 0 := t1.2 0 (by decide) (by decide)
      obtain ⟨q1, q2, q3, -⟩ := kda.1 c hc'
      have vc : vp_in (nI c) 24 := vin (by omega)
      refine mr_amountOn (by rw [e8]; exact hc') (by rw [e8]; exact u3) (by rw [e84]; exact q2) (by rw [e84]; exact q3) ?_
      rw [e0, e84, e85, e86, cln (by omega)]
      refine ⟨vc, ?_⟩
      rintro _ rfl
      refine ⟨vc, ?_⟩
      rintro _ rfl
      refine ih (c + 1) (by omega) _ ((t1.wr (by omega)).wr (by omega)) ?_ ?_ ?_ ?_
      · simp only [zwr_rne, zwr_req, upd_ne, upd_eq, ne_eq, Nat.reduceEqDiff, not_false_eq_true]; exact t2
      · simp only [zwr_rne, zwr_req, upd_ne, upd_eq, ne_eq, Nat.reduceEqDiff, not_false_eq_true]; exact t3
      · simp only [zwr_rne, zwr_req, upd_ne, upd_eq, ne_eq, Nat.reduceEqDiff, not_false_eq_true]; exact t4
      · intro i hi
        simp only [zwr_rne, zwr_req, upd_ne, upd_eq, ne_eq, Nat.reduceEqDiff, not_false_eq_true]
        by_cases e : i = c
        · subst e; rw [upd_eq, upd_eq]; exact ⟨rfl, rfl⟩
        · rw [upd_ne e, upd_ne e]; exact t5 i (by omega)
  have L12 : ∀ m f : Nat, f + m = 6 → ∀ τ : zMem, MF β τ → τ 72 39 = nI 0 → τ 72 40 = 0 → (∀ i : Nat, i < f → τ 100 i = 0) →
      WJ G M_X12_windUp (d + 4) (RV Φ) 12 [some (.inr (.inr 72)), some (.inl (nI s)), some (.inl (nI f)), none, none, none] [] τ := by
    intro m
    induction m with
    | zero =>
      intro f hf τ t1 t2 t3 t4
      refine rg_X12_windUp_12 ?_
      have : f = 6 := by omega
      subst this
      rw [if_pos (by decide)]
      exact L33 (bN β) 0 (by omega) τ t1 t2 t3 t4 (fun i hi => by omega)
    | succ m ih =>
      intro f hf τ t1 t2 t3 t4
      refine rg_X12_windUp_12 ?_
      have q6 : ¬ (nI 6 ≤ nI f) := nI_ge (by omega) (by omega)
      rw [if_neg (show ¬ ((6 : Int32) ≤ nI f) from q6), nI_1, cln (by omega)]
      refine ⟨vin (by omega), ?_⟩
      rintro _ rfl
      refine ih (f + 1) (by omega) _ (t1.wr (by omega)) ?_ ?_ ?_
      · simp only [zwr_rne, zwr_req, upd_ne, upd_eq, ne_eq, Nat.reduceEqDiff, not_false_eq_true]; exact t2
      · simp only [zwr_rne, zwr_req, upd_ne, upd_eq, ne_eq, Nat.reduceEqDiff, not_false_eq_true]; exact t3
      · intro i hi
        simp only [zwr_rne, zwr_req, upd_ne, upd_eq, ne_eq, Nat.reduceEqDiff, not_false_eq_true]
        by_cases e : i = f
        · subst e; rw [upd_eq]
        · rw [upd_ne e]; exact t4 i (by omega)
  refine en_X12_windUp ?_
  rintro _ rfl
  rintro _ rfl
  refine L12 6 0 rfl _ (((MF.refl β).wr (by omega)).wr (by omega)) ?_ ?_ (fun i hi => by omega)
  · simp only [zwr_rne, zwr_req, upd_ne, upd_eq, ne_eq, Nat.reduceEqDiff, not_false_eq_true]; rfl
  · simp only [zwr_rne, zwr_req, upd_ne, upd_eq, ne_eq, Nat.reduceEqDiff, not_false_eq_true]
