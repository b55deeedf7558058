def lvM (q : Nat) : zYD := if q = 0 then Y_X12_readOr else if q = 1 then Y_X12_readAnd else if q = 2 then Y_X12_readTest else if q = 3 then Y_X12_readSum else Y_X12_readTerm
theorem lvM0 : lvM 0 = Y_X12_readOr := rfl
theorem lvM1 : lvM 1 = Y_X12_readAnd := rfl
theorem lvM2 : lvM 2 = Y_X12_readTest := rfl
theorem lvM3 : lvM 3 = Y_X12_readSum := rfl
theorem lvM4 : lvM 4 = Y_X12_readTerm := rfl
def HN (G : zGT) (N : Int32 → Prop) (ρ : zMem) : Prop := ∀ (d : Nat) (Φ : Int32 → zMem → Prop) (σ : zMem) (L : Int32), NF ρ σ → (N L → Φ 1 σ) → (¬ N L → Φ 0 σ) → CTI G d Y_X12_isName [.inr (.inr 72), .inl L] σ Φ
theorem m_ts {G : zGT} {D : Nat} {Φ : zMem → Prop} {t : Nat → Int32} {n : Nat} {N : Int32 → Prop} {ρ : zMem} {p0 dep : Nat} (hN : ¬ N (-1)) (hc : NT t n ρ) (hD : 40 * (8 - dep) + 41 ≤ D)
    (hS : ∀ (D : Nat) (S : zPS) (σ : zMem) (Φ : zMem → Prop), p0 < S.1 → S.2.2.1 ≤ S.1 → 40 * (8 - dep) + 41 ≤ D → NX n ρ dep S σ → (∀ R σ', Ev t n N 3 0 dep S R → NR n ρ dep R σ' → Φ σ') → CTV G D Y_X12_readSum [.inr (.inr 72)] σ Φ)
    {S2 : zPS} {τ : zMem} (hb : BL t n S2.1 = S2.1) (hp : p0 ≤ S2.1) (hk : S2.2.2.1 ≤ S2.1) (x2 : NX n ρ dep S2 τ) (H : ∀ R σ', Ev t n N 12 0 dep S2 R → NR n ρ dep R σ' → Φ σ') :
    CTI G (D + 2) Y_X12_here [.inr (.inr 72)] τ (fun (r3 : Int32) (s2 : zMem) => if (s2 72 53) = 0 then (if r3 = (60 : Int32) then (∀ s4 : zMem, s4 = zwr s2 72 52 ((s2 72 52) + (1 : Int32)) → (∀ s5 : zMem, s5 = zwr s4 72 55 ((s4 72 55) + (1 : Int32)) → (if r3 = (61 : Int32) then (CTV G (D + 2) Y_X12_readSum [.inr (.inr 72)] s5 (fun (s6 : zMem) => CTV G (D + 2) Y_X12_finish [.inr (.inr 72), .inl r3] s6 (fun (s7 : zMem) => Φ s7))) else (CTI G (D + 2) Y_X12_here [.inr (.inr 72)] s5 (fun (r9 : Int32) (s8 : zMem) => if r9 = (61 : Int32) then (∀ s10 : zMem, s10 = zwr s8 72 52 ((s8 72 52) + (1 : Int32)) → (if r3 = (60 : Int32) then (CTV G (D + 2) Y_X12_readSum [.inr (.inr 72)] s10 (fun (s11 : zMem) => CTV G (D + 2) Y_X12_finish [.inr (.inr 72), .inl (4 : Int32)] s11 (fun (s12 : zMem) => Φ s12))) else (CTV G (D + 2) Y_X12_readSum [.inr (.inr 72)] s10 (fun (s13 : zMem) => CTV G (D + 2) Y_X12_finish [.inr (.inr 72), .inl (5 : Int32)] s13 (fun (s14 : zMem) => Φ s14))))) else (CTV G (D + 2) Y_X12_readSum [.inr (.inr 72)] s8 (fun (s15 : zMem) => CTV G (D + 2) Y_X12_finish [.inr (.inr 72), .inl r3] s15 (fun (s16 : zMem) => Φ s16)))))))) else (if r3 = (62 : Int32) then (∀ s17 : zMem, s17 = zwr s2 72 52 ((s2 72 52) + (1 : Int32)) → (∀ s18 : zMem, s18 = zwr s17 72 55 ((s17 72 55) + (1 : Int32)) → (if r3 = (61 : Int32) then (CTV G (D + 2) Y_X12_readSum [.inr (.inr 72)] s18 (fun (s19 : zMem) => CTV G (D + 2) Y_X12_finish [.inr (.inr 72), .inl r3] s19 (fun (s20 : zMem) => Φ s20))) else (CTI G (D + 2) Y_X12_here [.inr (.inr 72)] s18 (fun (r22 : Int32) (s21 : zMem) => if r22 = (61 : Int32) then (∀ s23 : zMem, s23 = zwr s21 72 52 ((s21 72 52) + (1 : Int32)) → (if r3 = (60 : Int32) then (CTV G (D + 2) Y_X12_readSum [.inr (.inr 72)] s23 (fun (s24 : zMem) => CTV G (D + 2) Y_X12_finish [.inr (.inr 72), .inl (4 : Int32)] s24 (fun (s25 : zMem) => Φ s25))) else (CTV G (D + 2) Y_X12_readSum [.inr (.inr 72)] s23 (fun (s26 : zMem) => CTV G (D + 2) Y_X12_finish [.inr (.inr 72), .inl (5 : Int32)] s26 (fun (s27 : zMem) => Φ s27))))) else (CTV G (D + 2) Y_X12_readSum [.inr (.inr 72)] s21 (fun (s28 : zMem) => CTV G (D + 2) Y_X12_finish [.inr (.inr 72), .inl r3] s28 (fun (s29 : zMem) => Φ s29)))))))) else (if r3 = (61 : Int32) then (∀ s30 : zMem, s30 = zwr s2 72 52 ((s2 72 52) + (1 : Int32)) → (∀ s31 : zMem, s31 = zwr s30 72 55 ((s30 72 55) + (1 : Int32)) → (if r3 = (61 : Int32) then (CTV G (D + 2) Y_X12_readSum [.inr (.inr 72)] s31 (fun (s32 : zMem) => CTV G (D + 2) Y_X12_finish [.inr (.inr 72), .inl r3] s32 (fun (s33 : zMem) => Φ s33))) else (CTI G (D + 2) Y_X12_here [.inr (.inr 72)] s31 (fun (r35 : Int32) (s34 : zMem) => if r35 = (61 : Int32) then (∀ s36 : zMem, s36 = zwr s34 72 52 ((s34 72 52) + (1 : Int32)) → (if r3 = (60 : Int32) then (CTV G (D + 2) Y_X12_readSum [.inr (.inr 72)] s36 (fun (s37 : zMem) => CTV G (D + 2) Y_X12_finish [.inr (.inr 72), .inl (4 : Int32)] s37 (fun (s38 : zMem) => Φ s38))) else (CTV G (D + 2) Y_X12_readSum [.inr (.inr 72)] s36 (fun (s39 : zMem) => CTV G (D + 2) Y_X12_finish [.inr (.inr 72), .inl (5 : Int32)] s39 (fun (s40 : zMem) => Φ s40))))) else (CTV G (D + 2) Y_X12_readSum [.inr (.inr 72)] s34 (fun (s41 : zMem) => CTV G (D + 2) Y_X12_finish [.inr (.inr 72), .inl r3] s41 (fun (s42 : zMem) => Φ s42)))))))) else (Φ s2)))) else (Φ s2)) := by
  have n96 := hc.1
  have hS2 := x2.2.1.1
  have eb : sBl t n S2 = S2 := by unfold sBl; rw [hb]
  have fin2 : ∀ (s : Int32) (σ5 : zMem), lvl (gtx t n S2.1) = 2 → sgs t n S2 = s → NX n ρ dep (sSg t n S2) σ5 → CTV G (D + 2) Y_X12_readSum [.inr (.inr 72)] σ5 (fun (s6 : zMem) => CTV G (D + 2) Y_X12_finish [.inr (.inr 72), .inl s] s6 (fun (s7 : zMem) => Φ s7)) := by
    intro s σ5 hl hs x5
    obtain ⟨o1, o2, o3, o4, o5, o6⟩ := lvl_op (t := t) (n := n) (q := 2) (S := S2) hl (by decide)
    have l : lvl (gtx t n (BL t n S2.1)) + 10 = 12 := by rw [hb, hl]
    refine hS (D + 2) (sSg t n S2) σ5 _ (by omega) (by rw [o6]; omega) (by omega) x5 (fun R5 σ6 ev5 r5 => ?_)
    obtain ⟨y1, y2, y3⟩ := ev5.good hN (by decide) o3
    have ev5' : Ev t n N (12 - 9) 0 dep (sSg t n (sBl t n S2)) R5 := by rw [eb]; exact ev5
    by_cases e5 : R5.1 = true
    · obtain ⟨y4, _, _, y7, _⟩ := y3 e5
      rw [o6] at y4
      refine m_fin hc (r5.1 e5) (by omega) (fun σ7 x7 => ?_)
      have e7 : sBl t n (sEm s 0 R5.2) = sEm s 0 R5.2 := by
        unfold sBl
        show (BL t n R5.2.1, (sEm s 0 R5.2).2) = _
        rw [y7 (Or.inl (by decide))]; rfl
      rw [e7] at x7
      refine H (true, sEm s 0 R5.2) σ7 ?_ x7.ok
      have E := E_go2 (q := 12) rfl l ev5' e5
      rw [eb, hs] at E
      exact E
    · have w5 := r5.2 e5
      refine m_finW w5 ?_
      exact H R5 σ6 (E_goF (by decide) l ev5' e5) (w5.nr e5)
  refine m_hx hc x2 ?_
  rw [if_pos x2.2.2.2.1]
  by_cases c60 : gtx t n S2.1 = 60
  · rw [if_pos c60]
    rintro _ rfl _ rfl
    have lt : S2.1 < n := gtx_in (fun z => by rw [z] at c60; exact absurd c60 (by decide))
    rw [if_neg (by rw [c60]; decide)]
    have x3 := x2.adv lt
    refine m_hx hc x3 ?_
    show if gtx t n (S2.1 + 1) = 61 then _ else _
    have l2 : lvl (gtx t n S2.1) = 2 := by rw [c60]; rfl
    by_cases c61 : gtx t n (S2.1 + 1) = 61
    · rw [if_pos c61]
      rintro _ rfl
      rw [if_pos c60]
      have lt2 : S2.1 + 1 < n := gtx_in (fun z => by rw [z] at c61; exact absurd c61 (by decide))
      refine fin2 4 _ l2 ?_ ?_
      · unfold sgs; rw [if_pos ⟨Or.inl c60, c61⟩, if_pos c60]
      · have e : sSg t n S2 = (S2.1 + 2, S2.2.1 + 1, S2.2.2) := by unfold sSg; rw [if_pos ⟨Or.inl c60, c61⟩]
        rw [e]
        exact x3.stp lt2
    · rw [if_neg c61]
      refine fin2 _ _ l2 ?_ ?_
      · unfold sgs; rw [if_neg (fun z => c61 z.2)]
      · have e : sSg t n S2 = sAdv S2 := by unfold sSg; rw [if_neg (fun z => c61 z.2)]
        rw [e]
        exact x3
  rw [if_neg c60]
  by_cases c62 : gtx t n S2.1 = 62
  · rw [if_pos c62]
    rintro _ rfl _ rfl
    have lt : S2.1 < n := gtx_in (fun z => by rw [z] at c62; exact absurd c62 (by decide))
    rw [if_neg (by rw [c62]; decide)]
    have x3 := x2.adv lt
    refine m_hx hc x3 ?_
    show if gtx t n (S2.1 + 1) = 61 then _ else _
    have l2 : lvl (gtx t n S2.1) = 2 := by rw [c62]; rfl
    by_cases c61 : gtx t n (S2.1 + 1) = 61
    · rw [if_pos c61]
      rintro _ rfl
      rw [if_neg c60]
      have lt2 : S2.1 + 1 < n := gtx_in (fun z => by rw [z] at c61; exact absurd c61 (by decide))
      refine fin2 5 _ l2 ?_ ?_
      · unfold sgs; rw [if_pos ⟨Or.inr c62, c61⟩, if_neg c60]
      · have e : sSg t n S2 = (S2.1 + 2, S2.2.1 + 1, S2.2.2) := by unfold sSg; rw [if_pos ⟨Or.inr c62, c61⟩]
        rw [e]
        exact x3.stp lt2
    · rw [if_neg c61]
      refine fin2 _ _ l2 ?_ ?_
      · unfold sgs; rw [if_neg (fun z => c61 z.2)]
      · have e : sSg t n S2 = sAdv S2 := by unfold sSg; rw [if_neg (fun z => c61 z.2)]
        rw [e]
        exact x3
  rw [if_neg c62]
  by_cases c61 : gtx t n S2.1 = 61
  · rw [if_pos c61]
    rintro _ rfl _ rfl
    have lt : S2.1 < n := gtx_in (fun z => by rw [z] at c61; exact absurd c61 (by decide))
    rw [if_pos c61]
    have x3 := x2.adv lt
    have l2 : lvl (gtx t n S2.1) = 2 := by rw [c61]; rfl
    have nm : ¬ ((gtx t n S2.1 = 60 ∨ gtx t n S2.1 = 62) ∧ gtx t n (S2.1 + 1) = 61) := fun z => by rcases z.1 with w | w; exact c60 w; exact c62 w
    refine fin2 _ _ l2 ?_ ?_
    · unfold sgs; rw [if_neg nm]
    · have e : sSg t n S2 = sAdv S2 := by unfold sSg; rw [if_neg nm]
      rw [e]
      exact x3
  rw [if_neg c61]
  have E : Ev t n N 12 0 dep S2 (true, sBl t n S2) := by
    refine E_end (by decide) (fun l => ?_)
    rw [hb] at l
    rcases lvl_val (gtx t n S2.1) with ⟨a, b⟩ | ⟨a, b⟩ | ⟨a, b⟩ | ⟨a, b⟩ | ⟨a, b⟩ | ⟨a, b⟩ | ⟨a, b⟩ | ⟨a, b⟩ | ⟨-, -, -, -, -, -, -, -, b⟩
    all_goals first | omega | contradiction
  rw [eb] at E
  exact H _ τ E x2.ok
theorem m_part {G : zGT} {t : Nat → Int32} {n : Nat} {N : Int32 → Prop} {ρ : zMem} (hN : ∀ L, N L → 97 ≤ L.toInt) (hc : NT t n ρ) (hNm : HN G N ρ) {p0 : Nat}
    (H0 : ∀ (dep D : Nat) (S : zPS) (σ : zMem) (Φ : zMem → Prop), p0 < S.1 → dep ≤ 8 → 40 * (8 - dep) + 50 ≤ D → NX n ρ dep S σ → S.2.2.1 ≤ S.1 → (∀ R σ', Ev t n N 0 0 dep S R → NR n ρ dep R σ' → Φ σ') → CTV G D Y_X12_readOr [.inr (.inr 72)] σ Φ)
    (H5 : ∀ (a dep D : Nat) (S : zPS) (σ : zMem) (Φ : zMem → Prop), p0 < S.1 → a ≤ 20 → dep ≤ 8 → 40 * (8 - dep) + 35 - a ≤ D → NX n ρ dep S σ → S.2.2.1 ≤ S.1 → (∀ R σ', Ev t n N 5 a dep S R → NR n ρ dep R σ' → Φ σ') → CTV G D Y_X12_readPart [.inr (.inr 72), .inl (nI a)] σ Φ)
    {a dep D : Nat} {S : zPS} {σ : zMem} {Φ : zMem → Prop} (hp : p0 ≤ S.1) (ha : a ≤ 20) (hd : dep ≤ 8) (hD : 40 * (8 - dep) + 35 - a ≤ D) (hx : NX n ρ dep S σ) (hk : S.2.2.1 ≤ S.1) (h : ∀ R σ', Ev t n N 5 a dep S R → NR n ρ dep R σ' → Φ σ') : CTV G D Y_X12_readPart [.inr (.inr 72), .inl (nI a)] σ Φ := by
  have n96 := hc.1
  have hS := hx.2.1.1
  have b1 := BL_ge t n S.1
  have hN1 : ¬ N (-1) := fun w => absurd (hN _ w) (by decide)
  obtain ⟨D, rfl⟩ : ∃ x, D = x + 4 := ⟨D - 4, by omega⟩
  refine en_X12_readPart ?_
  refine m_blY hc hx (fun σ1 x1 => ?_)
  rw [if_pos x1.2.2.2.1]
  refine m_hx hc x1 ?_
  have x1n : gtx t n (sBl t n S).1 = gtx t n (BL t n S.1) := rfl
  rw [x1n]
  refine m_isDigit (fun q => ?_) (fun q => ?_)
  · rw [if_neg (by decide)]
    have lt : BL t n S.1 < n := isD_in q
    have m : ¬ (gtx t n (BL t n S.1) = 33 ∨ gtx t n (BL t n S.1) = 45) := by
      rintro (z | z)
      · rw [z] at q; exact absurd q.1 (by decide)
      · rw [z] at q; exact absurd q.1 (by decide)
    refine m_num hc x1 (by show S.2.2.1 < 96; omega) (fun e σ' x => ?_) (fun e σ' w => ?_)
    · exact h (true, sNum t n (sBl t n S)) σ' (E_bare m (E_numY q e)) x.ok
    · exact h (false, sNum t n (sBl t n S)) σ' (E_bare m (E_numN q e)) (NW.no w)
  rw [if_pos rfl]
  refine hNm _ _ σ1 _ x1.1 (fun nm => ?_) (fun nm => ?_)
  · rw [if_neg (by decide)]
    have g97 := hN _ nm
    have lt : BL t n S.1 < n := gtx_in (fun z => by rw [z] at g97; exact absurd g97 (by decide))
    have m : ¬ (gtx t n (BL t n S.1) = 33 ∨ gtx t n (BL t n S.1) = 45) := by
      rintro (z | z)
      · rw [z] at g97; exact absurd g97 (by decide)
      · rw [z] at g97; exact absurd g97 (by decide)
    have np : ¬ (gtx t n (BL t n S.1) = 40 ∧ dep < 8) := by
      rintro ⟨z, _⟩
      rw [z] at g97; exact absurd g97 (by decide)
    rintro _ rfl _ rfl
    refine m_em (x1.adv lt) (by show S.2.2.1 < 96; omega) (fun σ' x => ?_)
    exact h (true, sEm 2 (gtx t n (BL t n S.1)) (sAdv (sBl t n S))) σ' (E_bare m (E_name (S := sBl t n S) q np nm)) x.ok
  rw [if_pos rfl]
  -- a mark more
  have mark : (gtx t n (BL t n S.1) = 33 ∨ gtx t n (BL t n S.1) = 45) → a < 20 → ∀ s18 : zMem, s18 = zwr σ1 72 52 ((σ1 72 52) + (1 : Int32)) → (∀ s19 : zMem, s19 = zwr s18 72 55 ((s18 72 55) + (1 : Int32)) → (CTV G (D + 3) Y_X12_readPart [.inr (.inr 72), .inl (nI a + (1 : Int32))] s19 (fun (s20 : zMem) => if (s20 72 53) = 0 then (if gtx t n (BL t n S.1) = (33 : Int32) then (CTV G (D + 3) Y_X12_emit [.inr (.inr 72), .inl (33 : Int32), .inl (0 : Int32)] s20 (fun (s21 : zMem) => Φ s21)) else (CTV G (D + 3) Y_X12_emit [.inr (.inr 72), .inl (3 : Int32), .inl (0 : Int32)] s20 (fun (s22 : zMem) => Φ s22))) else (Φ s20)))) := by
    intro m a20
    have lt : BL t n S.1 < n := gtx_in (fun z => by rw [z] at m; revert m; decide)
    rintro _ rfl _ rfl
    rw [nI_1]
    refine H5 (a + 1) dep (D + 3) (sAdv (sBl t n S)) _ _ (by show p0 < BL t n S.1 + 1; omega) (by omega) hd (by omega) (x1.adv lt) (by show S.2.2.1 ≤ BL t n S.1 + 1; omega) (fun R σ' ev r => ?_)
    obtain ⟨y1, y2, y3⟩ := ev.good hN1 (by decide) (show BL t n S.1 + 1 ≤ n by omega)
    have E := E_mark m a20 ev
    by_cases e : R.1 = true
    · have x := r.1 e
      obtain ⟨y4, _⟩ := y3 e
      have y4 : R.2.2.2.1 + (BL t n S.1 + 1) ≤ S.2.2.1 + R.2.1 := y4
      rw [if_pos x.2.2.2.1]
      rw [if_pos e] at E
      by_cases c33 : gtx t n (BL t n S.1) = 33
      · rw [if_pos c33]
        have e3 : mrk (gtx t n (BL t n S.1)) = 33 := by rw [c33]; rfl
        rw [e3] at E
        exact m_em x (by omega) (fun σ'' x'' => h _ σ'' E x''.ok)
      · rw [if_neg c33]
        have e3 : mrk (gtx t n (BL t n S.1)) = 3 := by unfold mrk; rw [if_neg c33]
        rw [e3] at E
        exact m_em x (by omega) (fun σ'' x'' => h _ σ'' E x''.ok)
    · have w := r.2 e
      rw [if_neg (w1 w)]
      rw [if_neg e] at E
      exact h R σ' E r
  have le20 : (20 : Int32) ≤ nI a ↔ ¬ a < 20 := by
    rw [fa_le, tin (by omega), ti20]; omega
  by_cases c33 : gtx t n (BL t n S.1) = 33
  · rw [if_pos c33]
    by_cases a20 : a < 20
    · rw [if_neg (fun z => le20.1 z a20)]
      exact mark (Or.inl c33) a20
    · rw [if_pos (le20.2 a20), if_neg (by rw [c33]; decide)]
      rintro _ rfl
      exact h (false, sBl t n S) _ (E_marks (Or.inl c33) a20) (NW.no x1.wrong)
  rw [if_neg c33]
  by_cases c45 : gtx t n (BL t n S.1) = 45
  · rw [if_pos c45]
    by_cases a20 : a < 20
    · rw [if_neg (fun z => le20.1 z a20)]
      exact mark (Or.inr c45) a20
    · rw [if_pos (le20.2 a20), if_neg (by rw [c45]; decide)]
      rintro _ rfl
      exact h (false, sBl t n S) _ (E_marks (Or.inr c45) a20) (NW.no x1.wrong)
  rw [if_neg c45]
  have m : ¬ (gtx t n (BL t n S.1) = 33 ∨ gtx t n (BL t n S.1) = 45) := by
    rintro (z | z)
    · exact c33 z
    · exact c45 z
  have e60 : σ1 72 60 = nI dep := x1.2.2.2.2.2.2.1
  by_cases c40 : gtx t n (BL t n S.1) = 40
  · rw [if_pos c40, e60]
    by_cases d8 : dep < 8
    · rw [if_neg (show ¬ (8 : Int32) ≤ nI dep from nI_ge (b := 8) (by omega) (by omega))]
      have lt : BL t n S.1 < n := gtx_in (fun z => by rw [z] at c40; exact absurd c40 (by decide))
      rintro _ rfl _ rfl _ rfl
      have xa := x1.adv lt
      have ea : zwr (zwr σ1 72 52 ((σ1 72 52) + 1)) 72 55 (((zwr σ1 72 52 ((σ1 72 52) + 1)) 72 55) + 1) 72 60 + 1 = nI (dep + 1) := by rw [xa.2.2.2.2.2.2.1, nI_1]
      refine H0 (dep + 1) (D + 3) (sAdv (sBl t n S)) _ _ (by show p0 < BL t n S.1 + 1; omega) (by omega) (by omega) (xa.deep ea) (by show S.2.2.1 ≤ BL t n S.1 + 1; omega) (fun R σ' ev r => ?_)
      rintro _ rfl
      by_cases e : R.1 = true
      · have x := r.1 e
        have eb : σ' 72 60 - 1 = nI dep := by rw [x.2.2.2.2.2.2.1, nI_pred]
        refine m_blY hc (x.deep eb) (fun σ3 x3 => ?_)
        refine m_need hc (by decide) x3 (fun g σ4 x4 => ?_) (fun g σ4 w4 => ?_)
        · rintro _ rfl
          exact h (true, sAdv (sBl t n R.2)) _ (E_bare m (E_parY (S := sBl t n S) ⟨c40, d8⟩ ev e g)) x4.word.ok
        · rintro _ rfl
          exact h (false, sBl t n R.2) _ (E_bare m (E_parN (S := sBl t n S) ⟨c40, d8⟩ ev e g)) (NW.no (w4.wr (Or.inl rfl)))
      · have w := (r.2 e).wr (j := 60) (v := σ' 72 60 - 1) (Or.inr (Or.inr rfl))
        refine m_blW w ?_
        refine m_needW w ?_
        rintro _ rfl
        exact h R _ (E_bare m (E_parF (S := sBl t n S) ⟨c40, d8⟩ ev e)) ((w.wr (Or.inl rfl)).nr e)
    · rw [if_pos (show (8 : Int32) ≤ nI dep from nI_le (a := 8) (by omega) (by omega))]
      rintro _ rfl
      exact h (false, sBl t n S) _ (E_bare m (E_no (S := sBl t n S) q (fun z => d8 z.2) nm)) (NW.no x1.wrong)
  · rw [if_neg c40]
    rintro _ rfl
    exact h (false, sBl t n S) _ (E_bare m (E_no (S := sBl t n S) q (fun z => c40 z.1) nm)) (NW.no x1.wrong)
theorem m_level {G : zGT} {t : Nat → Int32} {n : Nat} {N : Int32 → Prop} {ρ : zMem} (hN : ∀ L, N L → 97 ≤ L.toInt) (hc : NT t n ρ) (hNm : HN G N ρ) : ∀ m : Nat,
    (∀ (q dep D : Nat) (S : zPS) (σ : zMem) (Φ : zMem → Prop), 40 * (n - S.1) + 30 - 2 * q ≤ m → q ≤ 4 → dep ≤ 8 → 40 * (8 - dep) + 50 - 3 * q ≤ D → NX n ρ dep S σ → S.2.2.1 ≤ S.1 → (∀ R σ', Ev t n N q 0 dep S R → NR n ρ dep R σ' → Φ σ') → CTV G D (lvM q) [.inr (.inr 72)] σ Φ) ∧
    (∀ (a dep D : Nat) (S : zPS) (σ : zMem) (Φ : zMem → Prop), 40 * (n - S.1) + 20 ≤ m → a ≤ 20 → dep ≤ 8 → 40 * (8 - dep) + 35 - a ≤ D → NX n ρ dep S σ → S.2.2.1 ≤ S.1 → (∀ R σ', Ev t n N 5 a dep S R → NR n ρ dep R σ' → Φ σ') → CTV G D Y_X12_readPart [.inr (.inr 72), .inl (nI a)] σ Φ) := by
  intro m
  have n96 := hc.1
  have hN1 : ¬ N (-1) := fun w => absurd (hN _ w) (by decide)
  induction m with
  | zero => exact ⟨fun q dep D S σ Φ hm hq => by omega, fun a dep D S σ Φ hm => by omega⟩
  | succ m IH =>
    obtain ⟨I1, I5⟩ := IH
    refine ⟨fun q dep D S σ Φ hm hq hd hD hx hk h => ?_, fun a dep D S σ Φ hm ha hd hD hx hk h => ?_⟩
    rotate_left
    · have hS := hx.2.1.1
      refine m_part hN hc hNm (p0 := S.1) (fun dep' D' S' σ' Φ' p1 d1 D1 x1 k1 h1 => ?_) (fun a' dep' D' S' σ' Φ' p1 a1 d1 D1 x1 k1 h1 => ?_) (Nat.le_refl _) ha hd hD hx hk h
      · have := x1.2.1.1
        exact I1 0 dep' D' S' σ' Φ' (by omega) (by decide) d1 (by omega) x1 k1 h1
      · have := x1.2.1.1
        exact I5 a' dep' D' S' σ' Φ' (by omega) a1 d1 D1 x1 k1 h1
    have hS := hx.2.1.1
    obtain ⟨D, rfl⟩ : ∃ x, D = x + 2 + 1 := ⟨D - 3, by omega⟩
    have q5 : q = 0 ∨ q = 1 ∨ q = 2 ∨ q = 3 ∨ q = 4 := by omega
    rcases q5 with rfl | rfl | rfl | rfl | rfl
    · rw [lvM0]
      have i1 := I1 1
      rw [lvM1] at i1
      refine en_X12_readOr ?_
      refine i1 dep (D + 2) S σ _ (by omega) (by decide) hd (by omega) hx hk (fun R1 σ1 ev1 r1 => ?_)
      obtain ⟨y1, y2, y3⟩ := ev1.good hN1 (by decide) hS
      by_cases e1 : R1.1 = true
      · obtain ⟨y4, _, _, y7, _⟩ := y3 e1
        have eb : sBl t n R1.2 = R1.2 := by unfold sBl; rw [y7 (Or.inl (by decide))]
        refine m_lp0 hN1 hc (p0 := S.1) (by omega) (fun D' S' σ' Φ' p1 k1 D1 x1 h1 => ?_) (n - R1.2.1) R1.2 σ1 (Nat.le_refl _) y1 (by omega) (by rw [eb]; exact r1.1 e1) (fun R σ' ev r => h R σ' (E_levY (by decide) ev1 e1 ev) r)
        have := x1.2.1.1
        exact i1 dep D' S' σ' Φ' (by omega) (by decide) hd (by omega) x1 k1 h1
      · have w := r1.2 e1
        refine rg_X12_readOr_4 ?_
        rw [if_neg (w1 w)]
        exact h R1 σ1 (E_levN (by decide) ev1 e1) r1
    · rw [lvM1]
      have i1 := I1 2
      rw [lvM2] at i1
      refine en_X12_readAnd ?_
      refine i1 dep (D + 2) S σ _ (by omega) (by decide) hd (by omega) hx hk (fun R1 σ1 ev1 r1 => ?_)
      obtain ⟨y1, y2, y3⟩ := ev1.good hN1 (by decide) hS
      by_cases e1 : R1.1 = true
      · obtain ⟨y4, _, _, y7, _⟩ := y3 e1
        have eb : sBl t n R1.2 = R1.2 := by unfold sBl; rw [y7 (Or.inl (by decide))]
        refine m_lp1 hN1 hc (p0 := S.1) (by omega) (fun D' S' σ' Φ' p1 k1 D1 x1 h1 => ?_) (n - R1.2.1) R1.2 σ1 (Nat.le_refl _) y1 (by omega) (by rw [eb]; exact r1.1 e1) (fun R σ' ev r => h R σ' (E_levY (by decide) ev1 e1 ev) r)
        have := x1.2.1.1
        exact i1 dep D' S' σ' Φ' (by omega) (by decide) hd (by omega) x1 k1 h1
      · have w := r1.2 e1
        refine rg_X12_readAnd_4 ?_
        rw [if_neg (w1 w)]
        exact h R1 σ1 (E_levN (by decide) ev1 e1) r1
    · rw [lvM2]
      have i1 := I1 3
      rw [lvM3] at i1
      refine en_X12_readTest ?_
      refine i1 dep (D + 2) S σ _ (by omega) (by decide) hd (by omega) hx hk (fun R1 σ1 ev1 r1 => ?_)
      obtain ⟨y1, y2, y3⟩ := ev1.good hN1 (by decide) hS
      by_cases e1 : R1.1 = true
      · obtain ⟨y4, _, _, y7, _⟩ := y3 e1
        refine m_ts hN1 hc (p0 := S.1) (by omega) (fun D' S' σ' Φ' p1 k1 D1 x1 h1 => ?_) (y7 (Or.inl (by decide))) y1 (by omega) (r1.1 e1) (fun R σ' ev r => h R σ' (E_levY (by decide) ev1 e1 ev) r)
        have := x1.2.1.1
        exact i1 dep D' S' σ' Φ' (by omega) (by decide) hd (by omega) x1 k1 h1
      · have w := r1.2 e1
        refine m_here (hc.mv w.1) w.2.2.1 w.2.1 ?_
        rw [if_neg (w1 w)]
        exact h R1 σ1 (E_levN (by decide) ev1 e1) r1
    · rw [lvM3]
      have i1 := I1 4
      rw [lvM4] at i1
      refine en_X12_readSum ?_
      refine i1 dep (D + 2) S σ _ (by omega) (by decide) hd (by omega) hx hk (fun R1 σ1 ev1 r1 => ?_)
      obtain ⟨y1, y2, y3⟩ := ev1.good hN1 (by decide) hS
      by_cases e1 : R1.1 = true
      · obtain ⟨y4, _, _, y7, _⟩ := y3 e1
        have eb : sBl t n R1.2 = R1.2 := by unfold sBl; rw [y7 (Or.inl (by decide))]
        refine m_lp3 hN1 hc (p0 := S.1) (by omega) (fun D' S' σ' Φ' p1 k1 D1 x1 h1 => ?_) (n - R1.2.1) R1.2 σ1 (Nat.le_refl _) y1 (by omega) (by rw [eb]; exact r1.1 e1) (fun R σ' ev r => h R σ' (E_levY (by decide) ev1 e1 ev) r)
        have := x1.2.1.1
        exact i1 dep D' S' σ' Φ' (by omega) (by decide) hd (by omega) x1 k1 h1
      · have w := r1.2 e1
        refine rg_X12_readSum_4 ?_
        rw [if_neg (w1 w)]
        exact h R1 σ1 (E_levN (by decide) ev1 e1) r1
    · rw [lvM4]
      refine en_X12_readTerm ?_
      refine I5 0 dep (D + 2) S σ _ (by omega) (by decide) hd (by omega) hx hk (fun R1 σ1 ev1 r1 => ?_)
      obtain ⟨y1, y2, y3⟩ := ev1.good hN1 (by decide) hS
      by_cases e1 : R1.1 = true
      · obtain ⟨y4, _⟩ := y3 e1
        refine m_blY hc (r1.1 e1) (fun σ2 x2 => ?_)
        refine m_lp4 hN1 hc (p0 := S.1) (by omega) (fun D' S' σ' Φ' p1 k1 D1 x1 h1 => ?_) (n - R1.2.1) R1.2 σ2 (Nat.le_refl _) y1 (by omega) x2 (fun R σ' ev r => h R σ' (E_levY (by decide) ev1 e1 ev) r)
        have := x1.2.1.1
        exact I5 0 dep D' S' σ' Φ' (by omega) (by decide) hd (by omega) x1 k1 h1
      · have w := r1.2 e1
        refine m_blW w ?_
        refine rg_X12_readTerm_9 ?_
        rw [if_neg (w1 w)]
        exact h R1 σ1 (E_levN (by decide) ev1 e1) r1
