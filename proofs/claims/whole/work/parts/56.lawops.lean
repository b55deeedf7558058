theorem m_setup {G : zGT} {d : Nat} {β σ : zMem} {k : Nat} {Ψ : Nat → zMem → Prop} (hb : PB β σ) (hβ : Rall β) (h : ∀ σ', IP β (sob (bIn β k) (bN β)) 0 (σ 111) σ' → Ψ 0 σ') : ∀ s5 : zMem, s5 = zwr σ 72 62 0 → CTI G (d + 1) Y_X12_setOf [.inr (.inr 72), .inl (nI k)] s5 (fun (r7 : Int32) (s6 : zMem) => ∀ s8 : zMem, s8 = zwr s6 72 61 r7 → Ψ 0 s8) := by
  rintro _ rfl
  have hb1 : PB β (zwr σ 72 62 0) := hb.fr ((FR.refl σ).wr (Or.inr ⟨rfl, by decide⟩))
  refine m_setOf hb1 hβ ?_
  rintro _ rfl
  refine h _ ⟨hb1.fr ((FR.refl _).wr (Or.inr ⟨rfl, by decide⟩)), zwr_same _ _ _ _, ?_, ?_⟩
  · simp only [zwr_rne, zwr_req, upd_ne, upd_eq, ne_eq, Nat.reduceEqDiff, not_false_eq_true]; rfl
  · rw [zwr_rne (by decide), zwr_rne (by decide)]
theorem P_says {G : zGT} {d : Nat} {v1 : Int32} : Pair G (d + 8) Y_X11_says Y_X12_says [.inl v1] := by
  intro σ h
  have n24 := bN_24 h.any
  refine en_X11_says ?_
  refine c_isClass (fun w1 w2 => ?_) (fun w => ?_)
  rotate_left
  · rw [if_pos rfl]
    refine en_X12_says ?_
    refine m_isClass (fun _ _ => by omega) (fun _ => ?_)
    rw [if_pos rfl]
    exact ⟨rfl, h⟩
  rw [if_neg (by decide)]
  obtain ⟨k, rfl, hk, hk3⟩ := num_of w1 w2
  have tk := tin hk3
  refine c_hasClaims (PB.refl h) h (by omega) (fun hc => ?_) (fun hc => ?_)
  rotate_left
  · rw [if_pos rfl]
    refine en_X12_says ?_
    refine m_isClass (fun _ _ => ?_) (fun q => by omega)
    rw [if_neg (by decide)]
    refine m_setOf (PB.refl h) h ?_
    rw [sob_hasC.2 hc, if_pos (by rfl)]
    exact ⟨rfl, h⟩
  rw [if_neg (by decide)]
  have hs : ¬ sob (bIn σ k) (bN σ) = 0 := fun q => sob_hasC.1 q hc
  have hs2 := sob_24 (bIn σ k) n24
  refine c_hasLaw (PB.refl h) h (fun hl => ?_) (fun hl => ?_)
  rotate_left
  · rw [if_pos rfl]
    refine en_X12_says ?_
    refine m_isClass (fun _ _ => ?_) (fun q => by omega)
    rw [if_neg (by decide)]
    refine m_setOf (PB.refl h) h ?_
    rw [if_neg (by rw [fa_eq, tin (by omega), ti0]; omega), hl, if_pos rfl]
    exact ⟨rfl, h⟩
  rw [if_neg (by decide)]
  refine c_tally62 (PB.refl h) h (by omega) (fun σ1 f1 hT => ?_)
  have hb1 : PB σ σ1 := (PB.refl h).fr (FR.of (L := [62]) (fun a ha => f1 a (by simpa using ha)) (by intro a ha; simp only [List.mem_singleton] at ha; subst ha; decide))
  refine c_passGives62 hb1 h hl hT (clT_TB h k) n24 (fun σ2 f2 _ => ?_)
  have hb2 : PB σ σ2 := hb1.fr (FR.of (L := [63, 58]) (fun a ha => f2 a (fun q => ha (by simp [q])) (fun q => ha (by simp [q]))) (by decide))
  refine en_X12_says ?_
  refine m_isClass (fun _ _ => ?_) (fun q => by omega)
  rw [if_neg (by decide)]
  refine m_setOf hb2 h ?_
  rw [if_neg (by rw [fa_eq, tin (by omega), ti0]; omega), hb2.1.2 46 (by decide), hl, if_neg (by decide)]
  rintro _ rfl
  have hb3 : PB σ (zwr σ2 72 62 0) := hb2.fr ((FR.refl σ2).wr (Or.inr ⟨rfl, by decide⟩))
  refine m_setOf hb3 h ?_
  rintro _ rfl
  have ip : IP σ (sob (bIn σ k) (bN σ)) 0 (σ2 111) (zwr (zwr σ2 72 62 0) 72 61 (nI (sob (bIn σ k) (bN σ)))) := by
    refine ⟨hb3.fr ((FR.refl _).wr (Or.inr ⟨rfl, by decide⟩)), zwr_same _ _ _ _, ?_, ?_⟩
    · simp only [zwr_rne, zwr_req, upd_ne, upd_eq, ne_eq, Nat.reduceEqDiff, not_false_eq_true]; rfl
    · rw [zwr_rne (by decide), zwr_rne (by decide)]
  rw [ip.1.1.2 48 (by decide)]
  refine m_workP h hl ip hs2 (by decide) (sob_any hs) (fun σ' ip' => ⟨?_, ip'.1.2⟩)
  rw [clT_eq]
  rfl
theorem P_passes {G : zGT} {d : Nat} {v1 : Int32} : Pair G (d + 8) Y_X11_passes Y_X12_passes [.inl v1] := by
  intro σ h
  refine en_X11_passes ?_
  refine c_isClass (fun w1 w2 => ?_) (fun w => ?_)
  rotate_left
  · rw [if_pos rfl]
    refine en_X12_passes ?_
    refine m_isClass (fun _ _ => by omega) (fun _ => ?_)
    rw [if_pos rfl]
    exact ⟨rfl, h⟩
  rw [if_neg (by decide)]
  obtain ⟨k, rfl, hk, hk3⟩ := num_of w1 w2
  have M : ∀ (σ1 : zMem) (r : Int32), PB σ σ1 → (dpT σ (clT σ k) → r = 1) → (¬ dpT σ (clT σ k) → r = 0) → CTI G (d + 8) Y_X12_passes [.inr (.inr 72), .inl (nI k)] σ1 (fun r' σ2 => r = r' ∧ Rall σ2) := by
    intro σ1 r hb r1 r0
    refine en_X12_passes ?_
    refine m_isClass (fun _ _ => ?_) (fun q => by omega)
    rw [if_neg (by decide)]
    refine m_doesPass h hb (fun σ' a _ c => ?_) (fun σ' a _ c => ?_)
    · exact m_truth1 ⟨r1 c, a.2⟩
    · exact m_truth0 ⟨r0 c, a.2⟩
  refine c_classPasses (PB.refl h) h (by omega) (fun σ1 a _ c => ?_) (fun σ1 a _ c => ?_)
  · exact c_truth1 (M σ1 1 a (fun _ => rfl) (fun q => absurd c q))
  · exact c_truth0 (M σ1 0 a (fun q => absurd q c) (fun _ => rfl))
theorem m_isNameB {G : zGT} {d : Nat} {Φ : Int32 → zMem → Prop} {σ : zMem} {L : Int32} (h54 : σ 72 54 = 1) (h1 : isBn L → Φ 1 σ) (h0 : ¬ isBn L → Φ 0 σ) : CTI G d Y_X12_isName [.inr (.inr 72), .inl L] σ Φ := by
  refine en_X12_isName ?_
  rw [h54, if_neg (by decide)]
  unfold isBn at h1 h0
  repeat' split
  all_goals first | exact h1 (by simp [*]) | exact h0 (by simp [*])
theorem m_isNameP {G : zGT} {d : Nat} {Φ : Int32 → zMem → Prop} {σ : zMem} {L : Int32} (h54 : σ 72 54 = 0) (h1 : isPn L → Φ 1 σ) (h0 : ¬ isPn L → Φ 0 σ) : CTI G d Y_X12_isName [.inr (.inr 72), .inl L] σ Φ := by
  refine en_X12_isName ?_
  rw [h54, if_pos rfl]
  unfold isPn at h1 h0
  repeat' split
  all_goals first | exact h1 (by simp [*]) | exact h0 (by simp [*])
theorem P_name {G : zGT} {d : Nat} {v1 v2 : Int32} : Pair G (d + 8) Y_X11_name Y_X12_name [.inl v1, .inl v2] := by
  intro σ h
  have n24 := bN_24 h.any
  refine en_X11_name ?_
  by_cases gN : v2 = -1000000005
  · rw [if_pos gN]
    have M : ∀ σ1 : zMem, PB σ σ1 → CTI G (d + 8) Y_X12_name [.inr (.inr 72), .inl v1, .inl v2] σ1 (fun r' σ2 => (isBn v1 → bnv σ v1 = r') ∧ (¬ isBn v1 → -1000000001 = r') ∧ Rall σ2) := by
      intro σ1 hb
      refine en_X12_name ?_
      rw [if_pos gN]
      rintro _ rfl
      have hb1 : PB σ (zwr σ1 72 54 1) := hb.fr ((FR.refl σ1).wr (Or.inr ⟨rfl, by decide⟩))
      have e54 : zwr σ1 72 54 1 72 54 = 1 := zwr_same _ _ _ _
      refine m_isNameB e54 (fun q => ?_) (fun q => ?_)
      · rw [if_neg (by decide), e54, if_neg (by decide), if_neg (by decide)]
        refine m_bindName hb1 h q (fun σ' a _ => ⟨fun _ => rfl, fun w => absurd q w, a.2⟩)
      · rw [if_pos rfl]
        exact ⟨fun w => absurd w q, fun _ => rfl, hb1.2⟩
    have M2 : ∀ (σ1 : zMem) (r : Int32), PB σ σ1 → (isBn v1 → r = bnv σ v1) → (¬ isBn v1 → r = -1000000001) → CTI G (d + 8) Y_X12_name [.inr (.inr 72), .inl v1, .inl v2] σ1 (fun r' σ2 => r = r' ∧ Rall σ2) := by
      intro σ1 r hb r1 r0
      refine en_X12_name ?_
      rw [if_pos gN]
      rintro _ rfl
      have hb1 : PB σ (zwr σ1 72 54 1) := hb.fr ((FR.refl σ1).wr (Or.inr ⟨rfl, by decide⟩))
      have e54 : zwr σ1 72 54 1 72 54 = 1 := zwr_same _ _ _ _
      refine m_isNameB e54 (fun q => ?_) (fun q => ?_)
      · rw [if_neg (by decide), e54, if_neg (by decide), if_neg (by decide)]
        refine m_bindName hb1 h q (fun σ' a _ => ⟨r1 q, a.2⟩)
      · rw [if_pos rfl]
        exact ⟨r0 q, hb1.2⟩
    refine c_isAmong1001 (fun q => ?_) (fun q => ?_)
    · rw [if_neg (by decide)]
      refine c_bindName (PB.refl h) h q (fun σ1 a _ => ?_)
      exact M2 σ1 _ a (fun _ => rfl) (fun w => absurd q w)
    · rw [if_pos rfl]
      exact M2 σ _ (PB.refl h) (fun w => absurd w q) (fun _ => rfl)
  · rw [if_neg gN]
    -- the reference, on any k
    have BADm : (¬ isPn v1 ∨ v2.toInt < 0 ∨ 5 < v2.toInt ∨ ∃ k, k < 6 ∧ v2 = nI k ∧ ¬ hasC σ k) → CTI G (d + 8) Y_X12_name [.inr (.inr 72), .inl v1, .inl v2] σ (fun r' σ2 => -1000000001 = r' ∧ Rall σ2) := by
      intro q
      refine en_X12_name ?_
      rw [if_neg gN]
      rintro _ rfl
      have hb1 : PB σ (zwr σ 72 54 0) := (PB.refl h).fr ((FR.refl σ).wr (Or.inr ⟨rfl, by decide⟩))
      have e54 : zwr σ 72 54 0 72 54 = 0 := zwr_same _ _ _ _
      refine m_isNameP e54 (fun q1 => ?_) (fun q1 => ?_)
      · rw [if_neg (by decide), e54, if_pos rfl]
        refine m_isClass (fun w1 w2 => ?_) (fun _ => ?_)
        · rw [if_neg (by decide)]
          rcases q with q | q | q | ⟨k, hk, rfl, q⟩
          · exact absurd q1 q
          · omega
          · omega
          · refine m_setOf hb1 h ?_
            rw [sob_hasC.2 q, if_pos (by rfl)]
            exact ⟨rfl, hb1.2⟩
        · rw [if_pos rfl]
          exact ⟨rfl, hb1.2⟩
      · rw [if_pos rfl]
        exact ⟨rfl, hb1.2⟩
    refine c_isAmong1000 (fun qp => ?_) (fun qp => ?_)
    rotate_left
    · rw [if_pos rfl]
      exact BADm (Or.inl qp)
    rw [if_neg (by decide)]
    refine c_isClass (fun w1 w2 => ?_) (fun w => ?_)
    rotate_left
    · rw [if_pos rfl]
      exact BADm (by omega)
    rw [if_neg (by decide)]
    obtain ⟨k, rfl, hk, hk3⟩ := num_of w1 w2
    refine c_hasClaims (PB.refl h) h (by omega) (fun hc => ?_) (fun hc => ?_)
    rotate_left
    · rw [if_pos rfl]
      exact BADm (Or.inr (Or.inr (Or.inr ⟨k, by omega, rfl, hc⟩)))
    rw [if_neg (by decide)]
    have hs : ¬ sob (bIn σ k) (bN σ) = 0 := fun q => sob_hasC.1 q hc
    have hs2 := sob_24 (bIn σ k) n24
    refine c_tally62 (PB.refl h) h (by omega) (fun σ1 f1 hT => ?_)
    have hb1 : PB σ σ1 := (PB.refl h).fr (FR.of (L := [62]) (fun a ha => f1 a (by simpa using ha)) (by intro a ha; simp only [List.mem_singleton] at ha; subst ha; decide))
    refine c_nameValue62 hT (clT_TB h k) n24 qp (fun v hv => ?_)
    refine en_X12_name ?_
    rw [if_neg gN]
    rintro _ rfl
    have hb2 : PB σ (zwr σ1 72 54 0) := hb1.fr ((FR.refl σ1).wr (Or.inr ⟨rfl, by decide⟩))
    have e54 : zwr σ1 72 54 0 72 54 = 0 := zwr_same _ _ _ _
    refine m_isNameP e54 (fun q1 => ?_) (fun q1 => absurd qp q1)
    rw [if_neg (by decide), e54, if_pos rfl]
    refine m_isClass (fun _ _ => ?_) (fun q => by omega)
    rw [if_neg (by decide)]
    refine m_setOf hb2 h ?_
    rw [if_neg (by rw [fa_eq, tin (by omega), ti0]; omega), e54, if_pos rfl]
    rintro _ rfl
    have hb3 : PB σ (zwr (zwr σ1 72 54 0) 72 62 0) := hb2.fr ((FR.refl _).wr (Or.inr ⟨rfl, by decide⟩))
    refine m_setOf hb3 h ?_
    rintro _ rfl
    have hb4 : PB σ (zwr (zwr (zwr σ1 72 54 0) 72 62 0) 72 61 (nI (sob (bIn σ k) (bN σ)))) := hb3.fr ((FR.refl _).wr (Or.inr ⟨rfl, by decide⟩))
    refine m_passName (S := sob (bIn σ k) (bN σ)) (Y := 0) hb4 h (zwr_same _ _ _ _) hs2 (by simp only [zwr_rne, zwr_req, upd_ne, upd_eq, ne_eq, Nat.reduceEqDiff, not_false_eq_true]; rfl) (by decide) (sob_any hs) (fun v' hv' => ⟨?_, hb4.2⟩)
    rw [clT_eq] at hv'
    rw [fa_eq, hv, hv']
    rfl
theorem c_uses {G : zGT} {d n : Nat} {Φ : Int32 → zMem → Prop} {σ : zMem} {L : Int32} (hn : σ 59 2 = nI n) (hn2 : n ≤ 96) (h1 : (∃ i, i < n ∧ σ 60 i = -L) → Φ 1 σ) (h0 : ¬ (∃ i, i < n ∧ σ 60 i = -L) → Φ 0 σ) : CTI G (d + 1) Y_X4_uses [.inr (.inr 59), .inl L] σ Φ := by
  refine en_X4_uses ?_
  have Lp : ∀ m i : Nat, i + m = n → (∀ j, j < i → ¬ σ 60 j = -L) → WJ G M_X4_uses (d + 1) (RI Φ) 2 [some (.inr (.inr 59)), some (.inl L), some (.inl (nI i))] [] σ := by
    intro m
    induction m with
    | zero =>
      intro i hi hI
      refine rg_X4_uses_2 ?_
      rw [hn, if_pos (nI_le (by omega) (by omega))]
      exact h0 (fun ⟨j, hj, q⟩ => hI j (by omega) q)
    | succ m ih =>
      intro i hi hI
      refine rg_X4_uses_2 ?_
      rw [hn, if_neg (nI_ge (by omega) (by omega)), cln (by omega), nI_1]
      refine ⟨vin (by omega), ?_⟩
      by_cases g : σ 60 i = -L
      · rw [if_pos g]; exact h1 ⟨i, by omega, g⟩
      · rw [if_neg g]
        refine ih (i + 1) (by omega) (fun j hj => ?_)
        by_cases e : j = i
        · subst e; exact g
        · exact hI j (by omega)
  exact Lp n 0 (by omega) (fun j hj => by omega)
/-- only names that stand there are asked for -/
theorem wfd_used {N N' : Int32 → Prop} {st vl : Nat → Int32} {k : Nat} : ∀ (n i h : Nat), wfd N st vl k n i h → (∀ j, i ≤ j → j < i + n → st j = 2 → N (vl j) → N' (vl j)) → wfd N' st vl k n i h
  | 0, _, _, hw, _ => hw
  | n + 1, i, h, hw, H => by
    have hw : (st i = 1 ∧ 0 ≤ (vl i).toInt ∧ (vl i).toInt ≤ 999999 ∧ wfd N st vl k n (i + 1) (h + 1)) ∨ (st i = 2 ∧ N (vl i) ∧ wfd N st vl k n (i + 1) (h + 1)) ∨ ((st i = 3 ∨ st i = 33) ∧ 1 ≤ h ∧ wfd N st vl k n (i + 1) h) ∨ (isOp (st i) ∧ 2 ≤ h ∧ wfd N st vl k n (i + 1) (h - 1)) := hw
    have H' : ∀ j, i + 1 ≤ j → j < i + 1 + n → st j = 2 → N (vl j) → N' (vl j) := fun j a b => H j (by omega) (by omega)
    show (st i = 1 ∧ 0 ≤ (vl i).toInt ∧ (vl i).toInt ≤ 999999 ∧ wfd N' st vl k n (i + 1) (h + 1)) ∨ (st i = 2 ∧ N' (vl i) ∧ wfd N' st vl k n (i + 1) (h + 1)) ∨ ((st i = 3 ∨ st i = 33) ∧ 1 ≤ h ∧ wfd N' st vl k n (i + 1) h) ∨ (isOp (st i) ∧ 2 ≤ h ∧ wfd N' st vl k n (i + 1) (h - 1))
    rcases hw with ⟨a, b, c, w⟩ | ⟨a, b, w⟩ | ⟨a, b, w⟩ | ⟨a, b, w⟩
    · exact Or.inl ⟨a, b, c, wfd_used n (i + 1) _ w H'⟩
    · exact Or.inr (Or.inl ⟨a, H i (Nat.le_refl _) (by omega) a b, wfd_used n (i + 1) _ w H'⟩)
    · exact Or.inr (Or.inr (Or.inl ⟨a, b, wfd_used n (i + 1) _ w H'⟩))
    · exact Or.inr (Or.inr (Or.inr ⟨a, b, wfd_used n (i + 1) _ w H'⟩))
theorem lt1001_bn : ∀ i, i < 6 → (lt1001 i = 121 ∨ lt1001 i = 99 ∨ lt1001 i = 119 ∨ lt1001 i = 117 ∨ lt1001 i = 115 ∨ lt1001 i = 113) := by decide
theorem lt1001_ix : ∀ i, i < 6 → (lt1001 i).toInt.toNat - 97 ≠ 10 ∧ (lt1001 i).toInt.toNat - 97 ≠ 12 ∧ (lt1001 i).toInt.toNat - 97 ≠ 13 ∧ (lt1001 i).toInt.toNat - 97 ≠ 19 ∧ (lt1001 i).toInt.toNat - 97 ≠ 21 := by decide
theorem lt1001_inj : ∀ i, i < 6 → ∀ j, j < 6 → (lt1001 i).toInt.toNat - 97 = (lt1001 j).toInt.toNat - 97 → i = j := by decide
theorem bn_lt {L : Int32} (h : isBn L) : ∃ i, i < 6 ∧ lt1001 i = L := by
  unfold isBn at h
  rcases h with rfl | rfl | rfl | rfl | rfl | rfl
  · exact ⟨0, by decide, rfl⟩
  · exact ⟨1, by decide, rfl⟩
  · exact ⟨2, by decide, rfl⟩
  · exact ⟨3, by decide, rfl⟩
  · exact ⟨4, by decide, rfl⟩
  · exact ⟨5, by decide, rfl⟩
noncomputable def eBd (β : zMem) (p q : Nat) : Int32 := (evf (β 106) (β 107) (bnv β) q p (0, fun _ => 0)).2 0
theorem P_binds {G : zGT} {d : Nat} : Pair G (d + 12) Y_X11_binds Y_X12_binds [] := by
  intro σ h
  have n24 := bN_24 h.any
  refine en_X11_binds ?_
  rcases lawOf h with ⟨hl, -⟩ | ⟨hl, -, p, q, r1, r2, r3, rp, rq, r4, r5, r6, r7, r8, r9⟩
  · refine c_hasLaw (PB.refl h) h (fun w => by rw [hl] at w; exact absurd w (by decide)) (fun _ => ?_)
    rw [if_pos rfl]
    refine en_X12_binds ?_
    rw [hl, if_pos rfl]
    exact ⟨rfl, h⟩
  refine c_hasLaw (PB.refl h) h (fun _ => ?_) (fun w => by rw [hl] at w; exact absurd w (by decide))
  rw [if_neg (by decide)]
  -- the reference
  have M : ∀ σ1 : zMem, PB σ σ1 → CTI G (d + 12) Y_X12_binds [.inr (.inr 72)] σ1 (fun r' σ2 => eBd σ p q = r' ∧ Rall σ2) := by
    intro σ1 hb
    refine en_X12_binds ?_
    rw [hb.1.2 46 (by decide), hl, if_neg (by decide), hb.1.2 48 (by decide), hb.1.2 49 (by decide), r1, r2]
    refine en_X12_work ?_
    rw [hb.1.2 48 (by decide), r1, if_neg (by rw [fa_lt]; omega)]
    refine m_work111 (β := σ) (N := isBn) (nm := bnv σ) (Inv := PB σ) (to := p + q) (by omega) (fun τ ht => ⟨ht.1.1 106 (by decide) (by decide) (by decide), ht.1.1 107 (by decide) (by decide) (by decide)⟩) (fun τ j v ht => ht.fr ((FR.refl τ).wr (Or.inl (by decide)))) (fun τ L Ψ ht hL H => ?_) q p 0 σ1 (by omega) (by omega) r9 hb (fun τ' ht => ⟨?_, ht.2⟩)
    · exact m_bindName ht h hL (fun σ' a b => H σ' a b)
    · exact evf_agree q p 0 _ _ r9 (fun j hj => absurd hj (Nat.not_lt_zero j)) 0 (by decide)
  have Lp : ∀ m i : Nat, i + m = 6 → ∀ τ : zMem, PB σ τ → (∀ j, j < i → (∃ e, e < q ∧ σ 60 e = -(lt1001 j)) → τ 63 ((lt1001 j).toInt.toNat - 97) = bnv σ (lt1001 j)) →
      WJ G M_X11_binds (d + 12) (RI (fun r σ1 => CTI G (d + 12) Y_X12_binds [.inr (.inr 72)] σ1 (fun r' σ2 => r = r' ∧ Rall σ2))) 15 [some (.inr (.inr 0)), some (.inl (nI i)), none] [] τ := by
    intro m
    induction m with
    | zero =>
      intro i hi τ hb hset
      refine rg_X11_binds_15 ?_
      have : i = 6 := by omega
      subst this
      refine c_len1001 ?_
      rw [if_pos (by decide)]
      refine en_X4_work_i59_63 ?_
      have r9' := wfd_used (N' := fun L => isBn L ∧ ∃ e, e < q ∧ σ 60 e = -L) q p 0 r9 (fun j j1 j2 js jn => ⟨jn, j - p, by omega, by
        rw [r7 (j - p) (by omega), show p + (j - p) = j by omega]
        unfold cod
        rw [js, if_neg (by decide), if_pos rfl]⟩)
      refine x_work59 (st := σ 106) (vl := σ 107) (N := fun L => isBn L ∧ ∃ e, e < q ∧ σ 60 e = -L) (nm := bnv σ) (off := p) (len := q) (by omega) (by rw [hb.1.1 59 (by decide) (by decide) (by decide)]; exact r5) (fun i hi => by rw [hb.1.1 60 (by decide) (by decide) (by decide)]; exact r7 i hi) (fun L hL => ?_) q 0 0 τ (by omega) (by omega) r9' (fun _ _ => rfl) (fun τ' ft' => ?_)
      · obtain ⟨g1, g2⟩ := bn_rng hL.1
        obtain ⟨i, hi, hi2⟩ := bn_lt hL.1
        refine ⟨g1, g2, ?_⟩
        have hL2 := hL.2
        rw [← hi2] at hL2 ⊢
        exact hset i hi hL2
      · have e : (evf (σ 106) (σ 107) (bnv σ) q p (0, τ 61)).2 0 = eBd σ p q :=
          evf_agree q p 0 _ _ r9 (fun j hj => absurd hj (Nat.not_lt_zero j)) 0 (by decide)
        rw [show (evf (σ 106) (σ 107) (bnv σ) q (p + 0) (0, τ 61)).2 0 = eBd σ p q from e]
        exact M τ' (hb.fr (FR.of (L := [61]) (fun a ha => ft' a (by simpa using ha)) (by decide)))
    | succ m ih =>
      intro i hi τ hb hset
      refine rg_X11_binds_15 ?_
      refine c_len1001 ?_
      rw [if_neg (nI_ge (by omega) (by omega)), nI_1]
      refine c_chr1001 (by omega) ?_
      have hp := lt1001_bn i (by omega)
      obtain ⟨g1, g2⟩ := bn_rng hp
      refine c_uses (n := q) (by rw [hb.1.1 59 (by decide) (by decide) (by decide)]; exact r5) (by omega) (fun hu => ?_) (fun hu => ?_)
      · rw [if_neg (by decide)]
        refine c_bindName hb h hp (fun σ' hb' hk => ?_)
        refine c_setName g1 g2 ?_
        refine ih (i + 1) (by omega) _ (hb'.fr ((FR.refl σ').wr (Or.inl (by decide)))) (fun j hj hju => ?_)
        rw [zwr_req]
        by_cases e : j = i
        · subst e; rw [upd_eq]
        · rw [upd_ne (fun q => e (lt1001_inj j (by omega) i (by omega) q))]
          obtain ⟨i1, i2, i3, i4, i5⟩ := lt1001_ix j (by omega)
          rw [hk _ i1 i2 i3 i4 i5]
          exact hset j (by omega) hju
      · rw [if_pos rfl]
        refine ih (i + 1) (by omega) τ hb (fun j hj hju => ?_)
        by_cases e : j = i
        · subst e
          rw [hb.1.1 60 (by decide) (by decide) (by decide)] at hu
          exact absurd hju hu
        · exact hset j (by omega) hju
  exact Lp 6 0 (by omega) σ (PB.refl h) (fun j hj => absurd hj (Nat.not_lt_zero j))
