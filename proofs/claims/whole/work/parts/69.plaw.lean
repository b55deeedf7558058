theorem evR_ev {t : Nat → Int32} {n : Nat} {N : Int32 → Prop} {S : zPS} (h : (evR t n N S).1 = true) : Ev t n N 0 0 0 S (evR t n N S) := by
  by_cases g : ∃ R, Ev t n N 0 0 0 S R
  · obtain ⟨R, hR⟩ := g
    rw [evR_eq hR]; exact hR
  · unfold evR at h
    rw [dif_neg g] at h
    cases h
theorem law_facts {t : Nat → Int32} {n : Nat} {s v : Nat → Int32} (hn : n ≤ 96) (h : lawOK t n s v) : (lwR1 t n s v).2.2.2.1 ≤ (lwR2 t n s v).2.2.2.1 ∧ (lwR2 t n s v).2.2.2.1 ≤ 96 ∧ 0 < (lwR2 t n s v).2.2.1 ∧ (lwR2 t n s v).2.2.1 ≤ 1000 ∧
    (∀ i, i < (lwR1 t n s v).2.2.2.1 → (lwR2 t n s v).2.2.2.2.1 i = (lwR1 t n s v).2.2.2.2.1 i ∧ (lwR2 t n s v).2.2.2.2.2 i = (lwR1 t n s v).2.2.2.2.2 i) ∧
    wfd isPn (lwR2 t n s v).2.2.2.2.1 (lwR2 t n s v).2.2.2.2.2 1 (lwR1 t n s v).2.2.2.1 0 0 ∧ wfd isBn (lwR2 t n s v).2.2.2.2.1 (lwR2 t n s v).2.2.2.2.2 1 ((lwR2 t n s v).2.2.2.1 - (lwR1 t n s v).2.2.2.1) (lwR1 t n s v).2.2.2.1 0 := by
  obtain ⟨h1, h2, h3, h4, h5, h6⟩ := h
  have hp1 := wrd_le (t := t) (n := n) lt1002_n 4 (BL t n 0) (by decide) (BL_le (Nat.zero_le n))
  have ev1 : Ev t n isPn 0 0 0 (lwS1 t n s v) (lwR1 t n s v) := evR_ev h2
  have ev2 : Ev t n isBn 0 0 0 (lwS3 t n s v) (lwR2 t n s v) := evR_ev h5
  obtain ⟨y1, y2, y3⟩ := ev1.good pn1 (by decide) hp1.2
  obtain ⟨y4, y5, y6, y7, y8⟩ := y3 h2
  have hP2 : lwP2 t n s v ≤ n := BL_le y2
  have gP2 : (lwR1 t n s v).2.1 ≤ lwP2 t n s v := BL_ge t n (lwR1 t n s v).2.1
  have hp3 := wrd_le (t := t) (n := n) lt1003_n 4 (lwP2 t n s v) (by decide) hP2
  obtain ⟨u1, u2, u3⟩ := ev2.good bn1 (by decide) hp3.2
  obtain ⟨u4, u5, u6, u7, u8⟩ := u3 h5
  have a1 := (y8 0).1 (by decide)
  have a2 := (u8 0).1 (by decide)
  have y4 : (lwR1 t n s v).2.2.2.1 + (lw1 t n).2 ≤ 0 + (lwR1 t n s v).2.1 := y4
  have y6 : (lwR1 t n s v).2.2.1 + (lw1 t n).2 ≤ 1 + (lwR1 t n s v).2.1 := y6
  have u4 : (lwR2 t n s v).2.2.2.1 + (lw3 t n s v).2 ≤ (lwR1 t n s v).2.2.2.1 + (lwR2 t n s v).2.1 := u4
  have u5 : (lwR1 t n s v).2.2.1 + 1 ≤ (lwR2 t n s v).2.2.1 := u5
  have u6 : (lwR2 t n s v).2.2.1 + (lw3 t n s v).2 ≤ (lwR1 t n s v).2.2.1 + 1 + (lwR2 t n s v).2.1 := u6
  have g3 : lwP2 t n s v ≤ (lw3 t n s v).2 := hp3.1
  obtain ⟨b1, b2, b3⟩ := a1
  obtain ⟨c1, c2, c3⟩ := a2
  have c1 : (lwR1 t n s v).2.2.2.1 ≤ (lwR2 t n s v).2.2.2.1 := c1
  have c2 : ∀ i, i < (lwR1 t n s v).2.2.2.1 → (lwR2 t n s v).2.2.2.2.1 i = (lwR1 t n s v).2.2.2.2.1 i ∧ (lwR2 t n s v).2.2.2.2.2 i = (lwR1 t n s v).2.2.2.2.2 i := c2
  have c3 : wfd isBn (lwR2 t n s v).2.2.2.2.1 (lwR2 t n s v).2.2.2.2.2 1 ((lwR2 t n s v).2.2.2.1 - (lwR1 t n s v).2.2.2.1) (lwR1 t n s v).2.2.2.1 0 := c3
  have b3 : wfd isPn (lwR1 t n s v).2.2.2.2.1 (lwR1 t n s v).2.2.2.2.2 1 ((lwR1 t n s v).2.2.2.1 - 0) 0 0 := b3
  rw [Nat.sub_zero] at b3
  exact ⟨c1, by omega, by omega, by omega, c2, wfd_agree _ _ _ (fun j _ j2 => c2 j (by omega)) b3, c3⟩
theorem P_law {G : zGT} {d : Nat} : Pair G (d + 400) Y_X11_law Y_X12_law [] := by
  intro σ h
  obtain ⟨⟨k1, k2, k3, k4, k5, k6, k7, k8, k9⟩, kas, kcl, kda, kdh, kpl, kkp, ksh, kwt, ktp, klw, ksd, kw0, kw1⟩ := id h
  obtain ⟨n, hn, hn2, hn3⟩ := num_of k9.2.1 k9.2.2
  have tn : (σ 72 28).toInt = (n : Int) := by rw [hn, tin hn3]
  have cx : CT (σ 92) n σ := ⟨by omega, by rw [k9.1, hn], fun i hi => (ktp i (by omega)).1⟩
  have cm : NT (σ 92) n σ := ⟨by omega, hn, fun _ _ => rfl⟩
  have ht : ∀ i, i < n → 0 ≤ (σ 92 i).toInt := fun i hi => (ktp i (by omega)).2.1
  have ns : ∀ {a b : Nat}, scr a = false → scr b = true → a ≠ b := by
    intro a b ha hb e
    subst e
    rw [ha] at hb; cases hb
  refine en_X11_law ?_
  refine c_readsLaw (d := d + 279) (s := σ 108) (v := σ 109) cx (fun ok σ1 lf p1 w1 k49 c50 k52 c53 => ?_) (fun no σ1 lf p1 => ?_)
  · rintro _ rfl
    rw [if_neg (by decide)]
    obtain ⟨q1, q2, q3, q4, q5, q6, q7⟩ := law_facts (by omega) ok
    refine c_take56 (k := (lwR1 (σ 92) n (σ 108) (σ 109)).2.2.2.1) (by omega) (by simp only [zwr_rne, zwr_req, upd_ne, upd_eq, ne_eq, Nat.reduceEqDiff, not_false_eq_true]; exact k49) (fun σ2 f2 t2 r2 => ?_)
    refine c_take59 (k := (lwR2 (σ 92) n (σ 108) (σ 109)).2.2.2.1 - (lwR1 (σ 92) n (σ 108) (σ 109)).2.2.2.1) (by omega) (by rw [f2 52 (by decide) (by decide)]; simp only [zwr_rne, zwr_req, upd_ne, upd_eq, ne_eq, Nat.reduceEqDiff, not_false_eq_true]; exact k52) (fun σ3 f3 t3 r3 => ?_)
    rintro _ rfl
    have e48 : σ3 48 5 = nI (lwR2 (σ 92) n (σ 108) (σ 109)).2.2.1 := by
      rw [f3 48 (by decide) (by decide), f2 48 (by decide) (by decide), zwr_rne (show (48 : Nat) ≠ 46 by decide)]; exact w1
    have g0 : ∀ a, a ≠ 46 → a ≠ 48 → a ≠ 49 → a ≠ 50 → a ≠ 52 → a ≠ 53 → a ≠ 55 → a ≠ 56 → a ≠ 57 → a ≠ 59 → a ≠ 60 → zwr σ3 55 6 (σ3 48 5) a = σ a := by
      intro a a1 a2 a3 a4 a5 a6 a7 a8 a9 a10 a11
      rw [zwr_rne a7, f3 a a10 a11, f2 a a8 a9, zwr_rne a1]
      exact lf.1 a a1 a2 a3 a4 a5 a6
    have e55 : zwr σ3 55 6 (σ3 48 5) 55 6 = nI (lwR2 (σ 92) n (σ 108) (σ 109)).2.2.1 := by rw [zwr_same]; exact e48
    have e557 : zwr σ3 55 6 (σ3 48 5) 55 7 = σ 55 7 := by
      rw [zwr_req, upd_ne (by decide), f3 55 (by decide) (by decide), f2 55 (by decide) (by decide), zwr_rne (show (55 : Nat) ≠ 46 by decide)]
      exact congrFun (lf.1 55 (by decide) (by decide) (by decide) (by decide) (by decide) (by decide)) 7
    have e461 : zwr σ3 55 6 (σ3 48 5) 46 1 = 0 := by
      rw [zwr_rne (show (46 : Nat) ≠ 55 by decide), f3 46 (by decide) (by decide), f2 46 (by decide) (by decide), zwr_same]
    have e562 : zwr σ3 55 6 (σ3 48 5) 56 2 = nI (lwR1 (σ 92) n (σ 108) (σ 109)).2.2.2.1 := by
      rw [zwr_rne (show (56 : Nat) ≠ 55 by decide), f3 56 (by decide) (by decide)]; exact t2
    have e592 : zwr σ3 55 6 (σ3 48 5) 59 2 = nI ((lwR2 (σ 92) n (σ 108) (σ 109)).2.2.2.1 - (lwR1 (σ 92) n (σ 108) (σ 109)).2.2.2.1) := by
      rw [zwr_rne (show (59 : Nat) ≠ 55 by decide)]; exact t3
    have e57 : ∀ i, i < (lwR1 (σ 92) n (σ 108) (σ 109)).2.2.2.1 → zwr σ3 55 6 (σ3 48 5) 57 i = cod ((lwR1 (σ 92) n (σ 108) (σ 109)).2.2.2.2.1 i) ((lwR1 (σ 92) n (σ 108) (σ 109)).2.2.2.2.2 i) := by
      intro i hi
      rw [zwr_rne (show (57 : Nat) ≠ 55 by decide), f3 57 (by decide) (by decide), r2 i hi, zwr_rne (show (50 : Nat) ≠ 46 by decide)]
      exact c50 i hi
    have e60 : ∀ i, i < (lwR2 (σ 92) n (σ 108) (σ 109)).2.2.2.1 - (lwR1 (σ 92) n (σ 108) (σ 109)).2.2.2.1 → zwr σ3 55 6 (σ3 48 5) 60 i = cod ((lwR2 (σ 92) n (σ 108) (σ 109)).2.2.2.2.1 ((lwR1 (σ 92) n (σ 108) (σ 109)).2.2.2.1 + i)) ((lwR2 (σ 92) n (σ 108) (σ 109)).2.2.2.2.2 ((lwR1 (σ 92) n (σ 108) (σ 109)).2.2.2.1 + i)) := by
      intro i hi
      rw [zwr_rne (show (60 : Nat) ≠ 55 by decide), r3 i hi, f2 53 (by decide) (by decide), zwr_rne (show (53 : Nat) ≠ 46 by decide)]
      exact c53 i hi
    generalize zwr σ3 55 6 (σ3 48 5) = σ6 at g0 e55 e557 e461 e562 e592 e57 e60
    have h72 : σ6 72 = σ 72 := g0 72 (by decide) (by decide) (by decide) (by decide) (by decide) (by decide) (by decide) (by decide) (by decide) (by decide) (by decide)
    have h92 : σ6 92 = σ 92 := g0 92 (by decide) (by decide) (by decide) (by decide) (by decide) (by decide) (by decide) (by decide) (by decide) (by decide) (by decide)
    have h108 : σ6 108 = σ 108 := g0 108 (by decide) (by decide) (by decide) (by decide) (by decide) (by decide) (by decide) (by decide) (by decide) (by decide) (by decide)
    have h109 : σ6 109 = σ 109 := g0 109 (by decide) (by decide) (by decide) (by decide) (by decide) (by decide) (by decide) (by decide) (by decide) (by decide) (by decide)
    refine m_law (s := σ 108) (v := σ 109) ⟨cm.1, by rw [h72]; exact cm.2.1, by rw [h92]; exact cm.2.2⟩ ht h108 h109 (fun _ σ4 g1 g2 g28 g46 g47 g48 g49 gr => ⟨e55, ?_⟩) (fun no => absurd ok no)
    refine law_rall h (fun a s0 a1 a2 a3 a4 a5 a6 a7 a8 a9 => ?_) (fun j s0 j1 j2 j3 j4 j5 => ?_) ?_ ?_ g28 ?_
    · rw [g1 a a7 a8 a9 (ns s0 (by decide)) (ns s0 (by decide))]
      exact g0 a a1 (ns s0 (by decide)) (ns s0 (by decide)) (ns s0 (by decide)) (ns s0 (by decide)) (ns s0 (by decide)) a2 a3 a4 a5 a6
    · rw [g2 j s0 j1 j2 j3 j4 j5, h72]
    · rw [g1 55 (by decide) (by decide) (by decide) (by decide) (by decide)]; exact e557
    · rw [g1 46 (by decide) (by decide) (by decide) (by decide) (by decide)]; exact e461
    · rw [g46, g47, g48, g49, g1 55 (by decide) (by decide) (by decide) (by decide) (by decide), g1 56 (by decide) (by decide) (by decide) (by decide) (by decide), g1 57 (by decide) (by decide) (by decide) (by decide) (by decide), g1 59 (by decide) (by decide) (by decide) (by decide) (by decide), g1 60 (by decide) (by decide) (by decide) (by decide) (by decide), e55, e562, e592]
      refine Or.inr ⟨rfl, rfl, by rw [tin (by omega)]; omega, (lwR1 (σ 92) n (σ 108) (σ 109)).2.2.2.1, (lwR2 (σ 92) n (σ 108) (σ 109)).2.2.2.1 - (lwR1 (σ 92) n (σ 108) (σ 109)).2.2.2.1, rfl, ?_, by omega, rfl, rfl, fun i hi => ?_, fun i hi => ?_, ?_, ?_⟩
      · rw [show (lwR1 (σ 92) n (σ 108) (σ 109)).2.2.2.1 + ((lwR2 (σ 92) n (σ 108) (σ 109)).2.2.2.1 - (lwR1 (σ 92) n (σ 108) (σ 109)).2.2.2.1) = (lwR2 (σ 92) n (σ 108) (σ 109)).2.2.2.1 by omega]
      · rw [e57 i hi, (gr i (by omega)).1, (gr i (by omega)).2, (q5 i hi).1, (q5 i hi).2]
      · rw [e60 i hi, (gr _ (by omega)).1, (gr _ (by omega)).2]
      · exact wfd_agree _ _ _ (fun j _ j2 => gr j (by omega)) q6
      · exact wfd_agree _ _ _ (fun j _ j2 => gr j (by omega)) q7
  · rintro _ rfl
    rw [if_pos rfl]
    have e2 : zwr σ1 46 1 0 46 2 = nI (lawPl (σ 92) n (σ 108) (σ 109)) := by rw [zwr_req, upd_ne (by decide)]; exact p1
    have g0 : ∀ a, a ≠ 46 → a ≠ 48 → a ≠ 49 → a ≠ 50 → a ≠ 52 → a ≠ 53 → zwr σ1 46 1 0 a = σ a := by
      intro a a1 a2 a3 a4 a5 a6
      rw [zwr_rne a1]
      exact lf.1 a a1 a2 a3 a4 a5 a6
    have e461 : zwr σ1 46 1 0 46 1 = 0 := zwr_same _ _ _ _
    rw [e2]
    generalize zwr σ1 46 1 0 = σ6 at g0 e461
    have h72 : σ6 72 = σ 72 := g0 72 (by decide) (by decide) (by decide) (by decide) (by decide) (by decide)
    have h92 : σ6 92 = σ 92 := g0 92 (by decide) (by decide) (by decide) (by decide) (by decide) (by decide)
    have h108 : σ6 108 = σ 108 := g0 108 (by decide) (by decide) (by decide) (by decide) (by decide) (by decide)
    have h109 : σ6 109 = σ 109 := g0 109 (by decide) (by decide) (by decide) (by decide) (by decide) (by decide)
    refine m_law (s := σ 108) (v := σ 109) ⟨cm.1, by rw [h72]; exact cm.2.1, by rw [h92]; exact cm.2.2⟩ ht h108 h109 (fun ok => absurd ok no) (fun _ σ4 g1 g28 => ⟨rfl, ?_⟩)
    have ga : ∀ a, scr a = false → a ≠ 46 → a ≠ 72 → σ4 a = σ a := by
      intro a s0 a1 a2
      rw [g1.1 a a2 (ns s0 (by decide)) (ns s0 (by decide))]
      exact g0 a a1 (ns s0 (by decide)) (ns s0 (by decide)) (ns s0 (by decide)) (ns s0 (by decide)) (ns s0 (by decide))
    refine law_rall h (fun a s0 a1 a2 a3 a4 a5 a6 a7 a8 a9 => ga a s0 a1 a7) (fun j s0 j1 j2 j3 j4 j5 => ?_) ?_ ?_ g28 ?_
    · rw [g1.2 j s0 j1, h72]
    · rw [ga 55 (by decide) (by decide) (by decide)]
    · rw [g1.1 46 (by decide) (by decide) (by decide)]; exact e461
    · rw [g1.2 46 (by decide) (by decide), g1.2 47 (by decide) (by decide), g1.2 48 (by decide) (by decide), g1.2 49 (by decide) (by decide), h72, ga 55 (by decide) (by decide) (by decide), ga 56 (by decide) (by decide) (by decide), ga 57 (by decide) (by decide) (by decide), ga 59 (by decide) (by decide) (by decide), ga 60 (by decide) (by decide) (by decide), ga 106 (by decide) (by decide) (by decide), ga 107 (by decide) (by decide) (by decide)]
      exact klw
