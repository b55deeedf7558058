def cno (f : Nat → Int32) : Nat → Nat
  | 0 => 0
  | n + 1 => cno f n + (if f n = -1 then 1 else 0)
theorem cno_le (f : Nat → Int32) (n : Nat) : cno f n ≤ n := by
  induction n with
  | zero => exact Nat.le_refl _
  | succ n ih => unfold cno; split <;> omega
theorem xr_noClass {G : zGT} {d : Nat} {Φ : Int32 → zMem → Prop} {σ : zMem} {n : Nat} (hn : σ 1 6 = nI n) (hn2 : n ≤ 24) (hr : ∀ c : Nat, c < n → σ 35 c = enc (σ 82 c) ∧ -1 ≤ (σ 82 c).toInt) (h : Φ (nI (cno (σ 82) n)) σ) : CTI G (d + 2) Y_X11_claimsInNoClass [.inr (.inr 0)] σ Φ := by
  refine en_X11_claimsInNoClass ?_
  have L : ∀ m i : Nat, i + m = n → WJ G M_X11_claimsInNoClass (d + 2) (RI Φ) 4 [some (.inr (.inr 0)), some (.inl (nI (cno (σ 82) i))), some (.inl (nI i))] [] σ := by
    intro m
    induction m with
    | zero =>
      intro i hi
      refine rg_X11_claimsInNoClass_4 ?_
      have : i = n := by omega
      subst this
      rw [hn, if_pos (nI_le (by omega) (by omega))]
      exact h
    | succ m ih =>
      intro i hi
      refine rg_X11_claimsInNoClass_4 ?_
      rw [hn, if_neg (nI_ge (by omega) (by omega)), cln (by omega)]
      refine ⟨vin (by omega), ?_⟩
      obtain ⟨r1, r2⟩ := hr i (by omega)
      have ih' := ih (i + 1) (by omega)
      rw [r1]
      by_cases g : σ 82 i = -1
      · rw [g, enc_m1, if_pos rfl]
        refine c_truth1 ?_
        have e : cno (σ 82) (i + 1) = cno (σ 82) i + 1 := by show _ + _ = _; rw [if_pos g]
        rw [e] at ih'
        rw [nI_1, nI_1]
        exact ih'
      · have g1 : 0 ≤ (σ 82 i).toInt := by rw [fa_eq, tim1] at g; omega
        rw [enc_nn g1, if_neg (by rw [fa_eq, tiN]; omega)]
        refine c_truth0 ?_
        have e : cno (σ 82) (i + 1) = cno (σ 82) i := by show _ + _ = _; rw [if_neg g]; rfl
        rw [e] at ih'
        rw [nI_1, Int32.add_zero]
        exact ih'
  exact L n 0 (by omega)
theorem mr_noClass {G : zGT} {d : Nat} {Φ : Int32 → zMem → Prop} {σ : zMem} {n : Nat} (hn : σ 72 8 = nI n) (hn2 : n ≤ 24) (hr : ∀ c : Nat, c < n → -1 ≤ (σ 82 c).toInt) (h : Φ (nI (cno (σ 82) n)) σ) : WJ G M_X12_count (d + 1) (RI Φ) 91 [some (.inr (.inr 72)), none, some (.inl 0), some (.inl 0)] [] σ := by
  have L : ∀ m i : Nat, i + m = n → WJ G M_X12_count (d + 1) (RI Φ) 91 [some (.inr (.inr 72)), none, some (.inl (nI (cno (σ 82) i))), some (.inl (nI i))] [] σ := by
    intro m
    induction m with
    | zero =>
      intro i hi
      refine rg_X12_count_91 ?_
      have : i = n := by omega
      subst this
      rw [hn, if_pos (nI_le (by omega) (by omega))]
      exact h
    | succ m ih =>
      intro i hi
      refine rg_X12_count_91 ?_
      rw [hn, if_neg (nI_ge (by omega) (by omega)), cln (by omega)]
      refine ⟨vin (by omega), ?_⟩
      have r2 := hr i (by omega)
      have ih' := ih (i + 1) (by omega)
      by_cases g : σ 82 i = -1
      · rw [if_neg (by rw [g]; decide)]
        have e : cno (σ 82) (i + 1) = cno (σ 82) i + 1 := by show _ + _ = _; rw [if_pos g]
        rw [e] at ih'
        rw [nI_1, nI_1]
        exact ih'
      · have g1 : 0 ≤ (σ 82 i).toInt := by rw [fa_eq, tim1] at g; omega
        rw [if_pos (by rw [fa_le, ti0]; exact g1)]
        have e : cno (σ 82) (i + 1) = cno (σ 82) i := by show _ + _ = _; rw [if_neg g]; rfl
        rw [e] at ih'
        rw [nI_1, Int32.add_zero]
        exact ih'
  exact L n 0 (by omega)
theorem P_count {G : zGT} {d : Nat} {v1 : Int32} : Pair G (d + 3) Y_X11_count Y_X12_count [.inl v1] := by
  intro σ h
  have hh := h
  obtain ⟨⟨k1, k2, k3, k4, k5, k6, k7, k8, k9⟩, kas, kcl, kda, kdh, kpl, kkp, ksh, kwt, ktp, klw, ksd, kw0, kw1⟩ := h
  obtain ⟨e1, b1, u1⟩ := id k1
  obtain ⟨e2, b2, u2⟩ := id k2
  obtain ⟨e3, b3, u3⟩ := id k3
  obtain ⟨e4, b4, u4⟩ := id k4
  obtain ⟨e5, b5, u5⟩ := id k5
  obtain ⟨e6, b6, u6⟩ := id k6
  obtain ⟨e7, b7, u7⟩ := id k7
  obtain ⟨e8, b8, u8⟩ := id k8
  obtain ⟨e9, b9, u9⟩ := id k9
  refine en_X11_count ?_
  by_cases g0 : v1 = 0
  · subst g0
    rw [if_pos rfl]
    refine en_X12_count ?_
    rw [if_pos rfl]
    exact ⟨e1, hh⟩
  by_cases g1 : v1 = 1
  · subst g1
    rw [if_neg (by decide), if_pos rfl]
    refine en_X12_count ?_
    rw [if_neg (by decide), if_pos rfl]
    exact ⟨e2, hh⟩
  by_cases g2 : v1 = 2
  · subst g2
    rw [if_neg (by decide), if_neg (by decide), if_pos rfl]
    refine en_X12_count ?_
    rw [if_neg (by decide), if_neg (by decide), if_pos rfl]
    exact ⟨e3, hh⟩
  by_cases g3 : v1 = 3
  · subst g3
    rw [if_neg (by decide), if_neg (by decide), if_neg (by decide), if_pos rfl]
    refine en_X12_count ?_
    rw [if_neg (by decide), if_neg (by decide), if_neg (by decide), if_pos rfl]
    exact ⟨e4, hh⟩
  by_cases g4 : v1 = 4
  · subst g4
    rw [if_neg (by decide), if_neg (by decide), if_neg (by decide), if_neg (by decide), if_pos rfl]
    refine en_X12_count ?_
    rw [if_neg (by decide), if_neg (by decide), if_neg (by decide), if_neg (by decide), if_pos rfl]
    exact ⟨e8, hh⟩
  by_cases g5 : v1 = 5
  · subst g5
    rw [if_neg (by decide), if_neg (by decide), if_neg (by decide), if_neg (by decide), if_neg (by decide), if_pos rfl]
    refine en_X12_count ?_
    rw [if_neg (by decide), if_neg (by decide), if_neg (by decide), if_neg (by decide), if_neg (by decide), if_pos rfl]
    exact ⟨e9, hh⟩
  by_cases g6 : v1 = 6
  · subst g6
    rw [if_neg (by decide), if_neg (by decide), if_neg (by decide), if_neg (by decide), if_neg (by decide), if_neg (by decide), if_pos rfl]
    refine en_X12_count ?_
    rw [if_neg (by decide), if_neg (by decide), if_neg (by decide), if_neg (by decide), if_neg (by decide), if_neg (by decide), if_pos rfl]
    exact ⟨e5, hh⟩
  by_cases g7 : v1 = 7
  · subst g7
    rw [if_neg (by decide), if_neg (by decide), if_neg (by decide), if_neg (by decide), if_neg (by decide), if_neg (by decide), if_neg (by decide), if_pos rfl]
    obtain ⟨n, hn, hn2, hn3⟩ := num_of b3 u3
    refine xr_noClass (n := n) (by rw [e3, hn]) (by omega) (fun c hc => ?_) ?_
    · obtain ⟨p1, p2, p3, p4, p5, p6⟩ := kpl.1 c (by rw [hn, tin hn3]; omega)
      exact ⟨p1, p3⟩
    refine en_X12_count ?_
    rw [if_neg (by decide), if_neg (by decide), if_neg (by decide), if_neg (by decide), if_neg (by decide), if_neg (by decide), if_neg (by decide), if_pos rfl]
    refine mr_noClass hn (by omega) (fun c hc => ?_) ⟨rfl, hh⟩
    obtain ⟨p1, p2, p3, p4, p5, p6⟩ := kpl.1 c (by rw [hn, tin hn3]; omega)
    exact p3
  by_cases g8 : v1 = 8
  · subst g8
    rw [if_neg (by decide), if_neg (by decide), if_neg (by decide), if_neg (by decide), if_neg (by decide), if_neg (by decide), if_neg (by decide), if_neg (by decide), if_pos rfl]
    refine en_X12_count ?_
    rw [if_neg (by decide), if_neg (by decide), if_neg (by decide), if_neg (by decide), if_neg (by decide), if_neg (by decide), if_neg (by decide), if_neg (by decide), if_pos rfl]
    rcases klw with ⟨q1, q2⟩ | ⟨q1, q2, _⟩
    · rw [q1, if_pos rfl]
      exact ⟨q2, hh⟩
    · rw [q1, if_neg (by decide)]
      exact ⟨q2, hh⟩
  rw [if_neg g0, if_neg g1, if_neg g2, if_neg g3, if_neg g4, if_neg g5, if_neg g6, if_neg g7, if_neg g8]
  refine en_X12_count ?_
  rw [if_neg g0, if_neg g1, if_neg g2, if_neg g3, if_neg g4, if_neg g5, if_neg g6, if_neg g7, if_neg g8]
  exact ⟨rfl, hh⟩
