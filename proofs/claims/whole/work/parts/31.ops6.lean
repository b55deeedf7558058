theorem Rpl.fill {n : Int32} {k1 k2 : Nat} {xc xv xn xl xm mc mv mt g1 g2 g3 g4 g5 g6 g7 g8 : Nat → Int32} (h : Rpl n xc xv xn xl xm mc mv mt) (h1 : n.toInt ≤ (k1 : Int)) (h2 : n.toInt ≤ (k2 : Int)) :
    Rpl n (ffl g1 xc k1) (ffl g2 xv k1) (ffl g3 xn 6) (ffl g4 xl 6) (ffl g5 xm 6) (ffl g6 mc k2) (ffl g7 mv k2) (ffl g8 mt 18) := by
  refine ⟨fun i hi => ?_, fun i hi => ?_⟩
  · rw [ffl_in (by omega), ffl_in (by omega), ffl_in (by omega), ffl_in (by omega)]
    exact h.1 i hi
  · rw [ffl_in hi, ffl_in hi, ffl_in hi, ffl_in (by omega), ffl_in (by omega), ffl_in (by omega)]
    exact h.2 i hi
theorem mr_keep {G : zGT} {d : Nat} {Φ : Int32 → zMem → Prop} {σ : zMem} (h : Φ (σ 72 8) (zfl (zfl (zfl (zwr (zwr σ 72 29 1) 72 30 (σ 72 8)) 93 (σ 82) 24) 94 (σ 83) 24) 95 (σ 90) 18)) : CTI G d Y_X12_keep [.inr (.inr 72)] σ Φ := by
  refine en_X12_keep ?_
  rintro _ rfl
  rintro _ rfl
  have e8 : zwr σ 72 29 1 72 8 = σ 72 8 := by simp only [zwr_req, upd_ne, ne_eq, Nat.reduceEqDiff, not_false_eq_true]
  rw [e8]
  generalize hτ : zwr (zwr σ 72 29 1) 72 30 (σ 72 8) = τ at h
  have t82 : τ 82 = σ 82 := by rw [← hτ, zwr_rne (by decide), zwr_rne (by decide)]
  have t83 : τ 83 = σ 83 := by rw [← hτ, zwr_rne (by decide), zwr_rne (by decide)]
  have t90 : τ 90 = σ 90 := by rw [← hτ, zwr_rne (by decide), zwr_rne (by decide)]
  have t72 : τ 72 8 = σ 72 8 := by rw [← hτ]; simp only [zwr_req, upd_ne, ne_eq, Nat.reduceEqDiff, not_false_eq_true]
  have L2 : ∀ m i : Nat, i + m = 18 → WJ G M_X12_keep d (RI Φ) 53 [some (.inr (.inr 72)), some (.inl (nI i))] [] (zfl (zfl (zfl τ 93 (σ 82) 24) 94 (σ 83) 24) 95 (σ 90) i) := by
    intro m
    induction m with
    | zero =>
      intro i hi
      refine rg_X12_keep_53 ?_
      have : i = 18 := by omega
      subst this
      rw [if_pos (by decide)]
      simp only [zfl_rne, ne_eq, Nat.reduceEqDiff, not_false_eq_true, t72]
      exact h
    | succ m ih =>
      intro i hi
      refine rg_X12_keep_53 ?_
      have q6 : ¬ (nI 18 ≤ nI i) := nI_ge (by omega) (by omega)
      rw [if_neg (show ¬ ((18 : Int32) ≤ nI i) from q6), cln (by omega)]
      have v6 : vp_in (nI i) 18 := vin (by omega)
      refine ⟨v6, v6, ?_⟩
      rintro _ rfl
      simp only [zfl_rne, ne_eq, Nat.reduceEqDiff, not_false_eq_true, nI_1, t90]
      rw [zfl_s1]
      exact ih (i + 1) (by omega)
  have L1 : ∀ m i : Nat, i + m = 24 → WJ G M_X12_keep d (RI Φ) 15 [some (.inr (.inr 72)), some (.inl (nI i))] [] (zfl (zfl τ 93 (σ 82) i) 94 (σ 83) i) := by
    intro m
    induction m with
    | zero =>
      intro i hi
      refine rg_X12_keep_15 ?_
      have : i = 24 := by omega
      subst this
      rw [if_pos (by decide)]
      have := L2 18 0 rfl
      rw [zfl_0] at this
      exact this
    | succ m ih =>
      intro i hi
      refine rg_X12_keep_15 ?_
      have q6 : ¬ (nI 24 ≤ nI i) := nI_ge (by omega) (by omega)
      rw [if_neg (show ¬ ((24 : Int32) ≤ nI i) from q6), cln (by omega)]
      have v6 : vp_in (nI i) 24 := vin (by omega)
      refine ⟨v6, v6, ?_⟩
      rintro _ rfl
      refine ⟨v6, v6, ?_⟩
      rintro _ rfl
      simp only [zwr_rne, zfl_rne, ne_eq, Nat.reduceEqDiff, not_false_eq_true, nI_1, t82, t83]
      rw [zfl_s2 (by decide)]
      exact ih (i + 1) (by omega)
  have := L1 24 0 rfl
  rw [zfl_0, zfl_0] at this
  exact this
theorem P_keep {G : zGT} {d : Nat} : Pair G (d + 1) Y_X11_keep Y_X12_keep [] := by
  intro σ h
  have hh := h
  obtain ⟨⟨k1, k2, k3, k4, k5, k6, k7, k8, k9⟩, kas, kcl, kda, kdh, kpl, kkp, ksh, kwt, ktp, klw, ksd, kw0, kw1⟩ := h
  obtain ⟨e1, b1, u1⟩ := id k1
  obtain ⟨e2, b2, u2⟩ := id k2
  obtain ⟨e3, b3, u3⟩ := id k3
  obtain ⟨e4, b4, u4⟩ := id k4
  obtain ⟨e5, b5, u5⟩ := id k5
  obtain ⟨e6, b6, u6⟩ := id k6
  obtain ⟨e7, b7, u7⟩ := id k7
  obtain ⟨e8, b8, u8⟩ := id k8
  obtain ⟨e9, b9, u9⟩ := id k9
  refine en_X11_keep ?_
  rintro _ rfl
  obtain ⟨n, hn, hn2, hn3⟩ := num_of b3 u3
  have e3n : σ 1 6 = nI n := by rw [e3, hn]
  have tn : (σ 72 8).toInt = (n : Int) := by rw [hn, tin hn3]
  simp only [zwr_rne, zwr_req, upd_ne, upd_eq, ne_eq, Nat.reduceEqDiff, not_false_eq_true, e3n]
  refine c_take40 (by omega) ?_
  refine mr_keep ?_
  unfold Rall
  simp only [zwr_rne, zwr_req, upd_ne, upd_eq, ne_eq, Nat.reduceEqDiff, not_false_eq_true, zfl_rne, zfl_req]
  refine ⟨hn.symm, ⟨k1, k2, k3, k4, k5, k6, k7, k8, k9⟩, kas, kcl, kda, kdh, kpl, ?_, ksh, kwt, ktp, klw, ksd, kw0, kw1⟩
  refine Or.inr ⟨rfl, hn.symm, by omega, by omega, ?_⟩
  exact kpl.fill (by omega) (by omega)
theorem mr_back {G : zGT} {d : Nat} {Φ : Int32 → zMem → Prop} {σ : zMem} {n : Nat} (hk : σ 72 29 = 1) (hn : σ 72 30 = nI n) (hn2 : n ≤ 24) (h : Φ (σ 72 30) (zfl (zfl (zfl σ 82 (σ 93) n) 83 (σ 94) n) 90 (σ 95) 18)) : CTI G d Y_X12_back [.inr (.inr 72)] σ Φ := by
  refine en_X12_back ?_
  rw [if_neg (by rw [hk]; decide)]
  have L2 : ∀ m i : Nat, i + m = 18 → WJ G M_X12_back d (RI Φ) 52 [some (.inr (.inr 72)), some (.inl (nI i))] [] (zfl (zfl (zfl σ 82 (σ 93) n) 83 (σ 94) n) 90 (σ 95) i) := by
    intro m
    induction m with
    | zero =>
      intro i hi
      refine rg_X12_back_52 ?_
      have : i = 18 := by omega
      subst this
      rw [if_pos (by decide)]
      simp only [zfl_rne, ne_eq, Nat.reduceEqDiff, not_false_eq_true]
      exact h
    | succ m ih =>
      intro i hi
      refine rg_X12_back_52 ?_
      have q6 : ¬ (nI 18 ≤ nI i) := nI_ge (by omega) (by omega)
      rw [if_neg (show ¬ ((18 : Int32) ≤ nI i) from q6), cln (by omega)]
      have v6 : vp_in (nI i) 18 := vin (by omega)
      refine ⟨v6, v6, ?_⟩
      rintro _ rfl
      simp only [zfl_rne, ne_eq, Nat.reduceEqDiff, not_false_eq_true, nI_1]
      rw [zfl_s1]
      exact ih (i + 1) (by omega)
  have L1 : ∀ m i : Nat, i + m = n → WJ G M_X12_back d (RI Φ) 12 [some (.inr (.inr 72)), some (.inl (nI i))] [] (zfl (zfl σ 82 (σ 93) i) 83 (σ 94) i) := by
    intro m
    induction m with
    | zero =>
      intro i hi
      refine rg_X12_back_12 ?_
      have : i = n := by omega
      subst this
      simp only [zfl_rne, ne_eq, Nat.reduceEqDiff, not_false_eq_true, hn]
      rw [if_pos (nI_le (by omega) (by omega))]
      have := L2 18 0 rfl
      rw [zfl_0] at this
      exact this
    | succ m ih =>
      intro i hi
      refine rg_X12_back_12 ?_
      simp only [zfl_rne, ne_eq, Nat.reduceEqDiff, not_false_eq_true, hn]
      rw [if_neg (nI_ge (by omega) (by omega)), cln (by omega)]
      have v6 : vp_in (nI i) 24 := vin (by omega)
      refine ⟨v6, v6, ?_⟩
      rintro _ rfl
      refine ⟨v6, v6, ?_⟩
      rintro _ rfl
      simp only [zwr_rne, zfl_rne, ne_eq, Nat.reduceEqDiff, not_false_eq_true, nI_1]
      rw [zfl_s2 (by decide)]
      exact ih (i + 1) (by omega)
  have := L1 n 0 (by omega)
  rw [zfl_0, zfl_0] at this
  exact this
theorem Rpl.back {n kn : Int32} {k : Nat} {xc xv xn xl xm mc mv mt g1 g2 g3 g4 g5 g6 g7 g8 : Nat → Int32} (h : Rpl kn xc xv xn xl xm mc mv mt) (h0 : Rpl n g1 g2 g3 g4 g5 g6 g7 g8) (h1 : kn.toInt = (k : Int)) :
    Rpl n (ffl g1 xc k) (ffl g2 xv k) (ffl g3 xn 6) (ffl g4 xl 6) (ffl g5 xm 6) (ffl g6 mc k) (ffl g7 mv k) (ffl g8 mt 18) := by
  refine ⟨fun i hi => ?_, fun i hi => ?_⟩
  · by_cases q : i < k
    · rw [ffl_in (by omega), ffl_in (by omega), ffl_in (by omega), ffl_in (by omega)]
      exact h.1 i (by omega)
    · rw [ffl_out (by omega), ffl_out (by omega), ffl_out (by omega), ffl_out (by omega)]
      exact h0.1 i hi
  · rw [ffl_in hi, ffl_in hi, ffl_in hi, ffl_in (by omega), ffl_in (by omega), ffl_in (by omega)]
    exact h.2 i hi
theorem P_back {G : zGT} {d : Nat} : Pair G (d + 1) Y_X11_back Y_X12_back [] := by
  intro σ h
  have hh := h
  obtain ⟨⟨k1, k2, k3, k4, k5, k6, k7, k8, k9⟩, kas, kcl, kda, kdh, kpl, kkp, ksh, kwt, ktp, klw, ksd, kw0, kw1⟩ := h
  obtain ⟨e1, b1, u1⟩ := id k1
  obtain ⟨e2, b2, u2⟩ := id k2
  obtain ⟨e3, b3, u3⟩ := id k3
  obtain ⟨e4, b4, u4⟩ := id k4
  obtain ⟨e5, b5, u5⟩ := id k5
  obtain ⟨e6, b6, u6⟩ := id k6
  obtain ⟨e7, b7, u7⟩ := id k7
  obtain ⟨e8, b8, u8⟩ := id k8
  obtain ⟨e9, b9, u9⟩ := id k9
  refine en_X11_back ?_
  have kkp' := kkp
  rcases kkp with ⟨g1, g2⟩ | ⟨g1, g2, g3, g4, g5⟩
  · rw [g2, if_neg (by decide)]
    refine en_X12_back ?_
    rw [g1, if_pos rfl]
    exact ⟨rfl, hh⟩
  · obtain ⟨n, hn, hn2, hn3⟩ := num_of g3 (show (σ 72 30).toInt ≤ 24 by omega)
    have tn : (σ 72 30).toInt = (n : Int) := by rw [hn, tin hn3]
    rw [g2, if_pos (by rw [fa_le, ti0]; exact g3)]
    have cb : ∀ Ψ : zMem → Prop, CTV G d Y_X5_take [.inr (.inr 34), .inr (.inr 40), .inl (nI n)] σ Ψ → CTV G d Y_X5_take [.inr (.inr 34), .inr (.inr 40), .inl (σ 72 30)] σ Ψ := by rw [hn]; exact fun _ h => h
    refine cb _ (c_take34 (by omega) ?_)
    refine mr_back (n := n) (by simp only [zfl_rne, ne_eq, Nat.reduceEqDiff, not_false_eq_true]; exact g1) (by simp only [zfl_rne, ne_eq, Nat.reduceEqDiff, not_false_eq_true]; exact hn) (by omega) ?_
    unfold Rall
    simp only [zwr_rne, zwr_req, upd_ne, upd_eq, ne_eq, Nat.reduceEqDiff, not_false_eq_true, zfl_rne, zfl_req]
    exact ⟨g2, ⟨k1, k2, k3, k4, k5, k6, k7, k8, k9⟩, kas, kcl, kda, kdh, g5.back kpl tn, kkp', ksh, kwt, ktp, klw, ksd, kw0, kw1⟩
def vfn (r : Nat → Int32) (s : Nat) : Nat → Int32 := fun i => if 0 ≤ (r (24 * s + i)).toInt ∧ (r (24 * s + i)).toInt ≤ 2 then r (24 * s + i) else 0
theorem vfn_rng (r : Nat → Int32) (s i : Nat) : 0 ≤ (vfn r s i).toInt ∧ (vfn r s i).toInt ≤ 2 := by
  unfold vfn
  split
  · assumption
  · decide
theorem ix24 (s i : Nat) : nI s * 24 + nI i = nI (24 * s + i) := by rw [show (24 : Int32) = nI 24 from rfl, pk_mul, nI_add, Nat.mul_comm]
theorem ix24' (s i : Nat) : 24 * nI s + nI i = nI (24 * s + i) := by rw [show (24 : Int32) = nI 24 from rfl, pk_mul, nI_add]
theorem xr_votes {G : zGT} {d : Nat} {Φ : Int32 → zMem → Prop} {σ : zMem} {s n : Nat} (hs : s < 2) (hn : n ≤ 24) (h : Φ (nI n) (zfl σ 36 (vfn (σ 70) s) n)) :
    ∀ m i : Nat, i + m = n → WJ G M_X11_votes (d + 1) (RI Φ) 42 [some (.inr (.inr 0)), some (.inl (nI s)), some (.inl (nI n)), some (.inl (nI i)), none] [] (zfl σ 36 (vfn (σ 70) s) i) := by
  intro m
  induction m with
  | zero =>
    intro i hi
    refine rg_X11_votes_42 ?_
    have : i = n := by omega
    subst this
    rw [if_pos (nI_le (by omega) (by omega))]
    exact h
  | succ m ih =>
    intro i hi
    refine rg_X11_votes_42 ?_
    have c1 : (nI (24 * s + i)).toNatClampNeg = 24 * s + i := cln (by omega)
    have c2 : (nI i).toNatClampNeg = i := cln (by omega)
    rw [if_neg (nI_ge (by omega) (by omega)), ix24, c1, c2]
    refine ⟨vin (by omega), ?_⟩
    have v6 : vp_in (nI i) 24 := vin (by omega)
    have st := @zfl_s1 σ 36 (vfn (σ 70) s) i
    simp only [zfl_rne, ne_eq, Nat.reduceEqDiff, not_false_eq_true]
    have ih' := ih (i + 1) (by omega)
    rw [← st] at ih'
    refine c_isWithin (fun p q => ?_) (fun p => ?_)
    · rw [if_neg (by decide)]
      refine ⟨v6, ?_⟩
      rintro _ rfl
      have e : vfn (σ 70) s i = σ 70 (24 * s + i) := if_pos ⟨p, q⟩
      rw [e] at ih'
      rw [nI_1]
      exact ih'
    · rw [if_pos rfl]
      refine ⟨v6, ?_⟩
      rintro _ rfl
      have e : vfn (σ 70) s i = 0 := if_neg (by rw [ti2] at p; omega)
      rw [e] at ih'
      rw [nI_1]
      exact ih'
theorem mr_votes {G : zGT} {d : Nat} {Φ : Int32 → zMem → Prop} {σ : zMem} {s n : Nat} (hs : s < 2) (hn : n ≤ 24) (h : Φ (nI n) (zfl σ 83 (vfn (σ 97) s) n)) :
    ∀ m i : Nat, i + m = n → WJ G M_X12_votes (d + 1) (RI Φ) 51 [some (.inr (.inr 72)), some (.inl (nI s)), some (.inl (nI n)), some (.inl (nI i)), none] [] (zfl σ 83 (vfn (σ 97) s) i) := by
  intro m
  induction m with
  | zero =>
    intro i hi
    refine rg_X12_votes_51 ?_
    have : i = n := by omega
    subst this
    rw [if_pos (nI_le (by omega) (by omega))]
    exact h
  | succ m ih =>
    intro i hi
    refine rg_X12_votes_51 ?_
    have c1 : (nI (24 * s + i)).toNatClampNeg = 24 * s + i := cln (by omega)
    have c2 : (nI i).toNatClampNeg = i := cln (by omega)
    rw [if_neg (nI_ge (by omega) (by omega)), ix24', c1, c2]
    refine ⟨vin (by omega), ?_⟩
    have v6 : vp_in (nI i) 24 := vin (by omega)
    have st := @zfl_s1 σ 83 (vfn (σ 97) s) i
    simp only [zfl_rne, ne_eq, Nat.reduceEqDiff, not_false_eq_true]
    have ih' := ih (i + 1) (by omega)
    rw [← st] at ih'
    refine m_isIn (fun p q => ?_) (fun p => ?_)
    · rw [if_neg (by decide)]
      refine ⟨v6, ?_⟩
      rintro _ rfl
      have e : vfn (σ 97) s i = σ 97 (24 * s + i) := if_pos ⟨p, q⟩
      rw [e] at ih'
      rw [nI_1]
      exact ih'
    · rw [if_pos rfl]
      refine ⟨v6, ?_⟩
      rintro _ rfl
      have e : vfn (σ 97) s i = 0 := if_neg (by rw [ti2, ti0] at p; omega)
      rw [e] at ih'
      rw [nI_1]
      exact ih'
theorem Rpl.votes {n : Int32} {k s : Nat} {xc xv xn xl xm mc mv mt r r' : Nat → Int32} (h : Rpl n xc xv xn xl xm mc mv mt) (hk : k ≤ 24) (hs : s < 2) (e : ∀ i, i < 48 → r i = r' i) : Rpl n xc (ffl xv (vfn r s) k) xn xl xm mc (ffl mv (vfn r' s) k) mt := by
  refine ⟨fun i hi => ?_, h.2⟩
  obtain ⟨q1, q2, q3, q4, q5, q6⟩ := h.1 i hi
  by_cases g : i < k
  · rw [ffl_in g, ffl_in g]
    obtain ⟨w1, w2⟩ := vfn_rng r' s i
    refine ⟨q1, ?_, q3, q4, w1, w2⟩
    unfold vfn
    rw [e _ (by omega)]
  · rw [ffl_out (by omega), ffl_out (by omega)]
    exact ⟨q1, q2, q3, q4, q5, q6⟩
theorem P_votes {G : zGT} {d : Nat} {v1 : Int32} : Pair G (d + 2) Y_X11_votes Y_X12_votes [.inl v1] := by
  intro σ h
  have hh := h
  obtain ⟨⟨k1, k2, k3, k4, k5, k6, k7, k8, k9⟩, kas, kcl, kda, kdh, kpl, kkp, ksh, kwt, ktp, klw, ksd, kw0, kw1⟩ := h
  obtain ⟨e1, b1, u1⟩ := id k1
  obtain ⟨e2, b2, u2⟩ := id k2
  obtain ⟨e3, b3, u3⟩ := id k3
  obtain ⟨e4, b4, u4⟩ := id k4
  obtain ⟨e5, b5, u5⟩ := id k5
  obtain ⟨e6, b6, u6⟩ := id k6
  obtain ⟨e7, b7, u7⟩ := id k7
  obtain ⟨e8, b8, u8⟩ := id k8
  obtain ⟨e9, b9, u9⟩ := id k9
  refine en_X11_votes ?_
  refine c_isSheet (fun w1 w2 => ?_) (fun w => ?_)
  · rw [if_neg (by decide)]
    obtain ⟨s, rfl, hs, hs3⟩ := num_of w1 w2
    have cs : (nI s).toNatClampNeg = s := cln (by omega)
    have vs : vp_in (nI s) 2 := vin (by omega)
    obtain ⟨z1, z2, z3⟩ := ksh.1 s (by omega)
    rw [cs]
    refine ⟨vs, ?_⟩
    have hm : ∀ (Φ : Int32 → zMem → Prop), CTI G (d + 2) Y_X12_votes [.inr (.inr 72), .inl (nI s)] σ Φ ↔ CTI G (d + 2) Y_X12_votes [.inr (.inr 72), .inl (nI s)] σ Φ := fun _ => Iff.rfl
    by_cases g : σ 96 s = -1
    · rw [z1, g, enc_m1, if_neg (by decide)]
      refine en_X12_votes ?_
      refine m_isSheet (fun _ _ => ?_) (fun q => by omega)
      rw [if_neg (by decide), cs, g, if_neg (by decide)]
      exact ⟨vs, rfl, hh⟩
    · have g1 : 0 ≤ (σ 96 s).toInt := by rw [fa_eq, tim1] at g; omega
      rw [z1, enc_nn g1, if_pos (by rw [fa_le, ti0]; exact g1), e3]
      refine ⟨vs, ?_⟩
      obtain ⟨k, hk, hk2, hk3⟩ := num_of g1 z3
      obtain ⟨n, hn, hn2, hn3⟩ := num_of b3 u3
      have fin : ∀ j : Nat, j ≤ 24 → (∀ Φ : Int32 → zMem → Prop, ∀ τ : zMem, τ 96 s = nI k → τ 72 8 = nI n → WJ G M_X12_votes (d + 2) (RI Φ) 51 [some (.inr (.inr 72)), some (.inl (nI s)), some (.inl (nI j)), some (.inl 0), none] [] τ → CTI G (d + 2) Y_X12_votes [.inr (.inr 72), .inl (nI s)] τ Φ) →
          WJ G M_X11_votes (d + 2) (RI (fun r σ1 => CTI G (d + 2) Y_X12_votes [.inr (.inr 72), .inl (nI s)] σ1 (fun r' σ2 => r = r' ∧ Rall σ2))) 42 [some (.inr (.inr 0)), some (.inl (nI s)), some (.inl (nI j)), some (.inl 0), none] [] σ := by
        intro j hj H
        have X := @xr_votes G (d + 1) (fun r σ1 => CTI G (d + 2) Y_X12_votes [.inr (.inr 72), .inl (nI s)] σ1 (fun r' σ2 => r = r' ∧ Rall σ2)) σ s j (by omega) hj ?_ j 0 (by omega)
        · rw [zfl_0] at X
          exact X
        · refine H _ _ (by simp only [zfl_rne, ne_eq, Nat.reduceEqDiff, not_false_eq_true]; exact hk) (by simp only [zfl_rne, ne_eq, Nat.reduceEqDiff, not_false_eq_true]; exact hn) ?_
          have X := @mr_votes G (d + 1) (fun r' σ2 => nI j = r' ∧ Rall σ2) (zfl σ 36 (vfn (σ 70) s) j) s j (by omega) hj ?_ j 0 (by omega)
          · rw [zfl_0] at X
            exact X
          · unfold Rall
            simp only [zwr_rne, zwr_req, upd_ne, upd_eq, ne_eq, Nat.reduceEqDiff, not_false_eq_true, zfl_rne, zfl_req]
            exact ⟨trivial, ⟨k1, k2, k3, k4, k5, k6, k7, k8, k9⟩, kas, kcl, kda, kdh, kpl.votes hj (by omega) (fun i hi => (ksh.2 i hi).1), kkp, ksh, kwt, ktp, klw, ksd, kw0, kw1⟩
      rw [hk, hn]
      have pre : ∀ (Φ : Int32 → zMem → Prop) (τ : zMem), τ 96 s = nI k → τ 72 8 = nI n → (vp_in (nI s) 2 ∧ (if nI n ≤ nI k then WJ G M_X12_votes (d + 2) (RI Φ) 51 [some (.inr (.inr 72)), some (.inl (nI s)), some (.inl (nI n)), some (.inl 0), none] [] τ else (vp_in (nI s) 2 ∧ WJ G M_X12_votes (d + 2) (RI Φ) 51 [some (.inr (.inr 72)), some (.inl (nI s)), some (.inl (nI k)), some (.inl 0), none] [] τ))) → CTI G (d + 2) Y_X12_votes [.inr (.inr 72), .inl (nI s)] τ Φ := by
        intro Φ τ t1 t2 q
        refine en_X12_votes ?_
        refine m_isSheet (fun _ _ => ?_) (fun q => by omega)
        rw [if_neg (by decide), cs, t1, t2, if_pos (by rw [← hk, fa_le, ti0]; exact g1)]
        exact ⟨vs, q⟩
      by_cases gg : n < k
      · rw [if_pos (by rw [fa_lt, tin hn3, tin hk3]; omega)]
        refine fin n (by omega) (fun Φ τ t1 t2 q => pre Φ τ t1 t2 ⟨vs, ?_⟩)
        rw [if_pos (nI_le (by omega) (by omega))]
        exact q
      · rw [if_neg (by rw [fa_lt, tin hn3, tin hk3]; omega)]
        refine fin k (by omega) (fun Φ τ t1 t2 q => pre Φ τ t1 t2 ⟨vs, ?_⟩)
        by_cases ge : n = k
        · subst ge
          rw [if_pos (nI_le (by omega) (by omega))]
          exact q
        · rw [if_neg (nI_ge (by omega) (by omega))]
          exact ⟨vs, q⟩
  · rw [if_pos rfl]
    refine en_X12_votes ?_
    refine m_isSheet (fun _ _ => by omega) (fun q => ?_)
    rw [if_pos rfl]
    exact ⟨rfl, hh⟩
