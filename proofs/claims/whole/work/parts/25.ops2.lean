theorem tim1' : (-1 : Int32).toInt = -1 := rfl
theorem ti2 : (2 : Int32).toInt = 2 := rfl
theorem ti3 : (3 : Int32).toInt = 3 := rfl
theorem ti4 : (4 : Int32).toInt = 4 := rfl
theorem ti5 : (5 : Int32).toInt = 5 := rfl
theorem ti6 : (6 : Int32).toInt = 6 := rfl
theorem ti8 : (8 : Int32).toInt = 8 := rfl
theorem ti9 : (9 : Int32).toInt = 9 := rfl
theorem ti10 : (10 : Int32).toInt = 10 := rfl
theorem ti16 : (16 : Int32).toInt = 16 := rfl
theorem ti20 : (20 : Int32).toInt = 20 := rfl
theorem ti24 : (24 : Int32).toInt = 24 := rfl
theorem ti31 : (31 : Int32).toInt = 31 := rfl
theorem ti60 : (60 : Int32).toInt = 60 := rfl
theorem ti96 : (96 : Int32).toInt = 96 := rfl
theorem ti100 : (100 : Int32).toInt = 100 := rfl
theorem ti200 : (200 : Int32).toInt = 200 := rfl
theorem ti400 : (400 : Int32).toInt = 400 := rfl
theorem ti600 : (600 : Int32).toInt = 600 := rfl
theorem ti1200 : (1200 : Int32).toInt = 1200 := rfl
theorem ti100000 : (100000 : Int32).toInt = 100000 := rfl
theorem tiB : (-1000000001 : Int32).toInt = -1000000001 := rfl
theorem tiN : (-1000000005 : Int32).toInt = -1000000005 := rfl

theorem zlt {x y : Int32} {A B : Prop} (h1 : x.toInt < y.toInt → A) (h2 : y.toInt ≤ x.toInt → B) : if x < y then A else B := by
  by_cases h : x < y
  · rw [if_pos h]; exact h1 ((fa_lt _ _).mp h)
  · rw [if_neg h]; exact h2 (by rw [fa_lt] at h; omega)
theorem zle {x y : Int32} {A B : Prop} (h1 : x.toInt ≤ y.toInt → A) (h2 : y.toInt < x.toInt → B) : if x ≤ y then A else B := by
  by_cases h : x ≤ y
  · rw [if_pos h]; exact h1 ((fa_le _ _).mp h)
  · rw [if_neg h]; exact h2 (by rw [fa_le] at h; omega)
theorem zeq {x y : Int32} {A B : Prop} (h1 : x.toInt = y.toInt → A) (h2 : ¬ x.toInt = y.toInt → B) : if x = y then A else B := by
  by_cases h : x = y
  · rw [if_pos h]; exact h1 (by rw [h])
  · rw [if_neg h]; exact h2 (by rw [fa_eq] at h; exact h)

theorem Rdi.get {n : Int32} {hi : Int} {xd xv xw md mv mw : Nat → Int32} (h : Rdi n hi xd xv xw md mv mw) {c : Nat} (hc : (c : Int) < n.toInt) : ∃ w : Nat, w ≤ 8 ∧ mw c = nI w ∧ xw c = nI (w + 1) ∧ (mw c).toInt.toNat = w ∧ ∀ (day o : Int32) (k : Nat), k ≤ w + 1 → zlo xd xv (9 * c) day o k = zlo md mv (9 * c) day o k := by
  obtain ⟨q1, q2, q3, q4⟩ := h.1 c hc
  obtain ⟨w, hw, hw2, hw3⟩ := num_of q2 q3
  have e : (mw c).toInt = (w : Int) := by rw [hw, tin hw3]
  refine ⟨w, by omega, hw, by rw [q1, hw, nI_succ], by omega, fun day o k => ?_⟩
  induction k with
  | zero => intro _; rfl
  | succ k ih =>
    intro hk
    obtain ⟨r1, r2, -, -⟩ := q4 k (by omega)
    rw [zlo, zlo, r1, r2, ih (by omega)]
theorem cr_amountOn {G : zGT} {d : Nat} {Φ : Int32 → zMem → Prop} {σ : zMem} {day : Int32} {c : Nat} (hR : Rdi (σ 72 8) 100000 (σ 7) (σ 8) (σ 9) (σ 86) (σ 85) (σ 84)) (hc : (c : Int) < (σ 72 8).toInt) (hn : (σ 72 8).toInt ≤ 24) (h : Φ (amtS day (σ 84) (σ 85) (σ 86) c) σ) : CTI G (d + 1) Y_X1_amountOn [.inr (.inr 1), .inl (nI c), .inl day] σ Φ := by
  obtain ⟨w, h1, h2, h3, h4, h5⟩ := hR.get hc
  refine c_amountOn (w := w + 1) (by omega) h3 (by omega) ?_
  rw [h5 _ _ _ (by omega)]
  unfold amtS at h
  rwa [h4] at h
theorem mr_amountOn {G : zGT} {d : Nat} {Φ : Int32 → zMem → Prop} {σ : zMem} {day : Int32} {c : Nat} (hc : (c : Int) < (σ 72 8).toInt) (hn : (σ 72 8).toInt ≤ 24) (h1 : 0 ≤ (σ 84 c).toInt) (h2 : (σ 84 c).toInt ≤ 8) (h : Φ (amtS day (σ 84) (σ 85) (σ 86) c) σ) : CTI G d Y_X12_amountOn [.inr (.inr 72), .inl (nI c), .inl day] σ Φ := by
  obtain ⟨w, hw, hw2, hw3⟩ := num_of h1 h2
  refine m_amountOn (w := w) (by omega) hw (by omega) ?_
  unfold amtS at h
  rwa [hw, tin hw3, Int.toNat_natCast] at h
theorem cr_holderOn {G : zGT} {d : Nat} {Φ : Int32 → zMem → Prop} {σ : zMem} {day : Int32} {c : Nat} {hi : Int} (hR : Rdi (σ 72 8) hi (σ 11) (σ 12) (σ 13) (σ 89) (σ 88) (σ 87)) (hc : (c : Int) < (σ 72 8).toInt) (hn : (σ 72 8).toInt ≤ 24) (h : Φ (hldS day (σ 87) (σ 88) (σ 89) c) σ) : CTI G (d + 1) Y_X1_holderOn [.inr (.inr 1), .inl (nI c), .inl day] σ Φ := by
  obtain ⟨w, h1, h2, h3, h4, h5⟩ := hR.get hc
  refine c_holderOn (w := w + 1) (by omega) h3 (by omega) ?_
  have e : σ 12 (9 * c) = σ 88 (9 * c) := by
    obtain ⟨-, q2, -, q4⟩ := hR.1 c hc
    exact (q4 0 (by omega)).2.1
  rw [h5 _ _ _ (by omega), e]
  unfold hldS at h
  rwa [h4] at h
theorem mr_holderOn {G : zGT} {d : Nat} {Φ : Int32 → zMem → Prop} {σ : zMem} {day : Int32} {c : Nat} (hc : (c : Int) < (σ 72 8).toInt) (hn : (σ 72 8).toInt ≤ 24) (h1 : 0 ≤ (σ 87 c).toInt) (h2 : (σ 87 c).toInt ≤ 8) (h : Φ (hldS day (σ 87) (σ 88) (σ 89) c) σ) : CTI G d Y_X12_holderOn [.inr (.inr 72), .inl (nI c), .inl day] σ Φ := by
  obtain ⟨w, hw, hw2, hw3⟩ := num_of h1 h2
  refine m_holderOn (w := w) (by omega) hw (by omega) ?_
  unfold hldS at h
  rwa [hw, tin hw3, Int.toNat_natCast] at h
def valS (rec : Int32) (aw av ad mds : Nat → Int32) (c : Nat) : Int32 := if mds c = -1 then amtS rec aw av ad c else mds c
theorem cr_valueOf {G : zGT} {d : Nat} {Φ : Int32 → zMem → Prop} {σ : zMem} {c : Nat} (h : Rall σ) (hc : (c : Int) < (σ 72 8).toInt) (hp : Φ (valS (σ 72 22) (σ 84) (σ 85) (σ 86) (σ 81) c) σ) : CTI G (d + 2) Y_X2_valueOf [.inr (.inr 55), .inl (nI c)] σ Φ := by
  have hh := h
  obtain ⟨⟨k1, k2, k3, k4, k5, k6, k7, k8, k9⟩, kas, kcl, kda, kdh, kpl, kkp, ksh, kwt, ktp, klw, ksd, kw0, kw1⟩ := h
  obtain ⟨e1, b1, u1⟩ := id k1
  obtain ⟨e2, b2, u2⟩ := id k2
  obtain ⟨e3, b3, u3⟩ := id k3
  obtain ⟨e4, b4, u4⟩ := id k4
  obtain ⟨e5, b5, u5⟩ := id k5
  obtain ⟨e6, b6, u6⟩ := id k6
  obtain ⟨e7, b7, u7⟩ := id k7
  obtain ⟨e8, b8, u8⟩ := id k8
  obtain ⟨e9, b9, u9⟩ := id k9
  refine en_X2_valueOf ?_
  rw [cln (by omega), e5]
  refine ⟨vin (by omega), ?_⟩
  obtain ⟨q1, q2, q3, q4, q5, q6, q7, q8, q9, q10, q11, q12⟩ := kcl.1 c hc
  unfold valS at hp
  rw [q4]
  by_cases g : σ 81 c = -1
  · rw [if_pos g] at hp
    rw [if_pos (by rw [g]; exact enc_m1)]
    exact cr_amountOn kda hc u3 hp
  · rw [if_neg g] at hp
    rw [enc_nn (by rw [fa_eq, tim1] at g; omega), if_neg (by rw [fa_eq, show (-1000000005 : Int32).toInt = -1000000005 from rfl]; omega)]
    exact hp
theorem mr_valueOf {G : zGT} {d : Nat} {Φ : Int32 → zMem → Prop} {σ : zMem} {c : Nat} (hc : (c : Int) < (σ 72 8).toInt) (hn : (σ 72 8).toInt ≤ 24) (h1 : 0 ≤ (σ 84 c).toInt) (h2 : (σ 84 c).toInt ≤ 8) (h3 : -1 ≤ (σ 81 c).toInt) (hp : Φ (valS (σ 72 22) (σ 84) (σ 85) (σ 86) (σ 81) c) σ) : CTI G (d + 1) Y_X12_valueOf [.inr (.inr 72), .inl (nI c)] σ Φ := by
  refine en_X12_valueOf ?_
  rw [cln (by omega)]
  refine ⟨vin (by omega), ?_⟩
  unfold valS at hp
  by_cases g : σ 81 c = -1
  · rw [if_pos g] at hp
    rw [if_neg (by rw [g]; decide)]
    exact mr_amountOn hc hn h1 h2 hp
  · rw [if_neg g] at hp
    rw [if_pos (by rw [fa_le, ti0]; rw [fa_eq, tim1] at g; omega)]
    exact ⟨vin (by omega), hp⟩


theorem P_known {G : zGT} {d : Nat} {v1 v2 : Int32} : Pair G (d + 6) Y_X11_known Y_X12_known [.inl v1, .inl v2] := by
  intro σ h
  have hh := h
  obtain ⟨⟨k1, k2, k3, k4, k5, k6, k7, k8, k9⟩, kas, kcl, kda, kdh, kpl, kkp, ksh, kwt, ktp, klw, ksd, kw0, kw1⟩ := h
  obtain ⟨e1, b1, u1⟩ := id k1
  obtain ⟨e2, b2, u2⟩ := id k2
  obtain ⟨e3, b3, u3⟩ := id k3
  obtain ⟨e4, b4, u4⟩ := id k4
  obtain ⟨e5, b5, u5⟩ := id k5
  obtain ⟨e6, b6, u6⟩ := id k6
  obtain ⟨e7, b7, u7⟩ := id k7
  obtain ⟨e8, b8, u8⟩ := id k8
  obtain ⟨e9, b9, u9⟩ := id k9
  have f1 : (σ 0 15).toInt = (σ 72 1).toInt := by rw [e1]
  have f2 : (σ 14 5).toInt = (σ 72 2).toInt := by rw [e2]
  have f3 : (σ 1 6).toInt = (σ 72 8).toInt := by rw [e3]
  have f4 : (σ 0 16).toInt = (σ 72 0).toInt := by rw [e4]
  have f5 : (σ 55 7).toInt = (σ 72 22).toInt := by rw [e5]
  have f6 : (σ 14 6).toInt = (σ 72 23).toInt := by rw [e6]
  have f7 : (σ 0 17).toInt = (σ 72 24).toInt := by rw [e7]
  have f8 : (σ 0 13).toInt = (σ 72 25).toInt := by rw [e8]
  have f9 : (σ 46 1).toInt = (σ 72 28).toInt := by rw [e9]
  have l0 := ti0
  have l1 := ti1
  have l2 := ti2
  have l3 := ti3
  have l4 := ti4
  have l5 := ti5
  have l6 := ti6
  have l8 := ti8
  have l9 := ti9
  have l10 := ti10
  have l16 := ti16
  have l20 := ti20
  have l24 := ti24
  have l31 := ti31
  have l60 := ti60
  have l96 := ti96
  have l100 := ti100
  have l200 := ti200
  have l400 := ti400
  have l600 := ti600
  have l1200 := ti1200
  have l100000 := ti100000
  have lm1 := tim1
  have lB := tiB
  have lN := tiN
  rcases idx_of v1 (σ 72 8) with hb | ⟨c, rfl, hc, hc2⟩
  · refine en_X11_known ?_
    try simp only [zwr_rne, zwr_req, upd_ne, upd_eq, ne_eq, Nat.reduceEqDiff, not_false_eq_true]
    refine c_hasC (fun g1 g1' => ?_) (fun g1 => ?_)
    · try simp only [zwr_rne, zwr_req, upd_ne, upd_eq, ne_eq, Nat.reduceEqDiff, not_false_eq_true] at g1
      try simp only [zwr_rne, zwr_req, upd_ne, upd_eq, ne_eq, Nat.reduceEqDiff, not_false_eq_true] at g1'
      try omega
      all_goals
       try simp only [one_ne, zero_eq, if_false, if_true, or_true, true_or, or_false, false_or]
       refine c_isWithin (fun g2 g2' => ?_) (fun g2 => ?_)
       · try simp only [zwr_rne, zwr_req, upd_ne, upd_eq, ne_eq, Nat.reduceEqDiff, not_false_eq_true] at g2
         try simp only [zwr_rne, zwr_req, upd_ne, upd_eq, ne_eq, Nat.reduceEqDiff, not_false_eq_true] at g2'
         try omega
         all_goals
          try simp only [one_ne, zero_eq, if_false, if_true, or_true, true_or, or_false, false_or]
          refine cr_amountOn kda hc u3 ?_
          try simp only [zwr_rne, zwr_req, upd_ne, upd_eq, ne_eq, Nat.reduceEqDiff, not_false_eq_true]
          refine en_X12_known ?_
          try simp only [zwr_rne, zwr_req, upd_ne, upd_eq, ne_eq, Nat.reduceEqDiff, not_false_eq_true]
          refine m_isClaim (by first | omega | (simp only [zwr_rne, zwr_req, upd_ne, upd_eq, ne_eq, Nat.reduceEqDiff, not_false_eq_true]; omega)) (fun g3 g3' => ?_) (fun g3 => ?_)
          · try simp only [zwr_rne, zwr_req, upd_ne, upd_eq, ne_eq, Nat.reduceEqDiff, not_false_eq_true] at g3
            try simp only [zwr_rne, zwr_req, upd_ne, upd_eq, ne_eq, Nat.reduceEqDiff, not_false_eq_true] at g3'
            try omega
            all_goals
             try simp only [one_ne, zero_eq, if_false, if_true, or_true, true_or, or_false, false_or]
             try simp only [zwr_rne, zwr_req, upd_ne, upd_eq, ne_eq, Nat.reduceEqDiff, not_false_eq_true]
             refine m_isPast (fun g4 g4' => ?_) (fun g4 => ?_)
             · try simp only [zwr_rne, zwr_req, upd_ne, upd_eq, ne_eq, Nat.reduceEqDiff, not_false_eq_true] at g4
               try simp only [zwr_rne, zwr_req, upd_ne, upd_eq, ne_eq, Nat.reduceEqDiff, not_false_eq_true] at g4'
               try omega
               all_goals
                try simp only [one_ne, zero_eq, if_false, if_true, or_true, true_or, or_false, false_or]
                try simp only [zwr_rne, zwr_req, upd_ne, upd_eq, ne_eq, Nat.reduceEqDiff, not_false_eq_true]
                refine mr_amountOn hc u3 a2 a3 ?_
                try simp only [zwr_rne, zwr_req, upd_ne, upd_eq, ne_eq, Nat.reduceEqDiff, not_false_eq_true]
                exact ⟨by first | rfl | trivial, hh⟩
             · exfalso; (try simp only [zwr_rne, zwr_req, upd_ne, upd_eq, ne_eq, Nat.reduceEqDiff, not_false_eq_true] at g4); omega
          · exfalso; (try simp only [zwr_rne, zwr_req, upd_ne, upd_eq, ne_eq, Nat.reduceEqDiff, not_false_eq_true] at g3); omega
       · try simp only [zwr_rne, zwr_req, upd_ne, upd_eq, ne_eq, Nat.reduceEqDiff, not_false_eq_true] at g2
         try omega
         all_goals
          try simp only [one_ne, zero_eq, if_false, if_true, or_true, true_or, or_false, false_or]
          refine en_X12_known ?_
          try simp only [zwr_rne, zwr_req, upd_ne, upd_eq, ne_eq, Nat.reduceEqDiff, not_false_eq_true]
          refine m_isClaim (by first | omega | (simp only [zwr_rne, zwr_req, upd_ne, upd_eq, ne_eq, Nat.reduceEqDiff, not_false_eq_true]; omega)) (fun g5 g5' => ?_) (fun g5 => ?_)
          · try simp only [zwr_rne, zwr_req, upd_ne, upd_eq, ne_eq, Nat.reduceEqDiff, not_false_eq_true] at g5
            try simp only [zwr_rne, zwr_req, upd_ne, upd_eq, ne_eq, Nat.reduceEqDiff, not_false_eq_true] at g5'
            try omega
            all_goals
             try simp only [one_ne, zero_eq, if_false, if_true, or_true, true_or, or_false, false_or]
             try simp only [zwr_rne, zwr_req, upd_ne, upd_eq, ne_eq, Nat.reduceEqDiff, not_false_eq_true]
             refine m_isPast (fun g6 g6' => ?_) (fun g6 => ?_)
             · exfalso; (try simp only [zwr_rne, zwr_req, upd_ne, upd_eq, ne_eq, Nat.reduceEqDiff, not_false_eq_true] at g6); (try simp only [zwr_rne, zwr_req, upd_ne, upd_eq, ne_eq, Nat.reduceEqDiff, not_false_eq_true] at g6'); omega
             · try simp only [zwr_rne, zwr_req, upd_ne, upd_eq, ne_eq, Nat.reduceEqDiff, not_false_eq_true] at g6
               try omega
               all_goals
                try simp only [one_ne, zero_eq, if_false, if_true, or_true, true_or, or_false, false_or]
                try simp only [zwr_rne, zwr_req, upd_ne, upd_eq, ne_eq, Nat.reduceEqDiff, not_false_eq_true]
                exact ⟨by first | rfl | trivial, hh⟩
          · exfalso; (try simp only [zwr_rne, zwr_req, upd_ne, upd_eq, ne_eq, Nat.reduceEqDiff, not_false_eq_true] at g5); omega
    · try simp only [zwr_rne, zwr_req, upd_ne, upd_eq, ne_eq, Nat.reduceEqDiff, not_false_eq_true] at g1
      try omega
      all_goals
       try simp only [one_ne, zero_eq, if_false, if_true, or_true, true_or, or_false, false_or]
       refine en_X12_known ?_
       try simp only [zwr_rne, zwr_req, upd_ne, upd_eq, ne_eq, Nat.reduceEqDiff, not_false_eq_true]
       refine m_isClaim (by first | omega | (simp only [zwr_rne, zwr_req, upd_ne, upd_eq, ne_eq, Nat.reduceEqDiff, not_false_eq_true]; omega)) (fun g7 g7' => ?_) (fun g7 => ?_)
       · exfalso; (try simp only [zwr_rne, zwr_req, upd_ne, upd_eq, ne_eq, Nat.reduceEqDiff, not_false_eq_true] at g7); (try simp only [zwr_rne, zwr_req, upd_ne, upd_eq, ne_eq, Nat.reduceEqDiff, not_false_eq_true] at g7'); omega
       · try simp only [zwr_rne, zwr_req, upd_ne, upd_eq, ne_eq, Nat.reduceEqDiff, not_false_eq_true] at g7
         try omega
         all_goals
          try simp only [one_ne, zero_eq, if_false, if_true, or_true, true_or, or_false, false_or]
          try simp only [zwr_rne, zwr_req, upd_ne, upd_eq, ne_eq, Nat.reduceEqDiff, not_false_eq_true]
          exact ⟨by first | rfl | trivial, hh⟩
  · have tc := tin hc2
    have cc : (nI c).toNatClampNeg = c := cln hc2
    have vc : vp_in (nI c) 24 := vin (by omega)
    obtain ⟨a1, a2, a3, a4⟩ := kda.1 c hc
    obtain ⟨h1, h2, h3, h4⟩ := kdh.1 c hc
    obtain ⟨q1, q2, q3, q4, q5, q6, q7, q8, q9, q10, q11, q12⟩ := kcl.1 c hc
    obtain ⟨p1, p2, p3, p4, p5, p6⟩ := kpl.1 c hc
    refine en_X11_known ?_
    try simp only [zwr_rne, zwr_req, upd_ne, upd_eq, ne_eq, Nat.reduceEqDiff, not_false_eq_true, cc]
    refine c_hasC (fun g1 g1' => ?_) (fun g1 => ?_)
    · try simp only [zwr_rne, zwr_req, upd_ne, upd_eq, ne_eq, Nat.reduceEqDiff, not_false_eq_true, cc] at g1
      try simp only [zwr_rne, zwr_req, upd_ne, upd_eq, ne_eq, Nat.reduceEqDiff, not_false_eq_true, cc] at g1'
      try omega
      all_goals
       try simp only [one_ne, zero_eq, if_false, if_true, or_true, true_or, or_false, false_or]
       refine c_isWithin (fun g2 g2' => ?_) (fun g2 => ?_)
       · try simp only [zwr_rne, zwr_req, upd_ne, upd_eq, ne_eq, Nat.reduceEqDiff, not_false_eq_true, cc] at g2
         try simp only [zwr_rne, zwr_req, upd_ne, upd_eq, ne_eq, Nat.reduceEqDiff, not_false_eq_true, cc] at g2'
         try omega
         all_goals
          try simp only [one_ne, zero_eq, if_false, if_true, or_true, true_or, or_false, false_or]
          refine cr_amountOn kda hc u3 ?_
          try simp only [zwr_rne, zwr_req, upd_ne, upd_eq, ne_eq, Nat.reduceEqDiff, not_false_eq_true, cc]
          refine en_X12_known ?_
          try simp only [zwr_rne, zwr_req, upd_ne, upd_eq, ne_eq, Nat.reduceEqDiff, not_false_eq_true, cc]
          refine m_isClaim (by first | omega | (simp only [zwr_rne, zwr_req, upd_ne, upd_eq, ne_eq, Nat.reduceEqDiff, not_false_eq_true, cc]; omega)) (fun g3 g3' => ?_) (fun g3 => ?_)
          · try simp only [zwr_rne, zwr_req, upd_ne, upd_eq, ne_eq, Nat.reduceEqDiff, not_false_eq_true, cc] at g3
            try simp only [zwr_rne, zwr_req, upd_ne, upd_eq, ne_eq, Nat.reduceEqDiff, not_false_eq_true, cc] at g3'
            try omega
            all_goals
             try simp only [one_ne, zero_eq, if_false, if_true, or_true, true_or, or_false, false_or]
             try simp only [zwr_rne, zwr_req, upd_ne, upd_eq, ne_eq, Nat.reduceEqDiff, not_false_eq_true, cc]
             refine m_isPast (fun g4 g4' => ?_) (fun g4 => ?_)
             · try simp only [zwr_rne, zwr_req, upd_ne, upd_eq, ne_eq, Nat.reduceEqDiff, not_false_eq_true, cc] at g4
               try simp only [zwr_rne, zwr_req, upd_ne, upd_eq, ne_eq, Nat.reduceEqDiff, not_false_eq_true, cc] at g4'
               try omega
               all_goals
                try simp only [one_ne, zero_eq, if_false, if_true, or_true, true_or, or_false, false_or]
                try simp only [zwr_rne, zwr_req, upd_ne, upd_eq, ne_eq, Nat.reduceEqDiff, not_false_eq_true, cc]
                refine mr_amountOn hc u3 a2 a3 ?_
                try simp only [zwr_rne, zwr_req, upd_ne, upd_eq, ne_eq, Nat.reduceEqDiff, not_false_eq_true, cc]
                exact ⟨by first | rfl | trivial, hh⟩
             · exfalso; (try simp only [zwr_rne, zwr_req, upd_ne, upd_eq, ne_eq, Nat.reduceEqDiff, not_false_eq_true, cc] at g4); omega
          · exfalso; (try simp only [zwr_rne, zwr_req, upd_ne, upd_eq, ne_eq, Nat.reduceEqDiff, not_false_eq_true, cc] at g3); omega
       · try simp only [zwr_rne, zwr_req, upd_ne, upd_eq, ne_eq, Nat.reduceEqDiff, not_false_eq_true, cc] at g2
         try omega
         all_goals
          try simp only [one_ne, zero_eq, if_false, if_true, or_true, true_or, or_false, false_or]
          refine en_X12_known ?_
          try simp only [zwr_rne, zwr_req, upd_ne, upd_eq, ne_eq, Nat.reduceEqDiff, not_false_eq_true, cc]
          refine m_isClaim (by first | omega | (simp only [zwr_rne, zwr_req, upd_ne, upd_eq, ne_eq, Nat.reduceEqDiff, not_false_eq_true, cc]; omega)) (fun g5 g5' => ?_) (fun g5 => ?_)
          · try simp only [zwr_rne, zwr_req, upd_ne, upd_eq, ne_eq, Nat.reduceEqDiff, not_false_eq_true, cc] at g5
            try simp only [zwr_rne, zwr_req, upd_ne, upd_eq, ne_eq, Nat.reduceEqDiff, not_false_eq_true, cc] at g5'
            try omega
            all_goals
             try simp only [one_ne, zero_eq, if_false, if_true, or_true, true_or, or_false, false_or]
             try simp only [zwr_rne, zwr_req, upd_ne, upd_eq, ne_eq, Nat.reduceEqDiff, not_false_eq_true, cc]
             refine m_isPast (fun g6 g6' => ?_) (fun g6 => ?_)
             · exfalso; (try simp only [zwr_rne, zwr_req, upd_ne, upd_eq, ne_eq, Nat.reduceEqDiff, not_false_eq_true, cc] at g6); (try simp only [zwr_rne, zwr_req, upd_ne, upd_eq, ne_eq, Nat.reduceEqDiff, not_false_eq_true, cc] at g6'); omega
             · try simp only [zwr_rne, zwr_req, upd_ne, upd_eq, ne_eq, Nat.reduceEqDiff, not_false_eq_true, cc] at g6
               try omega
               all_goals
                try simp only [one_ne, zero_eq, if_false, if_true, or_true, true_or, or_false, false_or]
                try simp only [zwr_rne, zwr_req, upd_ne, upd_eq, ne_eq, Nat.reduceEqDiff, not_false_eq_true, cc]
                exact ⟨by first | rfl | trivial, hh⟩
          · exfalso; (try simp only [zwr_rne, zwr_req, upd_ne, upd_eq, ne_eq, Nat.reduceEqDiff, not_false_eq_true, cc] at g5); omega
    · try simp only [zwr_rne, zwr_req, upd_ne, upd_eq, ne_eq, Nat.reduceEqDiff, not_false_eq_true, cc] at g1
      try omega
      all_goals
       try simp only [one_ne, zero_eq, if_false, if_true, or_true, true_or, or_false, false_or]
       refine en_X12_known ?_
       try simp only [zwr_rne, zwr_req, upd_ne, upd_eq, ne_eq, Nat.reduceEqDiff, not_false_eq_true, cc]
       refine m_isClaim (by first | omega | (simp only [zwr_rne, zwr_req, upd_ne, upd_eq, ne_eq, Nat.reduceEqDiff, not_false_eq_true, cc]; omega)) (fun g7 g7' => ?_) (fun g7 => ?_)
       · exfalso; (try simp only [zwr_rne, zwr_req, upd_ne, upd_eq, ne_eq, Nat.reduceEqDiff, not_false_eq_true, cc] at g7); (try simp only [zwr_rne, zwr_req, upd_ne, upd_eq, ne_eq, Nat.reduceEqDiff, not_false_eq_true, cc] at g7'); omega
       · try simp only [zwr_rne, zwr_req, upd_ne, upd_eq, ne_eq, Nat.reduceEqDiff, not_false_eq_true, cc] at g7
         try omega
         all_goals
          try simp only [one_ne, zero_eq, if_false, if_true, or_true, true_or, or_false, false_or]
          try simp only [zwr_rne, zwr_req, upd_ne, upd_eq, ne_eq, Nat.reduceEqDiff, not_false_eq_true, cc]
          exact ⟨by first | rfl | trivial, hh⟩

theorem P_holder {G : zGT} {d : Nat} {v1 v2 : Int32} : Pair G (d + 6) Y_X11_holder Y_X12_holder [.inl v1, .inl v2] := by
  intro σ h
  have hh := h
  obtain ⟨⟨k1, k2, k3, k4, k5, k6, k7, k8, k9⟩, kas, kcl, kda, kdh, kpl, kkp, ksh, kwt, ktp, klw, ksd, kw0, kw1⟩ := h
  obtain ⟨e1, b1, u1⟩ := id k1
  obtain ⟨e2, b2, u2⟩ := id k2
  obtain ⟨e3, b3, u3⟩ := id k3
  obtain ⟨e4, b4, u4⟩ := id k4
  obtain ⟨e5, b5, u5⟩ := id k5
  obtain ⟨e6, b6, u6⟩ := id k6
  obtain ⟨e7, b7, u7⟩ := id k7
  obtain ⟨e8, b8, u8⟩ := id k8
  obtain ⟨e9, b9, u9⟩ := id k9
  have f1 : (σ 0 15).toInt = (σ 72 1).toInt := by rw [e1]
  have f2 : (σ 14 5).toInt = (σ 72 2).toInt := by rw [e2]
  have f3 : (σ 1 6).toInt = (σ 72 8).toInt := by rw [e3]
  have f4 : (σ 0 16).toInt = (σ 72 0).toInt := by rw [e4]
  have f5 : (σ 55 7).toInt = (σ 72 22).toInt := by rw [e5]
  have f6 : (σ 14 6).toInt = (σ 72 23).toInt := by rw [e6]
  have f7 : (σ 0 17).toInt = (σ 72 24).toInt := by rw [e7]
  have f8 : (σ 0 13).toInt = (σ 72 25).toInt := by rw [e8]
  have f9 : (σ 46 1).toInt = (σ 72 28).toInt := by rw [e9]
  have l0 := ti0
  have l1 := ti1
  have l2 := ti2
  have l3 := ti3
  have l4 := ti4
  have l5 := ti5
  have l6 := ti6
  have l8 := ti8
  have l9 := ti9
  have l10 := ti10
  have l16 := ti16
  have l20 := ti20
  have l24 := ti24
  have l31 := ti31
  have l60 := ti60
  have l96 := ti96
  have l100 := ti100
  have l200 := ti200
  have l400 := ti400
  have l600 := ti600
  have l1200 := ti1200
  have l100000 := ti100000
  have lm1 := tim1
  have lB := tiB
  have lN := tiN
  rcases idx_of v1 (σ 72 8) with hb | ⟨c, rfl, hc, hc2⟩
  · refine en_X11_holder ?_
    try simp only [zwr_rne, zwr_req, upd_ne, upd_eq, ne_eq, Nat.reduceEqDiff, not_false_eq_true]
    refine c_hasC (fun g1 g1' => ?_) (fun g1 => ?_)
    · try simp only [zwr_rne, zwr_req, upd_ne, upd_eq, ne_eq, Nat.reduceEqDiff, not_false_eq_true] at g1
      try simp only [zwr_rne, zwr_req, upd_ne, upd_eq, ne_eq, Nat.reduceEqDiff, not_false_eq_true] at g1'
      try omega
      all_goals
       try simp only [one_ne, zero_eq, if_false, if_true, or_true, true_or, or_false, false_or]
       refine c_isWithin (fun g2 g2' => ?_) (fun g2 => ?_)
       · try simp only [zwr_rne, zwr_req, upd_ne, upd_eq, ne_eq, Nat.reduceEqDiff, not_false_eq_true] at g2
         try simp only [zwr_rne, zwr_req, upd_ne, upd_eq, ne_eq, Nat.reduceEqDiff, not_false_eq_true] at g2'
         try omega
         all_goals
          try simp only [one_ne, zero_eq, if_false, if_true, or_true, true_or, or_false, false_or]
          refine cr_holderOn kdh hc u3 ?_
          try simp only [zwr_rne, zwr_req, upd_ne, upd_eq, ne_eq, Nat.reduceEqDiff, not_false_eq_true]
          refine en_X12_holder ?_
          try simp only [zwr_rne, zwr_req, upd_ne, upd_eq, ne_eq, Nat.reduceEqDiff, not_false_eq_true]
          refine m_isClaim (by first | omega | (simp only [zwr_rne, zwr_req, upd_ne, upd_eq, ne_eq, Nat.reduceEqDiff, not_false_eq_true]; omega)) (fun g3 g3' => ?_) (fun g3 => ?_)
          · try simp only [zwr_rne, zwr_req, upd_ne, upd_eq, ne_eq, Nat.reduceEqDiff, not_false_eq_true] at g3
            try simp only [zwr_rne, zwr_req, upd_ne, upd_eq, ne_eq, Nat.reduceEqDiff, not_false_eq_true] at g3'
            try omega
            all_goals
             try simp only [one_ne, zero_eq, if_false, if_true, or_true, true_or, or_false, false_or]
             try simp only [zwr_rne, zwr_req, upd_ne, upd_eq, ne_eq, Nat.reduceEqDiff, not_false_eq_true]
             refine m_isPast (fun g4 g4' => ?_) (fun g4 => ?_)
             · try simp only [zwr_rne, zwr_req, upd_ne, upd_eq, ne_eq, Nat.reduceEqDiff, not_false_eq_true] at g4
               try simp only [zwr_rne, zwr_req, upd_ne, upd_eq, ne_eq, Nat.reduceEqDiff, not_false_eq_true] at g4'
               try omega
               all_goals
                try simp only [one_ne, zero_eq, if_false, if_true, or_true, true_or, or_false, false_or]
                try simp only [zwr_rne, zwr_req, upd_ne, upd_eq, ne_eq, Nat.reduceEqDiff, not_false_eq_true]
                refine mr_holderOn hc u3 h2 h3 ?_
                try simp only [zwr_rne, zwr_req, upd_ne, upd_eq, ne_eq, Nat.reduceEqDiff, not_false_eq_true]
                exact ⟨by first | rfl | trivial, hh⟩
             · exfalso; (try simp only [zwr_rne, zwr_req, upd_ne, upd_eq, ne_eq, Nat.reduceEqDiff, not_false_eq_true] at g4); omega
          · exfalso; (try simp only [zwr_rne, zwr_req, upd_ne, upd_eq, ne_eq, Nat.reduceEqDiff, not_false_eq_true] at g3); omega
       · try simp only [zwr_rne, zwr_req, upd_ne, upd_eq, ne_eq, Nat.reduceEqDiff, not_false_eq_true] at g2
         try omega
         all_goals
          try simp only [one_ne, zero_eq, if_false, if_true, or_true, true_or, or_false, false_or]
          refine en_X12_holder ?_
          try simp only [zwr_rne, zwr_req, upd_ne, upd_eq, ne_eq, Nat.reduceEqDiff, not_false_eq_true]
          refine m_isClaim (by first | omega | (simp only [zwr_rne, zwr_req, upd_ne, upd_eq, ne_eq, Nat.reduceEqDiff, not_false_eq_true]; omega)) (fun g5 g5' => ?_) (fun g5 => ?_)
          · try simp only [zwr_rne, zwr_req, upd_ne, upd_eq, ne_eq, Nat.reduceEqDiff, not_false_eq_true] at g5
            try simp only [zwr_rne, zwr_req, upd_ne, upd_eq, ne_eq, Nat.reduceEqDiff, not_false_eq_true] at g5'
            try omega
            all_goals
             try simp only [one_ne, zero_eq, if_false, if_true, or_true, true_or, or_false, false_or]
             try simp only [zwr_rne, zwr_req, upd_ne, upd_eq, ne_eq, Nat.reduceEqDiff, not_false_eq_true]
             refine m_isPast (fun g6 g6' => ?_) (fun g6 => ?_)
             · exfalso; (try simp only [zwr_rne, zwr_req, upd_ne, upd_eq, ne_eq, Nat.reduceEqDiff, not_false_eq_true] at g6); (try simp only [zwr_rne, zwr_req, upd_ne, upd_eq, ne_eq, Nat.reduceEqDiff, not_false_eq_true] at g6'); omega
             · try simp only [zwr_rne, zwr_req, upd_ne, upd_eq, ne_eq, Nat.reduceEqDiff, not_false_eq_true] at g6
               try omega
               all_goals
                try simp only [one_ne, zero_eq, if_false, if_true, or_true, true_or, or_false, false_or]
                try simp only [zwr_rne, zwr_req, upd_ne, upd_eq, ne_eq, Nat.reduceEqDiff, not_false_eq_true]
                exact ⟨by first | rfl | trivial, hh⟩
          · exfalso; (try simp only [zwr_rne, zwr_req, upd_ne, upd_eq, ne_eq, Nat.reduceEqDiff, not_false_eq_true] at g5); omega
    · try simp only [zwr_rne, zwr_req, upd_ne, upd_eq, ne_eq, Nat.reduceEqDiff, not_false_eq_true] at g1
      try omega
      all_goals
       try simp only [one_ne, zero_eq, if_false, if_true, or_true, true_or, or_false, false_or]
       refine en_X12_holder ?_
       try simp only [zwr_rne, zwr_req, upd_ne, upd_eq, ne_eq, Nat.reduceEqDiff, not_false_eq_true]
       refine m_isClaim (by first | omega | (simp only [zwr_rne, zwr_req, upd_ne, upd_eq, ne_eq, Nat.reduceEqDiff, not_false_eq_true]; omega)) (fun g7 g7' => ?_) (fun g7 => ?_)
       · exfalso; (try simp only [zwr_rne, zwr_req, upd_ne, upd_eq, ne_eq, Nat.reduceEqDiff, not_false_eq_true] at g7); (try simp only [zwr_rne, zwr_req, upd_ne, upd_eq, ne_eq, Nat.reduceEqDiff, not_false_eq_true] at g7'); omega
       · try simp only [zwr_rne, zwr_req, upd_ne, upd_eq, ne_eq, Nat.reduceEqDiff, not_false_eq_true] at g7
         try omega
         all_goals
          try simp only [one_ne, zero_eq, if_false, if_true, or_true, true_or, or_false, false_or]
          try simp only [zwr_rne, zwr_req, upd_ne, upd_eq, ne_eq, Nat.reduceEqDiff, not_false_eq_true]
          exact ⟨by first | rfl | trivial, hh⟩
  · have tc := tin hc2
    have cc : (nI c).toNatClampNeg = c := cln hc2
    have vc : vp_in (nI c) 24 := vin (by omega)
    obtain ⟨a1, a2, a3, a4⟩ := kda.1 c hc
    obtain ⟨h1, h2, h3, h4⟩ := kdh.1 c hc
    obtain ⟨q1, q2, q3, q4, q5, q6, q7, q8, q9, q10, q11, q12⟩ := kcl.1 c hc
    obtain ⟨p1, p2, p3, p4, p5, p6⟩ := kpl.1 c hc
    refine en_X11_holder ?_
    try simp only [zwr_rne, zwr_req, upd_ne, upd_eq, ne_eq, Nat.reduceEqDiff, not_false_eq_true, cc]
    refine c_hasC (fun g1 g1' => ?_) (fun g1 => ?_)
    · try simp only [zwr_rne, zwr_req, upd_ne, upd_eq, ne_eq, Nat.reduceEqDiff, not_false_eq_true, cc] at g1
      try simp only [zwr_rne, zwr_req, upd_ne, upd_eq, ne_eq, Nat.reduceEqDiff, not_false_eq_true, cc] at g1'
      try omega
      all_goals
       try simp only [one_ne, zero_eq, if_false, if_true, or_true, true_or, or_false, false_or]
       refine c_isWithin (fun g2 g2' => ?_) (fun g2 => ?_)
       · try simp only [zwr_rne, zwr_req, upd_ne, upd_eq, ne_eq, Nat.reduceEqDiff, not_false_eq_true, cc] at g2
         try simp only [zwr_rne, zwr_req, upd_ne, upd_eq, ne_eq, Nat.reduceEqDiff, not_false_eq_true, cc] at g2'
         try omega
         all_goals
          try simp only [one_ne, zero_eq, if_false, if_true, or_true, true_or, or_false, false_or]
          refine cr_holderOn kdh hc u3 ?_
          try simp only [zwr_rne, zwr_req, upd_ne, upd_eq, ne_eq, Nat.reduceEqDiff, not_false_eq_true, cc]
          refine en_X12_holder ?_
          try simp only [zwr_rne, zwr_req, upd_ne, upd_eq, ne_eq, Nat.reduceEqDiff, not_false_eq_true, cc]
          refine m_isClaim (by first | omega | (simp only [zwr_rne, zwr_req, upd_ne, upd_eq, ne_eq, Nat.reduceEqDiff, not_false_eq_true, cc]; omega)) (fun g3 g3' => ?_) (fun g3 => ?_)
          · try simp only [zwr_rne, zwr_req, upd_ne, upd_eq, ne_eq, Nat.reduceEqDiff, not_false_eq_true, cc] at g3
            try simp only [zwr_rne, zwr_req, upd_ne, upd_eq, ne_eq, Nat.reduceEqDiff, not_false_eq_true, cc] at g3'
            try omega
            all_goals
             try simp only [one_ne, zero_eq, if_false, if_true, or_true, true_or, or_false, false_or]
             try simp only [zwr_rne, zwr_req, upd_ne, upd_eq, ne_eq, Nat.reduceEqDiff, not_false_eq_true, cc]
             refine m_isPast (fun g4 g4' => ?_) (fun g4 => ?_)
             · try simp only [zwr_rne, zwr_req, upd_ne, upd_eq, ne_eq, Nat.reduceEqDiff, not_false_eq_true, cc] at g4
               try simp only [zwr_rne, zwr_req, upd_ne, upd_eq, ne_eq, Nat.reduceEqDiff, not_false_eq_true, cc] at g4'
               try omega
               all_goals
                try simp only [one_ne, zero_eq, if_false, if_true, or_true, true_or, or_false, false_or]
                try simp only [zwr_rne, zwr_req, upd_ne, upd_eq, ne_eq, Nat.reduceEqDiff, not_false_eq_true, cc]
                refine mr_holderOn hc u3 h2 h3 ?_
                try simp only [zwr_rne, zwr_req, upd_ne, upd_eq, ne_eq, Nat.reduceEqDiff, not_false_eq_true, cc]
                exact ⟨by first | rfl | trivial, hh⟩
             · exfalso; (try simp only [zwr_rne, zwr_req, upd_ne, upd_eq, ne_eq, Nat.reduceEqDiff, not_false_eq_true, cc] at g4); omega
          · exfalso; (try simp only [zwr_rne, zwr_req, upd_ne, upd_eq, ne_eq, Nat.reduceEqDiff, not_false_eq_true, cc] at g3); omega
       · try simp only [zwr_rne, zwr_req, upd_ne, upd_eq, ne_eq, Nat.reduceEqDiff, not_false_eq_true, cc] at g2
         try omega
         all_goals
          try simp only [one_ne, zero_eq, if_false, if_true, or_true, true_or, or_false, false_or]
          refine en_X12_holder ?_
          try simp only [zwr_rne, zwr_req, upd_ne, upd_eq, ne_eq, Nat.reduceEqDiff, not_false_eq_true, cc]
          refine m_isClaim (by first | omega | (simp only [zwr_rne, zwr_req, upd_ne, upd_eq, ne_eq, Nat.reduceEqDiff, not_false_eq_true, cc]; omega)) (fun g5 g5' => ?_) (fun g5 => ?_)
          · try simp only [zwr_rne, zwr_req, upd_ne, upd_eq, ne_eq, Nat.reduceEqDiff, not_false_eq_true, cc] at g5
            try simp only [zwr_rne, zwr_req, upd_ne, upd_eq, ne_eq, Nat.reduceEqDiff, not_false_eq_true, cc] at g5'
            try omega
            all_goals
             try simp only [one_ne, zero_eq, if_false, if_true, or_true, true_or, or_false, false_or]
             try simp only [zwr_rne, zwr_req, upd_ne, upd_eq, ne_eq, Nat.reduceEqDiff, not_false_eq_true, cc]
             refine m_isPast (fun g6 g6' => ?_) (fun g6 => ?_)
             · exfalso; (try simp only [zwr_rne, zwr_req, upd_ne, upd_eq, ne_eq, Nat.reduceEqDiff, not_false_eq_true, cc] at g6); (try simp only [zwr_rne, zwr_req, upd_ne, upd_eq, ne_eq, Nat.reduceEqDiff, not_false_eq_true, cc] at g6'); omega
             · try simp only [zwr_rne, zwr_req, upd_ne, upd_eq, ne_eq, Nat.reduceEqDiff, not_false_eq_true, cc] at g6
               try omega
               all_goals
                try simp only [one_ne, zero_eq, if_false, if_true, or_true, true_or, or_false, false_or]
                try simp only [zwr_rne, zwr_req, upd_ne, upd_eq, ne_eq, Nat.reduceEqDiff, not_false_eq_true, cc]
                exact ⟨by first | rfl | trivial, hh⟩
          · exfalso; (try simp only [zwr_rne, zwr_req, upd_ne, upd_eq, ne_eq, Nat.reduceEqDiff, not_false_eq_true, cc] at g5); omega
    · try simp only [zwr_rne, zwr_req, upd_ne, upd_eq, ne_eq, Nat.reduceEqDiff, not_false_eq_true, cc] at g1
      try omega
      all_goals
       try simp only [one_ne, zero_eq, if_false, if_true, or_true, true_or, or_false, false_or]
       refine en_X12_holder ?_
       try simp only [zwr_rne, zwr_req, upd_ne, upd_eq, ne_eq, Nat.reduceEqDiff, not_false_eq_true, cc]
       refine m_isClaim (by first | omega | (simp only [zwr_rne, zwr_req, upd_ne, upd_eq, ne_eq, Nat.reduceEqDiff, not_false_eq_true, cc]; omega)) (fun g7 g7' => ?_) (fun g7 => ?_)
       · exfalso; (try simp only [zwr_rne, zwr_req, upd_ne, upd_eq, ne_eq, Nat.reduceEqDiff, not_false_eq_true, cc] at g7); (try simp only [zwr_rne, zwr_req, upd_ne, upd_eq, ne_eq, Nat.reduceEqDiff, not_false_eq_true, cc] at g7'); omega
       · try simp only [zwr_rne, zwr_req, upd_ne, upd_eq, ne_eq, Nat.reduceEqDiff, not_false_eq_true, cc] at g7
         try omega
         all_goals
          try simp only [one_ne, zero_eq, if_false, if_true, or_true, true_or, or_false, false_or]
          try simp only [zwr_rne, zwr_req, upd_ne, upd_eq, ne_eq, Nat.reduceEqDiff, not_false_eq_true, cc]
          exact ⟨by first | rfl | trivial, hh⟩

theorem P_told {G : zGT} {d : Nat} {v1 v2 : Int32} : Pair G (d + 6) Y_X11_told Y_X12_told [.inl v1, .inl v2] := by
  intro σ h
  have hh := h
  obtain ⟨⟨k1, k2, k3, k4, k5, k6, k7, k8, k9⟩, kas, kcl, kda, kdh, kpl, kkp, ksh, kwt, ktp, klw, ksd, kw0, kw1⟩ := h
  obtain ⟨e1, b1, u1⟩ := id k1
  obtain ⟨e2, b2, u2⟩ := id k2
  obtain ⟨e3, b3, u3⟩ := id k3
  obtain ⟨e4, b4, u4⟩ := id k4
  obtain ⟨e5, b5, u5⟩ := id k5
  obtain ⟨e6, b6, u6⟩ := id k6
  obtain ⟨e7, b7, u7⟩ := id k7
  obtain ⟨e8, b8, u8⟩ := id k8
  obtain ⟨e9, b9, u9⟩ := id k9
  have f1 : (σ 0 15).toInt = (σ 72 1).toInt := by rw [e1]
  have f2 : (σ 14 5).toInt = (σ 72 2).toInt := by rw [e2]
  have f3 : (σ 1 6).toInt = (σ 72 8).toInt := by rw [e3]
  have f4 : (σ 0 16).toInt = (σ 72 0).toInt := by rw [e4]
  have f5 : (σ 55 7).toInt = (σ 72 22).toInt := by rw [e5]
  have f6 : (σ 14 6).toInt = (σ 72 23).toInt := by rw [e6]
  have f7 : (σ 0 17).toInt = (σ 72 24).toInt := by rw [e7]
  have f8 : (σ 0 13).toInt = (σ 72 25).toInt := by rw [e8]
  have f9 : (σ 46 1).toInt = (σ 72 28).toInt := by rw [e9]
  have l0 := ti0
  have l1 := ti1
  have l2 := ti2
  have l3 := ti3
  have l4 := ti4
  have l5 := ti5
  have l6 := ti6
  have l8 := ti8
  have l9 := ti9
  have l10 := ti10
  have l16 := ti16
  have l20 := ti20
  have l24 := ti24
  have l31 := ti31
  have l60 := ti60
  have l96 := ti96
  have l100 := ti100
  have l200 := ti200
  have l400 := ti400
  have l600 := ti600
  have l1200 := ti1200
  have l100000 := ti100000
  have lm1 := tim1
  have lB := tiB
  have lN := tiN
  rcases idx_of v1 (σ 72 8) with hb | ⟨c, rfl, hc, hc2⟩
  · refine en_X11_told ?_
    try simp only [zwr_rne, zwr_req, upd_ne, upd_eq, ne_eq, Nat.reduceEqDiff, not_false_eq_true]
    refine c_hasC (fun g1 g1' => ?_) (fun g1 => ?_)
    · try simp only [zwr_rne, zwr_req, upd_ne, upd_eq, ne_eq, Nat.reduceEqDiff, not_false_eq_true] at g1
      try simp only [zwr_rne, zwr_req, upd_ne, upd_eq, ne_eq, Nat.reduceEqDiff, not_false_eq_true] at g1'
      try omega
      all_goals
       try simp only [one_ne, zero_eq, if_false, if_true, or_true, true_or, or_false, false_or]
       refine zeq (fun g2 => ?_) (fun g2 => ?_)
       · try simp only [zwr_rne, zwr_req, upd_ne, upd_eq, ne_eq, Nat.reduceEqDiff, not_false_eq_true] at g2
         try omega
         all_goals
          refine ⟨by first | assumption | exact vin (by omega) | exact vp_in_I.mpr (by omega), ?_⟩
          refine en_X12_told ?_
          try simp only [zwr_rne, zwr_req, upd_ne, upd_eq, ne_eq, Nat.reduceEqDiff, not_false_eq_true]
          refine m_isClaim (by first | omega | (simp only [zwr_rne, zwr_req, upd_ne, upd_eq, ne_eq, Nat.reduceEqDiff, not_false_eq_true]; omega)) (fun g3 g3' => ?_) (fun g3 => ?_)
          · try simp only [zwr_rne, zwr_req, upd_ne, upd_eq, ne_eq, Nat.reduceEqDiff, not_false_eq_true] at g3
            try simp only [zwr_rne, zwr_req, upd_ne, upd_eq, ne_eq, Nat.reduceEqDiff, not_false_eq_true] at g3'
            try omega
            all_goals
             try simp only [one_ne, zero_eq, if_false, if_true, or_true, true_or, or_false, false_or]
             try simp only [zwr_rne, zwr_req, upd_ne, upd_eq, ne_eq, Nat.reduceEqDiff, not_false_eq_true]
             refine zeq (fun g4 => ?_) (fun g4 => ?_)
             · try simp only [zwr_rne, zwr_req, upd_ne, upd_eq, ne_eq, Nat.reduceEqDiff, not_false_eq_true] at g4
               try omega
               all_goals
                try simp only [zwr_rne, zwr_req, upd_ne, upd_eq, ne_eq, Nat.reduceEqDiff, not_false_eq_true]
                refine ⟨by first | assumption | exact vin (by omega) | exact vp_in_I.mpr (by omega), ?_⟩
                exact ⟨by first | rfl | trivial, hh⟩
             · exfalso; (try simp only [zwr_rne, zwr_req, upd_ne, upd_eq, ne_eq, Nat.reduceEqDiff, not_false_eq_true] at g4); omega
          · exfalso; (try simp only [zwr_rne, zwr_req, upd_ne, upd_eq, ne_eq, Nat.reduceEqDiff, not_false_eq_true] at g3); omega
       · try simp only [zwr_rne, zwr_req, upd_ne, upd_eq, ne_eq, Nat.reduceEqDiff, not_false_eq_true] at g2
         try omega
         all_goals
          refine zeq (fun g5 => ?_) (fun g5 => ?_)
          · try simp only [zwr_rne, zwr_req, upd_ne, upd_eq, ne_eq, Nat.reduceEqDiff, not_false_eq_true] at g5
            try omega
            all_goals
             refine ⟨by first | assumption | exact vin (by omega) | exact vp_in_I.mpr (by omega), ?_⟩
             refine en_X12_told ?_
             try simp only [zwr_rne, zwr_req, upd_ne, upd_eq, ne_eq, Nat.reduceEqDiff, not_false_eq_true]
             refine m_isClaim (by first | omega | (simp only [zwr_rne, zwr_req, upd_ne, upd_eq, ne_eq, Nat.reduceEqDiff, not_false_eq_true]; omega)) (fun g6 g6' => ?_) (fun g6 => ?_)
             · try simp only [zwr_rne, zwr_req, upd_ne, upd_eq, ne_eq, Nat.reduceEqDiff, not_false_eq_true] at g6
               try simp only [zwr_rne, zwr_req, upd_ne, upd_eq, ne_eq, Nat.reduceEqDiff, not_false_eq_true] at g6'
               try omega
               all_goals
                try simp only [one_ne, zero_eq, if_false, if_true, or_true, true_or, or_false, false_or]
                try simp only [zwr_rne, zwr_req, upd_ne, upd_eq, ne_eq, Nat.reduceEqDiff, not_false_eq_true]
                refine zeq (fun g7 => ?_) (fun g7 => ?_)
                · exfalso; (try simp only [zwr_rne, zwr_req, upd_ne, upd_eq, ne_eq, Nat.reduceEqDiff, not_false_eq_true] at g7); omega
                · try simp only [zwr_rne, zwr_req, upd_ne, upd_eq, ne_eq, Nat.reduceEqDiff, not_false_eq_true] at g7
                  try omega
                  all_goals
                   try simp only [zwr_rne, zwr_req, upd_ne, upd_eq, ne_eq, Nat.reduceEqDiff, not_false_eq_true]
                   refine zeq (fun g8 => ?_) (fun g8 => ?_)
                   · try simp only [zwr_rne, zwr_req, upd_ne, upd_eq, ne_eq, Nat.reduceEqDiff, not_false_eq_true] at g8
                     try omega
                     all_goals
                      try simp only [zwr_rne, zwr_req, upd_ne, upd_eq, ne_eq, Nat.reduceEqDiff, not_false_eq_true]
                      refine ⟨by first | assumption | exact vin (by omega) | exact vp_in_I.mpr (by omega), ?_⟩
                      exact ⟨by first | rfl | trivial, hh⟩
                   · exfalso; (try simp only [zwr_rne, zwr_req, upd_ne, upd_eq, ne_eq, Nat.reduceEqDiff, not_false_eq_true] at g8); omega
             · exfalso; (try simp only [zwr_rne, zwr_req, upd_ne, upd_eq, ne_eq, Nat.reduceEqDiff, not_false_eq_true] at g6); omega
          · try simp only [zwr_rne, zwr_req, upd_ne, upd_eq, ne_eq, Nat.reduceEqDiff, not_false_eq_true] at g5
            try omega
            all_goals
             refine zeq (fun g9 => ?_) (fun g9 => ?_)
             · try simp only [zwr_rne, zwr_req, upd_ne, upd_eq, ne_eq, Nat.reduceEqDiff, not_false_eq_true] at g9
               try omega
               all_goals
                refine ⟨by first | assumption | exact vin (by omega) | exact vp_in_I.mpr (by omega), ?_⟩
                refine en_X12_told ?_
                try simp only [zwr_rne, zwr_req, upd_ne, upd_eq, ne_eq, Nat.reduceEqDiff, not_false_eq_true]
                refine m_isClaim (by first | omega | (simp only [zwr_rne, zwr_req, upd_ne, upd_eq, ne_eq, Nat.reduceEqDiff, not_false_eq_true]; omega)) (fun g10 g10' => ?_) (fun g10 => ?_)
                · try simp only [zwr_rne, zwr_req, upd_ne, upd_eq, ne_eq, Nat.reduceEqDiff, not_false_eq_true] at g10
                  try simp only [zwr_rne, zwr_req, upd_ne, upd_eq, ne_eq, Nat.reduceEqDiff, not_false_eq_true] at g10'
                  try omega
                  all_goals
                   try simp only [one_ne, zero_eq, if_false, if_true, or_true, true_or, or_false, false_or]
                   try simp only [zwr_rne, zwr_req, upd_ne, upd_eq, ne_eq, Nat.reduceEqDiff, not_false_eq_true]
                   refine zeq (fun g11 => ?_) (fun g11 => ?_)
                   · exfalso; (try simp only [zwr_rne, zwr_req, upd_ne, upd_eq, ne_eq, Nat.reduceEqDiff, not_false_eq_true] at g11); omega
                   · try simp only [zwr_rne, zwr_req, upd_ne, upd_eq, ne_eq, Nat.reduceEqDiff, not_false_eq_true] at g11
                     try omega
                     all_goals
                      try simp only [zwr_rne, zwr_req, upd_ne, upd_eq, ne_eq, Nat.reduceEqDiff, not_false_eq_true]
                      refine zeq (fun g12 => ?_) (fun g12 => ?_)
                      · exfalso; (try simp only [zwr_rne, zwr_req, upd_ne, upd_eq, ne_eq, Nat.reduceEqDiff, not_false_eq_true] at g12); omega
                      · try simp only [zwr_rne, zwr_req, upd_ne, upd_eq, ne_eq, Nat.reduceEqDiff, not_false_eq_true] at g12
                        try omega
                        all_goals
                         try simp only [zwr_rne, zwr_req, upd_ne, upd_eq, ne_eq, Nat.reduceEqDiff, not_false_eq_true]
                         refine zeq (fun g13 => ?_) (fun g13 => ?_)
                         · try simp only [zwr_rne, zwr_req, upd_ne, upd_eq, ne_eq, Nat.reduceEqDiff, not_false_eq_true] at g13
                           try omega
                           all_goals
                            try simp only [zwr_rne, zwr_req, upd_ne, upd_eq, ne_eq, Nat.reduceEqDiff, not_false_eq_true]
                            refine ⟨by first | assumption | exact vin (by omega) | exact vp_in_I.mpr (by omega), ?_⟩
                            refine m_orNone p3 ?_
                            try simp only [zwr_rne, zwr_req, upd_ne, upd_eq, ne_eq, Nat.reduceEqDiff, not_false_eq_true]
                            exact ⟨by first | rfl | trivial, hh⟩
                         · exfalso; (try simp only [zwr_rne, zwr_req, upd_ne, upd_eq, ne_eq, Nat.reduceEqDiff, not_false_eq_true] at g13); omega
                · exfalso; (try simp only [zwr_rne, zwr_req, upd_ne, upd_eq, ne_eq, Nat.reduceEqDiff, not_false_eq_true] at g10); omega
             · try simp only [zwr_rne, zwr_req, upd_ne, upd_eq, ne_eq, Nat.reduceEqDiff, not_false_eq_true] at g9
               try omega
               all_goals
                refine zeq (fun g14 => ?_) (fun g14 => ?_)
                · try simp only [zwr_rne, zwr_req, upd_ne, upd_eq, ne_eq, Nat.reduceEqDiff, not_false_eq_true] at g14
                  try omega
                  all_goals
                   refine ⟨by first | assumption | exact vin (by omega) | exact vp_in_I.mpr (by omega), ?_⟩
                   refine en_X12_told ?_
                   try simp only [zwr_rne, zwr_req, upd_ne, upd_eq, ne_eq, Nat.reduceEqDiff, not_false_eq_true]
                   refine m_isClaim (by first | omega | (simp only [zwr_rne, zwr_req, upd_ne, upd_eq, ne_eq, Nat.reduceEqDiff, not_false_eq_true]; omega)) (fun g15 g15' => ?_) (fun g15 => ?_)
                   · try simp only [zwr_rne, zwr_req, upd_ne, upd_eq, ne_eq, Nat.reduceEqDiff, not_false_eq_true] at g15
                     try simp only [zwr_rne, zwr_req, upd_ne, upd_eq, ne_eq, Nat.reduceEqDiff, not_false_eq_true] at g15'
                     try omega
                     all_goals
                      try simp only [one_ne, zero_eq, if_false, if_true, or_true, true_or, or_false, false_or]
                      try simp only [zwr_rne, zwr_req, upd_ne, upd_eq, ne_eq, Nat.reduceEqDiff, not_false_eq_true]
                      refine zeq (fun g16 => ?_) (fun g16 => ?_)
                      · exfalso; (try simp only [zwr_rne, zwr_req, upd_ne, upd_eq, ne_eq, Nat.reduceEqDiff, not_false_eq_true] at g16); omega
                      · try simp only [zwr_rne, zwr_req, upd_ne, upd_eq, ne_eq, Nat.reduceEqDiff, not_false_eq_true] at g16
                        try omega
                        all_goals
                         try simp only [zwr_rne, zwr_req, upd_ne, upd_eq, ne_eq, Nat.reduceEqDiff, not_false_eq_true]
                         refine zeq (fun g17 => ?_) (fun g17 => ?_)
                         · exfalso; (try simp only [zwr_rne, zwr_req, upd_ne, upd_eq, ne_eq, Nat.reduceEqDiff, not_false_eq_true] at g17); omega
                         · try simp only [zwr_rne, zwr_req, upd_ne, upd_eq, ne_eq, Nat.reduceEqDiff, not_false_eq_true] at g17
                           try omega
                           all_goals
                            try simp only [zwr_rne, zwr_req, upd_ne, upd_eq, ne_eq, Nat.reduceEqDiff, not_false_eq_true]
                            refine zeq (fun g18 => ?_) (fun g18 => ?_)
                            · exfalso; (try simp only [zwr_rne, zwr_req, upd_ne, upd_eq, ne_eq, Nat.reduceEqDiff, not_false_eq_true] at g18); omega
                            · try simp only [zwr_rne, zwr_req, upd_ne, upd_eq, ne_eq, Nat.reduceEqDiff, not_false_eq_true] at g18
                              try omega
                              all_goals
                               try simp only [zwr_rne, zwr_req, upd_ne, upd_eq, ne_eq, Nat.reduceEqDiff, not_false_eq_true]
                               refine zeq (fun g19 => ?_) (fun g19 => ?_)
                               · try simp only [zwr_rne, zwr_req, upd_ne, upd_eq, ne_eq, Nat.reduceEqDiff, not_false_eq_true] at g19
                                 try omega
                                 all_goals
                                  try simp only [zwr_rne, zwr_req, upd_ne, upd_eq, ne_eq, Nat.reduceEqDiff, not_false_eq_true]
                                  refine ⟨by first | assumption | exact vin (by omega) | exact vp_in_I.mpr (by omega), ?_⟩
                                  exact ⟨by first | rfl | trivial, hh⟩
                               · exfalso; (try simp only [zwr_rne, zwr_req, upd_ne, upd_eq, ne_eq, Nat.reduceEqDiff, not_false_eq_true] at g19); omega
                   · exfalso; (try simp only [zwr_rne, zwr_req, upd_ne, upd_eq, ne_eq, Nat.reduceEqDiff, not_false_eq_true] at g15); omega
                · try simp only [zwr_rne, zwr_req, upd_ne, upd_eq, ne_eq, Nat.reduceEqDiff, not_false_eq_true] at g14
                  try omega
                  all_goals
                   refine zeq (fun g20 => ?_) (fun g20 => ?_)
                   · try simp only [zwr_rne, zwr_req, upd_ne, upd_eq, ne_eq, Nat.reduceEqDiff, not_false_eq_true] at g20
                     try omega
                     all_goals
                      refine cr_valueOf hh hc ?_
                      try simp only [zwr_rne, zwr_req, upd_ne, upd_eq, ne_eq, Nat.reduceEqDiff, not_false_eq_true]
                      refine en_X12_told ?_
                      try simp only [zwr_rne, zwr_req, upd_ne, upd_eq, ne_eq, Nat.reduceEqDiff, not_false_eq_true]
                      refine m_isClaim (by first | omega | (simp only [zwr_rne, zwr_req, upd_ne, upd_eq, ne_eq, Nat.reduceEqDiff, not_false_eq_true]; omega)) (fun g21 g21' => ?_) (fun g21 => ?_)
                      · try simp only [zwr_rne, zwr_req, upd_ne, upd_eq, ne_eq, Nat.reduceEqDiff, not_false_eq_true] at g21
                        try simp only [zwr_rne, zwr_req, upd_ne, upd_eq, ne_eq, Nat.reduceEqDiff, not_false_eq_true] at g21'
                        try omega
                        all_goals
                         try simp only [one_ne, zero_eq, if_false, if_true, or_true, true_or, or_false, false_or]
                         try simp only [zwr_rne, zwr_req, upd_ne, upd_eq, ne_eq, Nat.reduceEqDiff, not_false_eq_true]
                         refine zeq (fun g22 => ?_) (fun g22 => ?_)
                         · exfalso; (try simp only [zwr_rne, zwr_req, upd_ne, upd_eq, ne_eq, Nat.reduceEqDiff, not_false_eq_true] at g22); omega
                         · try simp only [zwr_rne, zwr_req, upd_ne, upd_eq, ne_eq, Nat.reduceEqDiff, not_false_eq_true] at g22
                           try omega
                           all_goals
                            try simp only [zwr_rne, zwr_req, upd_ne, upd_eq, ne_eq, Nat.reduceEqDiff, not_false_eq_true]
                            refine zeq (fun g23 => ?_) (fun g23 => ?_)
                            · exfalso; (try simp only [zwr_rne, zwr_req, upd_ne, upd_eq, ne_eq, Nat.reduceEqDiff, not_false_eq_true] at g23); omega
                            · try simp only [zwr_rne, zwr_req, upd_ne, upd_eq, ne_eq, Nat.reduceEqDiff, not_false_eq_true] at g23
                              try omega
                              all_goals
                               try simp only [zwr_rne, zwr_req, upd_ne, upd_eq, ne_eq, Nat.reduceEqDiff, not_false_eq_true]
                               refine zeq (fun g24 => ?_) (fun g24 => ?_)
                               · exfalso; (try simp only [zwr_rne, zwr_req, upd_ne, upd_eq, ne_eq, Nat.reduceEqDiff, not_false_eq_true] at g24); omega
                               · try simp only [zwr_rne, zwr_req, upd_ne, upd_eq, ne_eq, Nat.reduceEqDiff, not_false_eq_true] at g24
                                 try omega
                                 all_goals
                                  try simp only [zwr_rne, zwr_req, upd_ne, upd_eq, ne_eq, Nat.reduceEqDiff, not_false_eq_true]
                                  refine zeq (fun g25 => ?_) (fun g25 => ?_)
                                  · exfalso; (try simp only [zwr_rne, zwr_req, upd_ne, upd_eq, ne_eq, Nat.reduceEqDiff, not_false_eq_true] at g25); omega
                                  · try simp only [zwr_rne, zwr_req, upd_ne, upd_eq, ne_eq, Nat.reduceEqDiff, not_false_eq_true] at g25
                                    try omega
                                    all_goals
                                     try simp only [zwr_rne, zwr_req, upd_ne, upd_eq, ne_eq, Nat.reduceEqDiff, not_false_eq_true]
                                     refine zeq (fun g26 => ?_) (fun g26 => ?_)
                                     · try simp only [zwr_rne, zwr_req, upd_ne, upd_eq, ne_eq, Nat.reduceEqDiff, not_false_eq_true] at g26
                                       try omega
                                       all_goals
                                        try simp only [zwr_rne, zwr_req, upd_ne, upd_eq, ne_eq, Nat.reduceEqDiff, not_false_eq_true]
                                        refine mr_valueOf hc u3 a2 a3 q11 ?_
                                        try simp only [zwr_rne, zwr_req, upd_ne, upd_eq, ne_eq, Nat.reduceEqDiff, not_false_eq_true]
                                        exact ⟨by first | rfl | trivial, hh⟩
                                     · exfalso; (try simp only [zwr_rne, zwr_req, upd_ne, upd_eq, ne_eq, Nat.reduceEqDiff, not_false_eq_true] at g26); omega
                      · exfalso; (try simp only [zwr_rne, zwr_req, upd_ne, upd_eq, ne_eq, Nat.reduceEqDiff, not_false_eq_true] at g21); omega
                   · try simp only [zwr_rne, zwr_req, upd_ne, upd_eq, ne_eq, Nat.reduceEqDiff, not_false_eq_true] at g20
                     try omega
                     all_goals
                      refine zeq (fun g27 => ?_) (fun g27 => ?_)
                      · try simp only [zwr_rne, zwr_req, upd_ne, upd_eq, ne_eq, Nat.reduceEqDiff, not_false_eq_true] at g27
                        try omega
                        all_goals
                         refine ⟨by first | assumption | exact vin (by omega) | exact vp_in_I.mpr (by omega), ?_⟩
                         refine en_X12_told ?_
                         try simp only [zwr_rne, zwr_req, upd_ne, upd_eq, ne_eq, Nat.reduceEqDiff, not_false_eq_true]
                         refine m_isClaim (by first | omega | (simp only [zwr_rne, zwr_req, upd_ne, upd_eq, ne_eq, Nat.reduceEqDiff, not_false_eq_true]; omega)) (fun g28 g28' => ?_) (fun g28 => ?_)
                         · try simp only [zwr_rne, zwr_req, upd_ne, upd_eq, ne_eq, Nat.reduceEqDiff, not_false_eq_true] at g28
                           try simp only [zwr_rne, zwr_req, upd_ne, upd_eq, ne_eq, Nat.reduceEqDiff, not_false_eq_true] at g28'
                           try omega
                           all_goals
                            try simp only [one_ne, zero_eq, if_false, if_true, or_true, true_or, or_false, false_or]
                            try simp only [zwr_rne, zwr_req, upd_ne, upd_eq, ne_eq, Nat.reduceEqDiff, not_false_eq_true]
                            refine zeq (fun g29 => ?_) (fun g29 => ?_)
                            · exfalso; (try simp only [zwr_rne, zwr_req, upd_ne, upd_eq, ne_eq, Nat.reduceEqDiff, not_false_eq_true] at g29); omega
                            · try simp only [zwr_rne, zwr_req, upd_ne, upd_eq, ne_eq, Nat.reduceEqDiff, not_false_eq_true] at g29
                              try omega
                              all_goals
                               try simp only [zwr_rne, zwr_req, upd_ne, upd_eq, ne_eq, Nat.reduceEqDiff, not_false_eq_true]
                               refine zeq (fun g30 => ?_) (fun g30 => ?_)
                               · exfalso; (try simp only [zwr_rne, zwr_req, upd_ne, upd_eq, ne_eq, Nat.reduceEqDiff, not_false_eq_true] at g30); omega
                               · try simp only [zwr_rne, zwr_req, upd_ne, upd_eq, ne_eq, Nat.reduceEqDiff, not_false_eq_true] at g30
                                 try omega
                                 all_goals
                                  try simp only [zwr_rne, zwr_req, upd_ne, upd_eq, ne_eq, Nat.reduceEqDiff, not_false_eq_true]
                                  refine zeq (fun g31 => ?_) (fun g31 => ?_)
                                  · exfalso; (try simp only [zwr_rne, zwr_req, upd_ne, upd_eq, ne_eq, Nat.reduceEqDiff, not_false_eq_true] at g31); omega
                                  · try simp only [zwr_rne, zwr_req, upd_ne, upd_eq, ne_eq, Nat.reduceEqDiff, not_false_eq_true] at g31
                                    try omega
                                    all_goals
                                     try simp only [zwr_rne, zwr_req, upd_ne, upd_eq, ne_eq, Nat.reduceEqDiff, not_false_eq_true]
                                     refine zeq (fun g32 => ?_) (fun g32 => ?_)
                                     · exfalso; (try simp only [zwr_rne, zwr_req, upd_ne, upd_eq, ne_eq, Nat.reduceEqDiff, not_false_eq_true] at g32); omega
                                     · try simp only [zwr_rne, zwr_req, upd_ne, upd_eq, ne_eq, Nat.reduceEqDiff, not_false_eq_true] at g32
                                       try omega
                                       all_goals
                                        try simp only [zwr_rne, zwr_req, upd_ne, upd_eq, ne_eq, Nat.reduceEqDiff, not_false_eq_true]
                                        refine zeq (fun g33 => ?_) (fun g33 => ?_)
                                        · exfalso; (try simp only [zwr_rne, zwr_req, upd_ne, upd_eq, ne_eq, Nat.reduceEqDiff, not_false_eq_true] at g33); omega
                                        · try simp only [zwr_rne, zwr_req, upd_ne, upd_eq, ne_eq, Nat.reduceEqDiff, not_false_eq_true] at g33
                                          try omega
                                          all_goals
                                           try simp only [zwr_rne, zwr_req, upd_ne, upd_eq, ne_eq, Nat.reduceEqDiff, not_false_eq_true]
                                           refine zeq (fun g34 => ?_) (fun g34 => ?_)
                                           · try simp only [zwr_rne, zwr_req, upd_ne, upd_eq, ne_eq, Nat.reduceEqDiff, not_false_eq_true] at g34
                                             try omega
                                             all_goals
                                              try simp only [zwr_rne, zwr_req, upd_ne, upd_eq, ne_eq, Nat.reduceEqDiff, not_false_eq_true]
                                              refine ⟨by first | assumption | exact vin (by omega) | exact vp_in_I.mpr (by omega), ?_⟩
                                              exact ⟨by first | rfl | trivial, hh⟩
                                           · exfalso; (try simp only [zwr_rne, zwr_req, upd_ne, upd_eq, ne_eq, Nat.reduceEqDiff, not_false_eq_true] at g34); omega
                         · exfalso; (try simp only [zwr_rne, zwr_req, upd_ne, upd_eq, ne_eq, Nat.reduceEqDiff, not_false_eq_true] at g28); omega
                      · try simp only [zwr_rne, zwr_req, upd_ne, upd_eq, ne_eq, Nat.reduceEqDiff, not_false_eq_true] at g27
                        try omega
                        all_goals
                         refine en_X12_told ?_
                         try simp only [zwr_rne, zwr_req, upd_ne, upd_eq, ne_eq, Nat.reduceEqDiff, not_false_eq_true]
                         refine m_isClaim (by first | omega | (simp only [zwr_rne, zwr_req, upd_ne, upd_eq, ne_eq, Nat.reduceEqDiff, not_false_eq_true]; omega)) (fun g35 g35' => ?_) (fun g35 => ?_)
                         · try simp only [zwr_rne, zwr_req, upd_ne, upd_eq, ne_eq, Nat.reduceEqDiff, not_false_eq_true] at g35
                           try simp only [zwr_rne, zwr_req, upd_ne, upd_eq, ne_eq, Nat.reduceEqDiff, not_false_eq_true] at g35'
                           try omega
                           all_goals
                            try simp only [one_ne, zero_eq, if_false, if_true, or_true, true_or, or_false, false_or]
                            try simp only [zwr_rne, zwr_req, upd_ne, upd_eq, ne_eq, Nat.reduceEqDiff, not_false_eq_true]
                            refine zeq (fun g36 => ?_) (fun g36 => ?_)
                            · exfalso; (try simp only [zwr_rne, zwr_req, upd_ne, upd_eq, ne_eq, Nat.reduceEqDiff, not_false_eq_true] at g36); omega
                            · try simp only [zwr_rne, zwr_req, upd_ne, upd_eq, ne_eq, Nat.reduceEqDiff, not_false_eq_true] at g36
                              try omega
                              all_goals
                               try simp only [zwr_rne, zwr_req, upd_ne, upd_eq, ne_eq, Nat.reduceEqDiff, not_false_eq_true]
                               refine zeq (fun g37 => ?_) (fun g37 => ?_)
                               · exfalso; (try simp only [zwr_rne, zwr_req, upd_ne, upd_eq, ne_eq, Nat.reduceEqDiff, not_false_eq_true] at g37); omega
                               · try simp only [zwr_rne, zwr_req, upd_ne, upd_eq, ne_eq, Nat.reduceEqDiff, not_false_eq_true] at g37
                                 try omega
                                 all_goals
                                  try simp only [zwr_rne, zwr_req, upd_ne, upd_eq, ne_eq, Nat.reduceEqDiff, not_false_eq_true]
                                  refine zeq (fun g38 => ?_) (fun g38 => ?_)
                                  · exfalso; (try simp only [zwr_rne, zwr_req, upd_ne, upd_eq, ne_eq, Nat.reduceEqDiff, not_false_eq_true] at g38); omega
                                  · try simp only [zwr_rne, zwr_req, upd_ne, upd_eq, ne_eq, Nat.reduceEqDiff, not_false_eq_true] at g38
                                    try omega
                                    all_goals
                                     try simp only [zwr_rne, zwr_req, upd_ne, upd_eq, ne_eq, Nat.reduceEqDiff, not_false_eq_true]
                                     refine zeq (fun g39 => ?_) (fun g39 => ?_)
                                     · exfalso; (try simp only [zwr_rne, zwr_req, upd_ne, upd_eq, ne_eq, Nat.reduceEqDiff, not_false_eq_true] at g39); omega
                                     · try simp only [zwr_rne, zwr_req, upd_ne, upd_eq, ne_eq, Nat.reduceEqDiff, not_false_eq_true] at g39
                                       try omega
                                       all_goals
                                        try simp only [zwr_rne, zwr_req, upd_ne, upd_eq, ne_eq, Nat.reduceEqDiff, not_false_eq_true]
                                        refine zeq (fun g40 => ?_) (fun g40 => ?_)
                                        · exfalso; (try simp only [zwr_rne, zwr_req, upd_ne, upd_eq, ne_eq, Nat.reduceEqDiff, not_false_eq_true] at g40); omega
                                        · try simp only [zwr_rne, zwr_req, upd_ne, upd_eq, ne_eq, Nat.reduceEqDiff, not_false_eq_true] at g40
                                          try omega
                                          all_goals
                                           try simp only [zwr_rne, zwr_req, upd_ne, upd_eq, ne_eq, Nat.reduceEqDiff, not_false_eq_true]
                                           refine zeq (fun g41 => ?_) (fun g41 => ?_)
                                           · exfalso; (try simp only [zwr_rne, zwr_req, upd_ne, upd_eq, ne_eq, Nat.reduceEqDiff, not_false_eq_true] at g41); omega
                                           · try simp only [zwr_rne, zwr_req, upd_ne, upd_eq, ne_eq, Nat.reduceEqDiff, not_false_eq_true] at g41
                                             try omega
                                             all_goals
                                              try simp only [zwr_rne, zwr_req, upd_ne, upd_eq, ne_eq, Nat.reduceEqDiff, not_false_eq_true]
                                              exact ⟨by first | rfl | trivial, hh⟩
                         · exfalso; (try simp only [zwr_rne, zwr_req, upd_ne, upd_eq, ne_eq, Nat.reduceEqDiff, not_false_eq_true] at g35); omega
    · try simp only [zwr_rne, zwr_req, upd_ne, upd_eq, ne_eq, Nat.reduceEqDiff, not_false_eq_true] at g1
      try omega
      all_goals
       try simp only [one_ne, zero_eq, if_false, if_true, or_true, true_or, or_false, false_or]
       refine en_X12_told ?_
       try simp only [zwr_rne, zwr_req, upd_ne, upd_eq, ne_eq, Nat.reduceEqDiff, not_false_eq_true]
       refine m_isClaim (by first | omega | (simp only [zwr_rne, zwr_req, upd_ne, upd_eq, ne_eq, Nat.reduceEqDiff, not_false_eq_true]; omega)) (fun g42 g42' => ?_) (fun g42 => ?_)
       · exfalso; (try simp only [zwr_rne, zwr_req, upd_ne, upd_eq, ne_eq, Nat.reduceEqDiff, not_false_eq_true] at g42); (try simp only [zwr_rne, zwr_req, upd_ne, upd_eq, ne_eq, Nat.reduceEqDiff, not_false_eq_true] at g42'); omega
       · try simp only [zwr_rne, zwr_req, upd_ne, upd_eq, ne_eq, Nat.reduceEqDiff, not_false_eq_true] at g42
         try omega
         all_goals
          try simp only [one_ne, zero_eq, if_false, if_true, or_true, true_or, or_false, false_or]
          try simp only [zwr_rne, zwr_req, upd_ne, upd_eq, ne_eq, Nat.reduceEqDiff, not_false_eq_true]
          exact ⟨by first | rfl | trivial, hh⟩
  · have tc := tin hc2
    have cc : (nI c).toNatClampNeg = c := cln hc2
    have vc : vp_in (nI c) 24 := vin (by omega)
    obtain ⟨a1, a2, a3, a4⟩ := kda.1 c hc
    obtain ⟨h1, h2, h3, h4⟩ := kdh.1 c hc
    obtain ⟨q1, q2, q3, q4, q5, q6, q7, q8, q9, q10, q11, q12⟩ := kcl.1 c hc
    obtain ⟨p1, p2, p3, p4, p5, p6⟩ := kpl.1 c hc
    refine en_X11_told ?_
    try simp only [zwr_rne, zwr_req, upd_ne, upd_eq, ne_eq, Nat.reduceEqDiff, not_false_eq_true, cc]
    refine c_hasC (fun g1 g1' => ?_) (fun g1 => ?_)
    · try simp only [zwr_rne, zwr_req, upd_ne, upd_eq, ne_eq, Nat.reduceEqDiff, not_false_eq_true, cc] at g1
      try simp only [zwr_rne, zwr_req, upd_ne, upd_eq, ne_eq, Nat.reduceEqDiff, not_false_eq_true, cc] at g1'
      try omega
      all_goals
       try simp only [one_ne, zero_eq, if_false, if_true, or_true, true_or, or_false, false_or]
       refine zeq (fun g2 => ?_) (fun g2 => ?_)
       · try simp only [zwr_rne, zwr_req, upd_ne, upd_eq, ne_eq, Nat.reduceEqDiff, not_false_eq_true, cc] at g2
         try omega
         all_goals
          refine ⟨by first | assumption | exact vin (by omega) | exact vp_in_I.mpr (by omega), ?_⟩
          refine en_X12_told ?_
          try simp only [zwr_rne, zwr_req, upd_ne, upd_eq, ne_eq, Nat.reduceEqDiff, not_false_eq_true, cc]
          refine m_isClaim (by first | omega | (simp only [zwr_rne, zwr_req, upd_ne, upd_eq, ne_eq, Nat.reduceEqDiff, not_false_eq_true, cc]; omega)) (fun g3 g3' => ?_) (fun g3 => ?_)
          · try simp only [zwr_rne, zwr_req, upd_ne, upd_eq, ne_eq, Nat.reduceEqDiff, not_false_eq_true, cc] at g3
            try simp only [zwr_rne, zwr_req, upd_ne, upd_eq, ne_eq, Nat.reduceEqDiff, not_false_eq_true, cc] at g3'
            try omega
            all_goals
             try simp only [one_ne, zero_eq, if_false, if_true, or_true, true_or, or_false, false_or]
             try simp only [zwr_rne, zwr_req, upd_ne, upd_eq, ne_eq, Nat.reduceEqDiff, not_false_eq_true, cc]
             refine zeq (fun g4 => ?_) (fun g4 => ?_)
             · try simp only [zwr_rne, zwr_req, upd_ne, upd_eq, ne_eq, Nat.reduceEqDiff, not_false_eq_true, cc] at g4
               try omega
               all_goals
                try simp only [zwr_rne, zwr_req, upd_ne, upd_eq, ne_eq, Nat.reduceEqDiff, not_false_eq_true, cc]
                refine ⟨by first | assumption | exact vin (by omega) | exact vp_in_I.mpr (by omega), ?_⟩
                first | exact ⟨by first | rfl | trivial, hh⟩ | exact ⟨q1, hh⟩ | exact ⟨q2, hh⟩ | exact ⟨p1, hh⟩ | exact ⟨p2, hh⟩ | exact ⟨q3, hh⟩
             · exfalso; (try simp only [zwr_rne, zwr_req, upd_ne, upd_eq, ne_eq, Nat.reduceEqDiff, not_false_eq_true, cc] at g4); omega
          · exfalso; (try simp only [zwr_rne, zwr_req, upd_ne, upd_eq, ne_eq, Nat.reduceEqDiff, not_false_eq_true, cc] at g3); omega
       · try simp only [zwr_rne, zwr_req, upd_ne, upd_eq, ne_eq, Nat.reduceEqDiff, not_false_eq_true, cc] at g2
         try omega
         all_goals
          refine zeq (fun g5 => ?_) (fun g5 => ?_)
          · try simp only [zwr_rne, zwr_req, upd_ne, upd_eq, ne_eq, Nat.reduceEqDiff, not_false_eq_true, cc] at g5
            try omega
            all_goals
             refine ⟨by first | assumption | exact vin (by omega) | exact vp_in_I.mpr (by omega), ?_⟩
             refine en_X12_told ?_
             try simp only [zwr_rne, zwr_req, upd_ne, upd_eq, ne_eq, Nat.reduceEqDiff, not_false_eq_true, cc]
             refine m_isClaim (by first | omega | (simp only [zwr_rne, zwr_req, upd_ne, upd_eq, ne_eq, Nat.reduceEqDiff, not_false_eq_true, cc]; omega)) (fun g6 g6' => ?_) (fun g6 => ?_)
             · try simp only [zwr_rne, zwr_req, upd_ne, upd_eq, ne_eq, Nat.reduceEqDiff, not_false_eq_true, cc] at g6
               try simp only [zwr_rne, zwr_req, upd_ne, upd_eq, ne_eq, Nat.reduceEqDiff, not_false_eq_true, cc] at g6'
               try omega
               all_goals
                try simp only [one_ne, zero_eq, if_false, if_true, or_true, true_or, or_false, false_or]
                try simp only [zwr_rne, zwr_req, upd_ne, upd_eq, ne_eq, Nat.reduceEqDiff, not_false_eq_true, cc]
                refine zeq (fun g7 => ?_) (fun g7 => ?_)
                · exfalso; (try simp only [zwr_rne, zwr_req, upd_ne, upd_eq, ne_eq, Nat.reduceEqDiff, not_false_eq_true, cc] at g7); omega
                · try simp only [zwr_rne, zwr_req, upd_ne, upd_eq, ne_eq, Nat.reduceEqDiff, not_false_eq_true, cc] at g7
                  try omega
                  all_goals
                   try simp only [zwr_rne, zwr_req, upd_ne, upd_eq, ne_eq, Nat.reduceEqDiff, not_false_eq_true, cc]
                   refine zeq (fun g8 => ?_) (fun g8 => ?_)
                   · try simp only [zwr_rne, zwr_req, upd_ne, upd_eq, ne_eq, Nat.reduceEqDiff, not_false_eq_true, cc] at g8
                     try omega
                     all_goals
                      try simp only [zwr_rne, zwr_req, upd_ne, upd_eq, ne_eq, Nat.reduceEqDiff, not_false_eq_true, cc]
                      refine ⟨by first | assumption | exact vin (by omega) | exact vp_in_I.mpr (by omega), ?_⟩
                      first | exact ⟨by first | rfl | trivial, hh⟩ | exact ⟨q1, hh⟩ | exact ⟨q2, hh⟩ | exact ⟨p1, hh⟩ | exact ⟨p2, hh⟩ | exact ⟨q3, hh⟩
                   · exfalso; (try simp only [zwr_rne, zwr_req, upd_ne, upd_eq, ne_eq, Nat.reduceEqDiff, not_false_eq_true, cc] at g8); omega
             · exfalso; (try simp only [zwr_rne, zwr_req, upd_ne, upd_eq, ne_eq, Nat.reduceEqDiff, not_false_eq_true, cc] at g6); omega
          · try simp only [zwr_rne, zwr_req, upd_ne, upd_eq, ne_eq, Nat.reduceEqDiff, not_false_eq_true, cc] at g5
            try omega
            all_goals
             refine zeq (fun g9 => ?_) (fun g9 => ?_)
             · try simp only [zwr_rne, zwr_req, upd_ne, upd_eq, ne_eq, Nat.reduceEqDiff, not_false_eq_true, cc] at g9
               try omega
               all_goals
                refine ⟨by first | assumption | exact vin (by omega) | exact vp_in_I.mpr (by omega), ?_⟩
                refine en_X12_told ?_
                try simp only [zwr_rne, zwr_req, upd_ne, upd_eq, ne_eq, Nat.reduceEqDiff, not_false_eq_true, cc]
                refine m_isClaim (by first | omega | (simp only [zwr_rne, zwr_req, upd_ne, upd_eq, ne_eq, Nat.reduceEqDiff, not_false_eq_true, cc]; omega)) (fun g10 g10' => ?_) (fun g10 => ?_)
                · try simp only [zwr_rne, zwr_req, upd_ne, upd_eq, ne_eq, Nat.reduceEqDiff, not_false_eq_true, cc] at g10
                  try simp only [zwr_rne, zwr_req, upd_ne, upd_eq, ne_eq, Nat.reduceEqDiff, not_false_eq_true, cc] at g10'
                  try omega
                  all_goals
                   try simp only [one_ne, zero_eq, if_false, if_true, or_true, true_or, or_false, false_or]
                   try simp only [zwr_rne, zwr_req, upd_ne, upd_eq, ne_eq, Nat.reduceEqDiff, not_false_eq_true, cc]
                   refine zeq (fun g11 => ?_) (fun g11 => ?_)
                   · exfalso; (try simp only [zwr_rne, zwr_req, upd_ne, upd_eq, ne_eq, Nat.reduceEqDiff, not_false_eq_true, cc] at g11); omega
                   · try simp only [zwr_rne, zwr_req, upd_ne, upd_eq, ne_eq, Nat.reduceEqDiff, not_false_eq_true, cc] at g11
                     try omega
                     all_goals
                      try simp only [zwr_rne, zwr_req, upd_ne, upd_eq, ne_eq, Nat.reduceEqDiff, not_false_eq_true, cc]
                      refine zeq (fun g12 => ?_) (fun g12 => ?_)
                      · exfalso; (try simp only [zwr_rne, zwr_req, upd_ne, upd_eq, ne_eq, Nat.reduceEqDiff, not_false_eq_true, cc] at g12); omega
                      · try simp only [zwr_rne, zwr_req, upd_ne, upd_eq, ne_eq, Nat.reduceEqDiff, not_false_eq_true, cc] at g12
                        try omega
                        all_goals
                         try simp only [zwr_rne, zwr_req, upd_ne, upd_eq, ne_eq, Nat.reduceEqDiff, not_false_eq_true, cc]
                         refine zeq (fun g13 => ?_) (fun g13 => ?_)
                         · try simp only [zwr_rne, zwr_req, upd_ne, upd_eq, ne_eq, Nat.reduceEqDiff, not_false_eq_true, cc] at g13
                           try omega
                           all_goals
                            try simp only [zwr_rne, zwr_req, upd_ne, upd_eq, ne_eq, Nat.reduceEqDiff, not_false_eq_true, cc]
                            refine ⟨by first | assumption | exact vin (by omega) | exact vp_in_I.mpr (by omega), ?_⟩
                            refine m_orNone p3 ?_
                            try simp only [zwr_rne, zwr_req, upd_ne, upd_eq, ne_eq, Nat.reduceEqDiff, not_false_eq_true, cc]
                            first | exact ⟨by first | rfl | trivial, hh⟩ | exact ⟨q1, hh⟩ | exact ⟨q2, hh⟩ | exact ⟨p1, hh⟩ | exact ⟨p2, hh⟩ | exact ⟨q3, hh⟩
                         · exfalso; (try simp only [zwr_rne, zwr_req, upd_ne, upd_eq, ne_eq, Nat.reduceEqDiff, not_false_eq_true, cc] at g13); omega
                · exfalso; (try simp only [zwr_rne, zwr_req, upd_ne, upd_eq, ne_eq, Nat.reduceEqDiff, not_false_eq_true, cc] at g10); omega
             · try simp only [zwr_rne, zwr_req, upd_ne, upd_eq, ne_eq, Nat.reduceEqDiff, not_false_eq_true, cc] at g9
               try omega
               all_goals
                refine zeq (fun g14 => ?_) (fun g14 => ?_)
                · try simp only [zwr_rne, zwr_req, upd_ne, upd_eq, ne_eq, Nat.reduceEqDiff, not_false_eq_true, cc] at g14
                  try omega
                  all_goals
                   refine ⟨by first | assumption | exact vin (by omega) | exact vp_in_I.mpr (by omega), ?_⟩
                   refine en_X12_told ?_
                   try simp only [zwr_rne, zwr_req, upd_ne, upd_eq, ne_eq, Nat.reduceEqDiff, not_false_eq_true, cc]
                   refine m_isClaim (by first | omega | (simp only [zwr_rne, zwr_req, upd_ne, upd_eq, ne_eq, Nat.reduceEqDiff, not_false_eq_true, cc]; omega)) (fun g15 g15' => ?_) (fun g15 => ?_)
                   · try simp only [zwr_rne, zwr_req, upd_ne, upd_eq, ne_eq, Nat.reduceEqDiff, not_false_eq_true, cc] at g15
                     try simp only [zwr_rne, zwr_req, upd_ne, upd_eq, ne_eq, Nat.reduceEqDiff, not_false_eq_true, cc] at g15'
                     try omega
                     all_goals
                      try simp only [one_ne, zero_eq, if_false, if_true, or_true, true_or, or_false, false_or]
                      try simp only [zwr_rne, zwr_req, upd_ne, upd_eq, ne_eq, Nat.reduceEqDiff, not_false_eq_true, cc]
                      refine zeq (fun g16 => ?_) (fun g16 => ?_)
                      · exfalso; (try simp only [zwr_rne, zwr_req, upd_ne, upd_eq, ne_eq, Nat.reduceEqDiff, not_false_eq_true, cc] at g16); omega
                      · try simp only [zwr_rne, zwr_req, upd_ne, upd_eq, ne_eq, Nat.reduceEqDiff, not_false_eq_true, cc] at g16
                        try omega
                        all_goals
                         try simp only [zwr_rne, zwr_req, upd_ne, upd_eq, ne_eq, Nat.reduceEqDiff, not_false_eq_true, cc]
                         refine zeq (fun g17 => ?_) (fun g17 => ?_)
                         · exfalso; (try simp only [zwr_rne, zwr_req, upd_ne, upd_eq, ne_eq, Nat.reduceEqDiff, not_false_eq_true, cc] at g17); omega
                         · try simp only [zwr_rne, zwr_req, upd_ne, upd_eq, ne_eq, Nat.reduceEqDiff, not_false_eq_true, cc] at g17
                           try omega
                           all_goals
                            try simp only [zwr_rne, zwr_req, upd_ne, upd_eq, ne_eq, Nat.reduceEqDiff, not_false_eq_true, cc]
                            refine zeq (fun g18 => ?_) (fun g18 => ?_)
                            · exfalso; (try simp only [zwr_rne, zwr_req, upd_ne, upd_eq, ne_eq, Nat.reduceEqDiff, not_false_eq_true, cc] at g18); omega
                            · try simp only [zwr_rne, zwr_req, upd_ne, upd_eq, ne_eq, Nat.reduceEqDiff, not_false_eq_true, cc] at g18
                              try omega
                              all_goals
                               try simp only [zwr_rne, zwr_req, upd_ne, upd_eq, ne_eq, Nat.reduceEqDiff, not_false_eq_true, cc]
                               refine zeq (fun g19 => ?_) (fun g19 => ?_)
                               · try simp only [zwr_rne, zwr_req, upd_ne, upd_eq, ne_eq, Nat.reduceEqDiff, not_false_eq_true, cc] at g19
                                 try omega
                                 all_goals
                                  try simp only [zwr_rne, zwr_req, upd_ne, upd_eq, ne_eq, Nat.reduceEqDiff, not_false_eq_true, cc]
                                  refine ⟨by first | assumption | exact vin (by omega) | exact vp_in_I.mpr (by omega), ?_⟩
                                  first | exact ⟨by first | rfl | trivial, hh⟩ | exact ⟨q1, hh⟩ | exact ⟨q2, hh⟩ | exact ⟨p1, hh⟩ | exact ⟨p2, hh⟩ | exact ⟨q3, hh⟩
                               · exfalso; (try simp only [zwr_rne, zwr_req, upd_ne, upd_eq, ne_eq, Nat.reduceEqDiff, not_false_eq_true, cc] at g19); omega
                   · exfalso; (try simp only [zwr_rne, zwr_req, upd_ne, upd_eq, ne_eq, Nat.reduceEqDiff, not_false_eq_true, cc] at g15); omega
                · try simp only [zwr_rne, zwr_req, upd_ne, upd_eq, ne_eq, Nat.reduceEqDiff, not_false_eq_true, cc] at g14
                  try omega
                  all_goals
                   refine zeq (fun g20 => ?_) (fun g20 => ?_)
                   · try simp only [zwr_rne, zwr_req, upd_ne, upd_eq, ne_eq, Nat.reduceEqDiff, not_false_eq_true, cc] at g20
                     try omega
                     all_goals
                      refine cr_valueOf hh hc ?_
                      try simp only [zwr_rne, zwr_req, upd_ne, upd_eq, ne_eq, Nat.reduceEqDiff, not_false_eq_true, cc]
                      refine en_X12_told ?_
                      try simp only [zwr_rne, zwr_req, upd_ne, upd_eq, ne_eq, Nat.reduceEqDiff, not_false_eq_true, cc]
                      refine m_isClaim (by first | omega | (simp only [zwr_rne, zwr_req, upd_ne, upd_eq, ne_eq, Nat.reduceEqDiff, not_false_eq_true, cc]; omega)) (fun g21 g21' => ?_) (fun g21 => ?_)
                      · try simp only [zwr_rne, zwr_req, upd_ne, upd_eq, ne_eq, Nat.reduceEqDiff, not_false_eq_true, cc] at g21
                        try simp only [zwr_rne, zwr_req, upd_ne, upd_eq, ne_eq, Nat.reduceEqDiff, not_false_eq_true, cc] at g21'
                        try omega
                        all_goals
                         try simp only [one_ne, zero_eq, if_false, if_true, or_true, true_or, or_false, false_or]
                         try simp only [zwr_rne, zwr_req, upd_ne, upd_eq, ne_eq, Nat.reduceEqDiff, not_false_eq_true, cc]
                         refine zeq (fun g22 => ?_) (fun g22 => ?_)
                         · exfalso; (try simp only [zwr_rne, zwr_req, upd_ne, upd_eq, ne_eq, Nat.reduceEqDiff, not_false_eq_true, cc] at g22); omega
                         · try simp only [zwr_rne, zwr_req, upd_ne, upd_eq, ne_eq, Nat.reduceEqDiff, not_false_eq_true, cc] at g22
                           try omega
                           all_goals
                            try simp only [zwr_rne, zwr_req, upd_ne, upd_eq, ne_eq, Nat.reduceEqDiff, not_false_eq_true, cc]
                            refine zeq (fun g23 => ?_) (fun g23 => ?_)
                            · exfalso; (try simp only [zwr_rne, zwr_req, upd_ne, upd_eq, ne_eq, Nat.reduceEqDiff, not_false_eq_true, cc] at g23); omega
                            · try simp only [zwr_rne, zwr_req, upd_ne, upd_eq, ne_eq, Nat.reduceEqDiff, not_false_eq_true, cc] at g23
                              try omega
                              all_goals
                               try simp only [zwr_rne, zwr_req, upd_ne, upd_eq, ne_eq, Nat.reduceEqDiff, not_false_eq_true, cc]
                               refine zeq (fun g24 => ?_) (fun g24 => ?_)
                               · exfalso; (try simp only [zwr_rne, zwr_req, upd_ne, upd_eq, ne_eq, Nat.reduceEqDiff, not_false_eq_true, cc] at g24); omega
                               · try simp only [zwr_rne, zwr_req, upd_ne, upd_eq, ne_eq, Nat.reduceEqDiff, not_false_eq_true, cc] at g24
                                 try omega
                                 all_goals
                                  try simp only [zwr_rne, zwr_req, upd_ne, upd_eq, ne_eq, Nat.reduceEqDiff, not_false_eq_true, cc]
                                  refine zeq (fun g25 => ?_) (fun g25 => ?_)
                                  · exfalso; (try simp only [zwr_rne, zwr_req, upd_ne, upd_eq, ne_eq, Nat.reduceEqDiff, not_false_eq_true, cc] at g25); omega
                                  · try simp only [zwr_rne, zwr_req, upd_ne, upd_eq, ne_eq, Nat.reduceEqDiff, not_false_eq_true, cc] at g25
                                    try omega
                                    all_goals
                                     try simp only [zwr_rne, zwr_req, upd_ne, upd_eq, ne_eq, Nat.reduceEqDiff, not_false_eq_true, cc]
                                     refine zeq (fun g26 => ?_) (fun g26 => ?_)
                                     · try simp only [zwr_rne, zwr_req, upd_ne, upd_eq, ne_eq, Nat.reduceEqDiff, not_false_eq_true, cc] at g26
                                       try omega
                                       all_goals
                                        try simp only [zwr_rne, zwr_req, upd_ne, upd_eq, ne_eq, Nat.reduceEqDiff, not_false_eq_true, cc]
                                        refine mr_valueOf hc u3 a2 a3 q11 ?_
                                        try simp only [zwr_rne, zwr_req, upd_ne, upd_eq, ne_eq, Nat.reduceEqDiff, not_false_eq_true, cc]
                                        first | exact ⟨by first | rfl | trivial, hh⟩ | exact ⟨q1, hh⟩ | exact ⟨q2, hh⟩ | exact ⟨p1, hh⟩ | exact ⟨p2, hh⟩ | exact ⟨q3, hh⟩
                                     · exfalso; (try simp only [zwr_rne, zwr_req, upd_ne, upd_eq, ne_eq, Nat.reduceEqDiff, not_false_eq_true, cc] at g26); omega
                      · exfalso; (try simp only [zwr_rne, zwr_req, upd_ne, upd_eq, ne_eq, Nat.reduceEqDiff, not_false_eq_true, cc] at g21); omega
                   · try simp only [zwr_rne, zwr_req, upd_ne, upd_eq, ne_eq, Nat.reduceEqDiff, not_false_eq_true, cc] at g20
                     try omega
                     all_goals
                      refine zeq (fun g27 => ?_) (fun g27 => ?_)
                      · try simp only [zwr_rne, zwr_req, upd_ne, upd_eq, ne_eq, Nat.reduceEqDiff, not_false_eq_true, cc] at g27
                        try omega
                        all_goals
                         refine ⟨by first | assumption | exact vin (by omega) | exact vp_in_I.mpr (by omega), ?_⟩
                         refine en_X12_told ?_
                         try simp only [zwr_rne, zwr_req, upd_ne, upd_eq, ne_eq, Nat.reduceEqDiff, not_false_eq_true, cc]
                         refine m_isClaim (by first | omega | (simp only [zwr_rne, zwr_req, upd_ne, upd_eq, ne_eq, Nat.reduceEqDiff, not_false_eq_true, cc]; omega)) (fun g28 g28' => ?_) (fun g28 => ?_)
                         · try simp only [zwr_rne, zwr_req, upd_ne, upd_eq, ne_eq, Nat.reduceEqDiff, not_false_eq_true, cc] at g28
                           try simp only [zwr_rne, zwr_req, upd_ne, upd_eq, ne_eq, Nat.reduceEqDiff, not_false_eq_true, cc] at g28'
                           try omega
                           all_goals
                            try simp only [one_ne, zero_eq, if_false, if_true, or_true, true_or, or_false, false_or]
                            try simp only [zwr_rne, zwr_req, upd_ne, upd_eq, ne_eq, Nat.reduceEqDiff, not_false_eq_true, cc]
                            refine zeq (fun g29 => ?_) (fun g29 => ?_)
                            · exfalso; (try simp only [zwr_rne, zwr_req, upd_ne, upd_eq, ne_eq, Nat.reduceEqDiff, not_false_eq_true, cc] at g29); omega
                            · try simp only [zwr_rne, zwr_req, upd_ne, upd_eq, ne_eq, Nat.reduceEqDiff, not_false_eq_true, cc] at g29
                              try omega
                              all_goals
                               try simp only [zwr_rne, zwr_req, upd_ne, upd_eq, ne_eq, Nat.reduceEqDiff, not_false_eq_true, cc]
                               refine zeq (fun g30 => ?_) (fun g30 => ?_)
                               · exfalso; (try simp only [zwr_rne, zwr_req, upd_ne, upd_eq, ne_eq, Nat.reduceEqDiff, not_false_eq_true, cc] at g30); omega
                               · try simp only [zwr_rne, zwr_req, upd_ne, upd_eq, ne_eq, Nat.reduceEqDiff, not_false_eq_true, cc] at g30
                                 try omega
                                 all_goals
                                  try simp only [zwr_rne, zwr_req, upd_ne, upd_eq, ne_eq, Nat.reduceEqDiff, not_false_eq_true, cc]
                                  refine zeq (fun g31 => ?_) (fun g31 => ?_)
                                  · exfalso; (try simp only [zwr_rne, zwr_req, upd_ne, upd_eq, ne_eq, Nat.reduceEqDiff, not_false_eq_true, cc] at g31); omega
                                  · try simp only [zwr_rne, zwr_req, upd_ne, upd_eq, ne_eq, Nat.reduceEqDiff, not_false_eq_true, cc] at g31
                                    try omega
                                    all_goals
                                     try simp only [zwr_rne, zwr_req, upd_ne, upd_eq, ne_eq, Nat.reduceEqDiff, not_false_eq_true, cc]
                                     refine zeq (fun g32 => ?_) (fun g32 => ?_)
                                     · exfalso; (try simp only [zwr_rne, zwr_req, upd_ne, upd_eq, ne_eq, Nat.reduceEqDiff, not_false_eq_true, cc] at g32); omega
                                     · try simp only [zwr_rne, zwr_req, upd_ne, upd_eq, ne_eq, Nat.reduceEqDiff, not_false_eq_true, cc] at g32
                                       try omega
                                       all_goals
                                        try simp only [zwr_rne, zwr_req, upd_ne, upd_eq, ne_eq, Nat.reduceEqDiff, not_false_eq_true, cc]
                                        refine zeq (fun g33 => ?_) (fun g33 => ?_)
                                        · exfalso; (try simp only [zwr_rne, zwr_req, upd_ne, upd_eq, ne_eq, Nat.reduceEqDiff, not_false_eq_true, cc] at g33); omega
                                        · try simp only [zwr_rne, zwr_req, upd_ne, upd_eq, ne_eq, Nat.reduceEqDiff, not_false_eq_true, cc] at g33
                                          try omega
                                          all_goals
                                           try simp only [zwr_rne, zwr_req, upd_ne, upd_eq, ne_eq, Nat.reduceEqDiff, not_false_eq_true, cc]
                                           refine zeq (fun g34 => ?_) (fun g34 => ?_)
                                           · try simp only [zwr_rne, zwr_req, upd_ne, upd_eq, ne_eq, Nat.reduceEqDiff, not_false_eq_true, cc] at g34
                                             try omega
                                             all_goals
                                              try simp only [zwr_rne, zwr_req, upd_ne, upd_eq, ne_eq, Nat.reduceEqDiff, not_false_eq_true, cc]
                                              refine ⟨by first | assumption | exact vin (by omega) | exact vp_in_I.mpr (by omega), ?_⟩
                                              first | exact ⟨by first | rfl | trivial, hh⟩ | exact ⟨q1, hh⟩ | exact ⟨q2, hh⟩ | exact ⟨p1, hh⟩ | exact ⟨p2, hh⟩ | exact ⟨q3, hh⟩
                                           · exfalso; (try simp only [zwr_rne, zwr_req, upd_ne, upd_eq, ne_eq, Nat.reduceEqDiff, not_false_eq_true, cc] at g34); omega
                         · exfalso; (try simp only [zwr_rne, zwr_req, upd_ne, upd_eq, ne_eq, Nat.reduceEqDiff, not_false_eq_true, cc] at g28); omega
                      · try simp only [zwr_rne, zwr_req, upd_ne, upd_eq, ne_eq, Nat.reduceEqDiff, not_false_eq_true, cc] at g27
                        try omega
                        all_goals
                         refine en_X12_told ?_
                         try simp only [zwr_rne, zwr_req, upd_ne, upd_eq, ne_eq, Nat.reduceEqDiff, not_false_eq_true, cc]
                         refine m_isClaim (by first | omega | (simp only [zwr_rne, zwr_req, upd_ne, upd_eq, ne_eq, Nat.reduceEqDiff, not_false_eq_true, cc]; omega)) (fun g35 g35' => ?_) (fun g35 => ?_)
                         · try simp only [zwr_rne, zwr_req, upd_ne, upd_eq, ne_eq, Nat.reduceEqDiff, not_false_eq_true, cc] at g35
                           try simp only [zwr_rne, zwr_req, upd_ne, upd_eq, ne_eq, Nat.reduceEqDiff, not_false_eq_true, cc] at g35'
                           try omega
                           all_goals
                            try simp only [one_ne, zero_eq, if_false, if_true, or_true, true_or, or_false, false_or]
                            try simp only [zwr_rne, zwr_req, upd_ne, upd_eq, ne_eq, Nat.reduceEqDiff, not_false_eq_true, cc]
                            refine zeq (fun g36 => ?_) (fun g36 => ?_)
                            · exfalso; (try simp only [zwr_rne, zwr_req, upd_ne, upd_eq, ne_eq, Nat.reduceEqDiff, not_false_eq_true, cc] at g36); omega
                            · try simp only [zwr_rne, zwr_req, upd_ne, upd_eq, ne_eq, Nat.reduceEqDiff, not_false_eq_true, cc] at g36
                              try omega
                              all_goals
                               try simp only [zwr_rne, zwr_req, upd_ne, upd_eq, ne_eq, Nat.reduceEqDiff, not_false_eq_true, cc]
                               refine zeq (fun g37 => ?_) (fun g37 => ?_)
                               · exfalso; (try simp only [zwr_rne, zwr_req, upd_ne, upd_eq, ne_eq, Nat.reduceEqDiff, not_false_eq_true, cc] at g37); omega
                               · try simp only [zwr_rne, zwr_req, upd_ne, upd_eq, ne_eq, Nat.reduceEqDiff, not_false_eq_true, cc] at g37
                                 try omega
                                 all_goals
                                  try simp only [zwr_rne, zwr_req, upd_ne, upd_eq, ne_eq, Nat.reduceEqDiff, not_false_eq_true, cc]
                                  refine zeq (fun g38 => ?_) (fun g38 => ?_)
                                  · exfalso; (try simp only [zwr_rne, zwr_req, upd_ne, upd_eq, ne_eq, Nat.reduceEqDiff, not_false_eq_true, cc] at g38); omega
                                  · try simp only [zwr_rne, zwr_req, upd_ne, upd_eq, ne_eq, Nat.reduceEqDiff, not_false_eq_true, cc] at g38
                                    try omega
                                    all_goals
                                     try simp only [zwr_rne, zwr_req, upd_ne, upd_eq, ne_eq, Nat.reduceEqDiff, not_false_eq_true, cc]
                                     refine zeq (fun g39 => ?_) (fun g39 => ?_)
                                     · exfalso; (try simp only [zwr_rne, zwr_req, upd_ne, upd_eq, ne_eq, Nat.reduceEqDiff, not_false_eq_true, cc] at g39); omega
                                     · try simp only [zwr_rne, zwr_req, upd_ne, upd_eq, ne_eq, Nat.reduceEqDiff, not_false_eq_true, cc] at g39
                                       try omega
                                       all_goals
                                        try simp only [zwr_rne, zwr_req, upd_ne, upd_eq, ne_eq, Nat.reduceEqDiff, not_false_eq_true, cc]
                                        refine zeq (fun g40 => ?_) (fun g40 => ?_)
                                        · exfalso; (try simp only [zwr_rne, zwr_req, upd_ne, upd_eq, ne_eq, Nat.reduceEqDiff, not_false_eq_true, cc] at g40); omega
                                        · try simp only [zwr_rne, zwr_req, upd_ne, upd_eq, ne_eq, Nat.reduceEqDiff, not_false_eq_true, cc] at g40
                                          try omega
                                          all_goals
                                           try simp only [zwr_rne, zwr_req, upd_ne, upd_eq, ne_eq, Nat.reduceEqDiff, not_false_eq_true, cc]
                                           refine zeq (fun g41 => ?_) (fun g41 => ?_)
                                           · exfalso; (try simp only [zwr_rne, zwr_req, upd_ne, upd_eq, ne_eq, Nat.reduceEqDiff, not_false_eq_true, cc] at g41); omega
                                           · try simp only [zwr_rne, zwr_req, upd_ne, upd_eq, ne_eq, Nat.reduceEqDiff, not_false_eq_true, cc] at g41
                                             try omega
                                             all_goals
                                              try simp only [zwr_rne, zwr_req, upd_ne, upd_eq, ne_eq, Nat.reduceEqDiff, not_false_eq_true, cc]
                                              first | exact ⟨by first | rfl | trivial, hh⟩ | exact ⟨q1, hh⟩ | exact ⟨q2, hh⟩ | exact ⟨p1, hh⟩ | exact ⟨p2, hh⟩ | exact ⟨q3, hh⟩
                         · exfalso; (try simp only [zwr_rne, zwr_req, upd_ne, upd_eq, ne_eq, Nat.reduceEqDiff, not_false_eq_true, cc] at g35); omega
    · try simp only [zwr_rne, zwr_req, upd_ne, upd_eq, ne_eq, Nat.reduceEqDiff, not_false_eq_true, cc] at g1
      try omega
      all_goals
       try simp only [one_ne, zero_eq, if_false, if_true, or_true, true_or, or_false, false_or]
       refine en_X12_told ?_
       try simp only [zwr_rne, zwr_req, upd_ne, upd_eq, ne_eq, Nat.reduceEqDiff, not_false_eq_true, cc]
       refine m_isClaim (by first | omega | (simp only [zwr_rne, zwr_req, upd_ne, upd_eq, ne_eq, Nat.reduceEqDiff, not_false_eq_true, cc]; omega)) (fun g42 g42' => ?_) (fun g42 => ?_)
       · exfalso; (try simp only [zwr_rne, zwr_req, upd_ne, upd_eq, ne_eq, Nat.reduceEqDiff, not_false_eq_true, cc] at g42); (try simp only [zwr_rne, zwr_req, upd_ne, upd_eq, ne_eq, Nat.reduceEqDiff, not_false_eq_true, cc] at g42'); omega
       · try simp only [zwr_rne, zwr_req, upd_ne, upd_eq, ne_eq, Nat.reduceEqDiff, not_false_eq_true, cc] at g42
         try omega
         all_goals
          try simp only [one_ne, zero_eq, if_false, if_true, or_true, true_or, or_false, false_or]
          try simp only [zwr_rne, zwr_req, upd_ne, upd_eq, ne_eq, Nat.reduceEqDiff, not_false_eq_true, cc]
          first | exact ⟨by first | rfl | trivial, hh⟩ | exact ⟨q1, hh⟩ | exact ⟨q2, hh⟩ | exact ⟨p1, hh⟩ | exact ⟨p2, hh⟩ | exact ⟨q3, hh⟩
