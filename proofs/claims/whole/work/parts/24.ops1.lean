theorem P_firm {G : zGT} {d : Nat} : Pair G (d + 1) Y_X11_firm Y_X12_firm [] := by
  intro σ h
  have hh := h
  obtain ⟨⟨k1, k2, k3, k4, k5, k6, k7, k8, k9⟩, kas, kcl, kda, kdh, kpl, kkp, ksh, kwt, ktp, klw, ksd, kw0, kw1⟩ := h
  obtain ⟨e1, b1, b2⟩ := id k1
  refine en_X11_firm ?_
  by_cases hf : (σ 72 1).toInt = 6
  · rw [if_neg (by rw [fa_lt, e1]; show ¬ (σ 72 1).toInt < 6; omega)]
    refine en_X12_firm ?_
    rw [if_pos (by rw [fa_eq]; exact hf)]
    exact ⟨rfl, hh⟩
  · rw [if_pos (by rw [fa_lt, e1]; show (σ 72 1).toInt < 6; omega)]
    refine c_changed ?_
    rintro _ rfl
    refine en_X12_firm ?_
    simp only [zwr_rne, zwr_req, upd_ne, upd_eq, ne_eq, Nat.reduceEqDiff, not_false_eq_true]
    rw [if_neg (by rw [fa_eq]; exact hf)]
    rintro _ rfl
    simp only [zwr_rne, zwr_req, upd_ne, upd_eq, ne_eq, Nat.reduceEqDiff, not_false_eq_true]
    refine ⟨by rw [e1], ?_⟩
    have i1 : (σ 72 1 + 1).toInt = (σ 72 1).toInt + 1 := by rw [fb_addI (by rw [ti1]; omega) (by rw [ti1]; omega), ti1]
    unfold Rall
    simp only [zwr_rne, zwr_req, upd_ne, upd_eq, ne_eq, Nat.reduceEqDiff, not_false_eq_true]
    refine ⟨⟨k1.inc (by omega) (by omega), k2, k3, k4, k5, k6, k7, k8, k9⟩, ?_, ?_, kda, ?_, kpl, kkp, ksh, kwt, ktp, klw, ksd, Rwx_stale, Rwx_stale⟩
    · intro a ha
      obtain ⟨q1, q2, q3, q4, q5, q6, q7, q8⟩ := kas a ha
      exact ⟨q1, q2, q3, q4, q5, q6, by omega, q8⟩
    · refine ⟨fun c hc => ?_, kcl.2⟩
      obtain ⟨q1, q2, q3, q4, q5, q6, q7, q8, q9⟩ := kcl.1 c hc
      exact ⟨q1, q2, q3, q4, q5, q6, q7, by omega, q9⟩
    · refine ⟨fun c hc => ?_, kdh.2⟩
      obtain ⟨q1, q2, q3, q4⟩ := kdh.1 c hc
      refine ⟨q1, q2, q3, fun i hi => ?_⟩
      obtain ⟨r1, r2, r3, r4⟩ := q4 i hi
      exact ⟨r1, r2, r3, by omega⟩
