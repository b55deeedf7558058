theorem P_asset {G : zGT} {d : Nat} {v1 v2 v3 v4 : Int32} : Pair G (d + 6) Y_X11_asset Y_X12_asset [.inl v1, .inl v2, .inl v3, .inl v4] := by
  intro σ h
  have hh := h
  obtain ⟨⟨k1, k2, k3, k4, k5, k6, k7, k8, k9⟩, kas, kcl, kda, kdh, kpl, kkp, ksh, kwt, ktp, klw, ksd, kw0, kw1⟩ := h
  obtain ⟨e1, b1, u1⟩ := id k1
  obtain ⟨e2, b2, u2⟩ := id k2
  obtain ⟨e3, b3, u3⟩ := id k3
  obtain ⟨e4, b4, u4⟩ := id k4
  obtain ⟨e5, b5, u5⟩ := id k5
  obtain ⟨e6, b6, u6⟩ := id k6
  obtain ⟨e7, b7, u7⟩ := id k7
  obtain ⟨e8, b8, u8⟩ := id k8
  obtain ⟨e9, b9, u9⟩ := id k9
  have f1 : (σ 0 15).toInt = (σ 72 1).toInt := by rw [e1]
  have f2 : (σ 14 5).toInt = (σ 72 2).toInt := by rw [e2]
  have f3 : (σ 1 6).toInt = (σ 72 8).toInt := by rw [e3]
  have f4 : (σ 0 16).toInt = (σ 72 0).toInt := by rw [e4]
  have f5 : (σ 55 7).toInt = (σ 72 22).toInt := by rw [e5]
  have f6 : (σ 14 6).toInt = (σ 72 23).toInt := by rw [e6]
  have f7 : (σ 0 17).toInt = (σ 72 24).toInt := by rw [e7]
  have f8 : (σ 0 13).toInt = (σ 72 25).toInt := by rw [e8]
  have f9 : (σ 46 1).toInt = (σ 72 28).toInt := by rw [e9]
  have l0 := ti0
  have l1 := ti1
  have l2 := ti2
  have l3 := ti3
  have l4 := ti4
  have l5 := ti5
  have l6 := ti6
  have l8 := ti8
  have l9 := ti9
  have l10 := ti10
  have l16 := ti16
  have l20 := ti20
  have l24 := ti24
  have l31 := ti31
  have l60 := ti60
  have l96 := ti96
  have l100 := ti100
  have l200 := ti200
  have l400 := ti400
  have l600 := ti600
  have l1200 := ti1200
  have l100000 := ti100000
  have lm1 := tim1
  have lB := tiB
  have lN := tiN
  obtain ⟨k, hk, hk2, hk3⟩ := num_of b2 u2
  have ck : (nI k).toNatClampNeg = k := cln hk3
  have tk := tin hk3
  have hkt : (σ 72 2).toInt = (k : Int) := by rw [hk]; exact tk
  have kas' := kas
  rw [hk] at e2 f2 kas'
  refine en_X11_asset ?_
  try simp only [zwr_rne, zwr_req, upd_ne, upd_eq, ne_eq, Nat.reduceEqDiff, not_false_eq_true, e2, hk, ck, nI_1]
  refine c_isFirm (fun g1 g1' => ?_) (fun g1 => ?_)
  · try simp only [zwr_rne, zwr_req, upd_ne, upd_eq, ne_eq, Nat.reduceEqDiff, not_false_eq_true, e2, hk, ck, nI_1] at g1
    try simp only [zwr_rne, zwr_req, upd_ne, upd_eq, ne_eq, Nat.reduceEqDiff, not_false_eq_true, e2, hk, ck, nI_1] at g1'
    try omega
    all_goals
     try simp only [one_ne, zero_eq, if_false, if_true, or_true, true_or, or_false, false_or]
     refine c_isWithin (fun g2 g2' => ?_) (fun g2 => ?_)
     · try simp only [zwr_rne, zwr_req, upd_ne, upd_eq, ne_eq, Nat.reduceEqDiff, not_false_eq_true, e2, hk, ck, nI_1] at g2
       try simp only [zwr_rne, zwr_req, upd_ne, upd_eq, ne_eq, Nat.reduceEqDiff, not_false_eq_true, e2, hk, ck, nI_1] at g2'
       try omega
       all_goals
        try simp only [one_ne, zero_eq, if_false, if_true, or_true, true_or, or_false, false_or]
        refine c_isWithin (fun g3 g3' => ?_) (fun g3 => ?_)
        · try simp only [zwr_rne, zwr_req, upd_ne, upd_eq, ne_eq, Nat.reduceEqDiff, not_false_eq_true, e2, hk, ck, nI_1] at g3
          try simp only [zwr_rne, zwr_req, upd_ne, upd_eq, ne_eq, Nat.reduceEqDiff, not_false_eq_true, e2, hk, ck, nI_1] at g3'
          try omega
          all_goals
           try simp only [one_ne, zero_eq, if_false, if_true, or_true, true_or, or_false, false_or]
           refine c_isWithin (fun g4 g4' => ?_) (fun g4 => ?_)
           · try simp only [zwr_rne, zwr_req, upd_ne, upd_eq, ne_eq, Nat.reduceEqDiff, not_false_eq_true, e2, hk, ck, nI_1] at g4
             try simp only [zwr_rne, zwr_req, upd_ne, upd_eq, ne_eq, Nat.reduceEqDiff, not_false_eq_true, e2, hk, ck, nI_1] at g4'
             try omega
             all_goals
              try simp only [one_ne, zero_eq, if_false, if_true, or_true, true_or, or_false, false_or]
              refine zlt (fun g5 => ?_) (fun g5 => ?_)
              · try simp only [zwr_rne, zwr_req, upd_ne, upd_eq, ne_eq, Nat.reduceEqDiff, not_false_eq_true, e2, hk, ck, nI_1] at g5
                try omega
                all_goals
                 refine c_changed ?_
                 try simp only [zwr_rne, zwr_req, upd_ne, upd_eq, ne_eq, Nat.reduceEqDiff, not_false_eq_true, e2, hk, ck, nI_1]
                 refine en_X0_add ?_
                 try simp only [zwr_rne, zwr_req, upd_ne, upd_eq, ne_eq, Nat.reduceEqDiff, not_false_eq_true, e2, hk, ck, nI_1]
                 refine ⟨by first | assumption | exact vin (by omega) | exact vp_in_I.mpr (by omega), ?_⟩
                 rintro _ rfl
                 try simp only [zwr_rne, zwr_req, upd_ne, upd_eq, ne_eq, Nat.reduceEqDiff, not_false_eq_true, e2, hk, ck, nI_1]
                 refine ⟨by first | assumption | exact vin (by omega) | exact vp_in_I.mpr (by omega), ?_⟩
                 rintro _ rfl
                 try simp only [zwr_rne, zwr_req, upd_ne, upd_eq, ne_eq, Nat.reduceEqDiff, not_false_eq_true, e2, hk, ck, nI_1]
                 refine ⟨by first | assumption | exact vin (by omega) | exact vp_in_I.mpr (by omega), ?_⟩
                 rintro _ rfl
                 try simp only [zwr_rne, zwr_req, upd_ne, upd_eq, ne_eq, Nat.reduceEqDiff, not_false_eq_true, e2, hk, ck, nI_1]
                 refine ⟨by first | assumption | exact vin (by omega) | exact vp_in_I.mpr (by omega), ?_⟩
                 rintro _ rfl
                 try simp only [zwr_rne, zwr_req, upd_ne, upd_eq, ne_eq, Nat.reduceEqDiff, not_false_eq_true, e2, hk, ck, nI_1]
                 refine ⟨by first | assumption | exact vin (by omega) | exact vp_in_I.mpr (by omega), ?_⟩
                 rintro _ rfl
                 try simp only [zwr_rne, zwr_req, upd_ne, upd_eq, ne_eq, Nat.reduceEqDiff, not_false_eq_true, e2, hk, ck, nI_1]
                 rintro _ rfl
                 try simp only [zwr_rne, zwr_req, upd_ne, upd_eq, ne_eq, Nat.reduceEqDiff, not_false_eq_true, e2, hk, ck, nI_1]
                 try simp only [zwr_rne, zwr_req, upd_ne, upd_eq, ne_eq, Nat.reduceEqDiff, not_false_eq_true, e2, hk, ck, nI_1]
                 refine en_X12_asset ?_
                 try simp only [zwr_rne, zwr_req, upd_ne, upd_eq, ne_eq, Nat.reduceEqDiff, not_false_eq_true, e2, hk, ck, nI_1]
                 refine m_isFirm (by first | omega | (simp only [zwr_rne, zwr_req, upd_ne, upd_eq, ne_eq, Nat.reduceEqDiff, not_false_eq_true, e2, hk, ck, nI_1]; omega)) (fun g6 g6' => ?_) (fun g6 => ?_)
                 · try simp only [zwr_rne, zwr_req, upd_ne, upd_eq, ne_eq, Nat.reduceEqDiff, not_false_eq_true, e2, hk, ck, nI_1] at g6
                   try simp only [zwr_rne, zwr_req, upd_ne, upd_eq, ne_eq, Nat.reduceEqDiff, not_false_eq_true, e2, hk, ck, nI_1] at g6'
                   try omega
                   all_goals
                    try simp only [one_ne, zero_eq, if_false, if_true, or_true, true_or, or_false, false_or]
                    try simp only [zwr_rne, zwr_req, upd_ne, upd_eq, ne_eq, Nat.reduceEqDiff, not_false_eq_true, e2, hk, ck, nI_1]
                    refine m_isIn (fun g7 g7' => ?_) (fun g7 => ?_)
                    · try simp only [zwr_rne, zwr_req, upd_ne, upd_eq, ne_eq, Nat.reduceEqDiff, not_false_eq_true, e2, hk, ck, nI_1] at g7
                      try simp only [zwr_rne, zwr_req, upd_ne, upd_eq, ne_eq, Nat.reduceEqDiff, not_false_eq_true, e2, hk, ck, nI_1] at g7'
                      try omega
                      all_goals
                       try simp only [one_ne, zero_eq, if_false, if_true, or_true, true_or, or_false, false_or]
                       try simp only [zwr_rne, zwr_req, upd_ne, upd_eq, ne_eq, Nat.reduceEqDiff, not_false_eq_true, e2, hk, ck, nI_1]
                       refine m_isIn (fun g8 g8' => ?_) (fun g8 => ?_)
                       · try simp only [zwr_rne, zwr_req, upd_ne, upd_eq, ne_eq, Nat.reduceEqDiff, not_false_eq_true, e2, hk, ck, nI_1] at g8
                         try simp only [zwr_rne, zwr_req, upd_ne, upd_eq, ne_eq, Nat.reduceEqDiff, not_false_eq_true, e2, hk, ck, nI_1] at g8'
                         try omega
                         all_goals
                          try simp only [one_ne, zero_eq, if_false, if_true, or_true, true_or, or_false, false_or]
                          try simp only [zwr_rne, zwr_req, upd_ne, upd_eq, ne_eq, Nat.reduceEqDiff, not_false_eq_true, e2, hk, ck, nI_1]
                          refine m_isIn (fun g9 g9' => ?_) (fun g9 => ?_)
                          · try simp only [zwr_rne, zwr_req, upd_ne, upd_eq, ne_eq, Nat.reduceEqDiff, not_false_eq_true, e2, hk, ck, nI_1] at g9
                            try simp only [zwr_rne, zwr_req, upd_ne, upd_eq, ne_eq, Nat.reduceEqDiff, not_false_eq_true, e2, hk, ck, nI_1] at g9'
                            try omega
                            all_goals
                             try simp only [one_ne, zero_eq, if_false, if_true, or_true, true_or, or_false, false_or]
                             try simp only [zwr_rne, zwr_req, upd_ne, upd_eq, ne_eq, Nat.reduceEqDiff, not_false_eq_true, e2, hk, ck, nI_1]
                             refine zeq (fun g10 => ?_) (fun g10 => ?_)
                             · try simp only [zwr_rne, zwr_req, upd_ne, upd_eq, ne_eq, Nat.reduceEqDiff, not_false_eq_true, e2, hk, ck, nI_1] at g10
                               try omega
                               all_goals
                                try simp only [zwr_rne, zwr_req, upd_ne, upd_eq, ne_eq, Nat.reduceEqDiff, not_false_eq_true, e2, hk, ck, nI_1]
                                exact ⟨by first | rfl | trivial, hh⟩
                             · try simp only [zwr_rne, zwr_req, upd_ne, upd_eq, ne_eq, Nat.reduceEqDiff, not_false_eq_true, e2, hk, ck, nI_1] at g10
                               try omega
                               all_goals
                                try simp only [zwr_rne, zwr_req, upd_ne, upd_eq, ne_eq, Nat.reduceEqDiff, not_false_eq_true, e2, hk, ck, nI_1]
                                refine ⟨by first | assumption | exact vin (by omega) | exact vp_in_I.mpr (by omega), ?_⟩
                                rintro _ rfl
                                try simp only [zwr_rne, zwr_req, upd_ne, upd_eq, ne_eq, Nat.reduceEqDiff, not_false_eq_true, e2, hk, ck, nI_1]
                                refine ⟨by first | assumption | exact vin (by omega) | exact vp_in_I.mpr (by omega), ?_⟩
                                rintro _ rfl
                                try simp only [zwr_rne, zwr_req, upd_ne, upd_eq, ne_eq, Nat.reduceEqDiff, not_false_eq_true, e2, hk, ck, nI_1]
                                refine ⟨by first | assumption | exact vin (by omega) | exact vp_in_I.mpr (by omega), ?_⟩
                                rintro _ rfl
                                try simp only [zwr_rne, zwr_req, upd_ne, upd_eq, ne_eq, Nat.reduceEqDiff, not_false_eq_true, e2, hk, ck, nI_1]
                                refine ⟨by first | assumption | exact vin (by omega) | exact vp_in_I.mpr (by omega), ?_⟩
                                rintro _ rfl
                                try simp only [zwr_rne, zwr_req, upd_ne, upd_eq, ne_eq, Nat.reduceEqDiff, not_false_eq_true, e2, hk, ck, nI_1]
                                refine ⟨by first | assumption | exact vin (by omega) | exact vp_in_I.mpr (by omega), ?_⟩
                                rintro _ rfl
                                try simp only [zwr_rne, zwr_req, upd_ne, upd_eq, ne_eq, Nat.reduceEqDiff, not_false_eq_true, e2, hk, ck, nI_1]
                                rintro _ rfl
                                try simp only [zwr_rne, zwr_req, upd_ne, upd_eq, ne_eq, Nat.reduceEqDiff, not_false_eq_true, e2, hk, ck, nI_1]
                                refine ⟨by first | rfl | trivial | (rw [nI_pred]), ?_⟩
                                unfold Rall
                                simp only [zwr_rne, zwr_req, upd_ne, upd_eq, ne_eq, Nat.reduceEqDiff, not_false_eq_true]
                                exact ⟨⟨k1, Rcnt.k (by omega) (by omega), k3, k4, k5, k6, k7, k8, k9⟩, Ras.push (by omega) kas' (by omega) (by omega) (by omega) (by omega) (by omega) (by omega) (by omega) (by omega), kcl, kda, kdh, kpl, kkp, ksh, kwt, ktp, klw, ksd, Rwx_stale, Rwx_stale⟩
                          · exfalso; (try simp only [zwr_rne, zwr_req, upd_ne, upd_eq, ne_eq, Nat.reduceEqDiff, not_false_eq_true, e2, hk, ck, nI_1] at g9); omega
                       · try simp only [zwr_rne, zwr_req, upd_ne, upd_eq, ne_eq, Nat.reduceEqDiff, not_false_eq_true, e2, hk, ck, nI_1] at g8
                         try omega
                         all_goals
                          try simp only [one_ne, zero_eq, if_false, if_true, or_true, true_or, or_false, false_or]
                          try simp only [zwr_rne, zwr_req, upd_ne, upd_eq, ne_eq, Nat.reduceEqDiff, not_false_eq_true, e2, hk, ck, nI_1]
                          exact ⟨by first | rfl | trivial, hh⟩
                    · try simp only [zwr_rne, zwr_req, upd_ne, upd_eq, ne_eq, Nat.reduceEqDiff, not_false_eq_true, e2, hk, ck, nI_1] at g7
                      try omega
                      all_goals
                       try simp only [one_ne, zero_eq, if_false, if_true, or_true, true_or, or_false, false_or]
                       try simp only [zwr_rne, zwr_req, upd_ne, upd_eq, ne_eq, Nat.reduceEqDiff, not_false_eq_true, e2, hk, ck, nI_1]
                       exact ⟨by first | rfl | trivial, hh⟩
                 · exfalso; (try simp only [zwr_rne, zwr_req, upd_ne, upd_eq, ne_eq, Nat.reduceEqDiff, not_false_eq_true, e2, hk, ck, nI_1] at g6); omega
              · try simp only [zwr_rne, zwr_req, upd_ne, upd_eq, ne_eq, Nat.reduceEqDiff, not_false_eq_true, e2, hk, ck, nI_1] at g5
                try omega
                all_goals
                 refine en_X12_asset ?_
                 try simp only [zwr_rne, zwr_req, upd_ne, upd_eq, ne_eq, Nat.reduceEqDiff, not_false_eq_true, e2, hk, ck, nI_1]
                 refine m_isFirm (by first | omega | (simp only [zwr_rne, zwr_req, upd_ne, upd_eq, ne_eq, Nat.reduceEqDiff, not_false_eq_true, e2, hk, ck, nI_1]; omega)) (fun g11 g11' => ?_) (fun g11 => ?_)
                 · try simp only [zwr_rne, zwr_req, upd_ne, upd_eq, ne_eq, Nat.reduceEqDiff, not_false_eq_true, e2, hk, ck, nI_1] at g11
                   try simp only [zwr_rne, zwr_req, upd_ne, upd_eq, ne_eq, Nat.reduceEqDiff, not_false_eq_true, e2, hk, ck, nI_1] at g11'
                   try omega
                   all_goals
                    try simp only [one_ne, zero_eq, if_false, if_true, or_true, true_or, or_false, false_or]
                    try simp only [zwr_rne, zwr_req, upd_ne, upd_eq, ne_eq, Nat.reduceEqDiff, not_false_eq_true, e2, hk, ck, nI_1]
                    refine m_isIn (fun g12 g12' => ?_) (fun g12 => ?_)
                    · try simp only [zwr_rne, zwr_req, upd_ne, upd_eq, ne_eq, Nat.reduceEqDiff, not_false_eq_true, e2, hk, ck, nI_1] at g12
                      try simp only [zwr_rne, zwr_req, upd_ne, upd_eq, ne_eq, Nat.reduceEqDiff, not_false_eq_true, e2, hk, ck, nI_1] at g12'
                      try omega
                      all_goals
                       try simp only [one_ne, zero_eq, if_false, if_true, or_true, true_or, or_false, false_or]
                       try simp only [zwr_rne, zwr_req, upd_ne, upd_eq, ne_eq, Nat.reduceEqDiff, not_false_eq_true, e2, hk, ck, nI_1]
                       refine m_isIn (fun g13 g13' => ?_) (fun g13 => ?_)
                       · try simp only [zwr_rne, zwr_req, upd_ne, upd_eq, ne_eq, Nat.reduceEqDiff, not_false_eq_true, e2, hk, ck, nI_1] at g13
                         try simp only [zwr_rne, zwr_req, upd_ne, upd_eq, ne_eq, Nat.reduceEqDiff, not_false_eq_true, e2, hk, ck, nI_1] at g13'
                         try omega
                         all_goals
                          try simp only [one_ne, zero_eq, if_false, if_true, or_true, true_or, or_false, false_or]
                          try simp only [zwr_rne, zwr_req, upd_ne, upd_eq, ne_eq, Nat.reduceEqDiff, not_false_eq_true, e2, hk, ck, nI_1]
                          refine m_isIn (fun g14 g14' => ?_) (fun g14 => ?_)
                          · try simp only [zwr_rne, zwr_req, upd_ne, upd_eq, ne_eq, Nat.reduceEqDiff, not_false_eq_true, e2, hk, ck, nI_1] at g14
                            try simp only [zwr_rne, zwr_req, upd_ne, upd_eq, ne_eq, Nat.reduceEqDiff, not_false_eq_true, e2, hk, ck, nI_1] at g14'
                            try omega
                            all_goals
                             try simp only [one_ne, zero_eq, if_false, if_true, or_true, true_or, or_false, false_or]
                             try simp only [zwr_rne, zwr_req, upd_ne, upd_eq, ne_eq, Nat.reduceEqDiff, not_false_eq_true, e2, hk, ck, nI_1]
                             refine zeq (fun g15 => ?_) (fun g15 => ?_)
                             · try simp only [zwr_rne, zwr_req, upd_ne, upd_eq, ne_eq, Nat.reduceEqDiff, not_false_eq_true, e2, hk, ck, nI_1] at g15
                               try omega
                               all_goals
                                try simp only [zwr_rne, zwr_req, upd_ne, upd_eq, ne_eq, Nat.reduceEqDiff, not_false_eq_true, e2, hk, ck, nI_1]
                                exact ⟨by first | rfl | trivial, hh⟩
                             · try simp only [zwr_rne, zwr_req, upd_ne, upd_eq, ne_eq, Nat.reduceEqDiff, not_false_eq_true, e2, hk, ck, nI_1] at g15
                               try omega
                               all_goals
                                try simp only [zwr_rne, zwr_req, upd_ne, upd_eq, ne_eq, Nat.reduceEqDiff, not_false_eq_true, e2, hk, ck, nI_1]
                                refine ⟨by first | assumption | exact vin (by omega) | exact vp_in_I.mpr (by omega), ?_⟩
                                rintro _ rfl
                                try simp only [zwr_rne, zwr_req, upd_ne, upd_eq, ne_eq, Nat.reduceEqDiff, not_false_eq_true, e2, hk, ck, nI_1]
                                refine ⟨by first | assumption | exact vin (by omega) | exact vp_in_I.mpr (by omega), ?_⟩
                                rintro _ rfl
                                try simp only [zwr_rne, zwr_req, upd_ne, upd_eq, ne_eq, Nat.reduceEqDiff, not_false_eq_true, e2, hk, ck, nI_1]
                                refine ⟨by first | assumption | exact vin (by omega) | exact vp_in_I.mpr (by omega), ?_⟩
                                rintro _ rfl
                                try simp only [zwr_rne, zwr_req, upd_ne, upd_eq, ne_eq, Nat.reduceEqDiff, not_false_eq_true, e2, hk, ck, nI_1]
                                refine ⟨by first | assumption | exact vin (by omega) | exact vp_in_I.mpr (by omega), ?_⟩
                                rintro _ rfl
                                try simp only [zwr_rne, zwr_req, upd_ne, upd_eq, ne_eq, Nat.reduceEqDiff, not_false_eq_true, e2, hk, ck, nI_1]
                                refine ⟨by first | assumption | exact vin (by omega) | exact vp_in_I.mpr (by omega), ?_⟩
                                rintro _ rfl
                                try simp only [zwr_rne, zwr_req, upd_ne, upd_eq, ne_eq, Nat.reduceEqDiff, not_false_eq_true, e2, hk, ck, nI_1]
                                rintro _ rfl
                                try simp only [zwr_rne, zwr_req, upd_ne, upd_eq, ne_eq, Nat.reduceEqDiff, not_false_eq_true, e2, hk, ck, nI_1]
                                refine ⟨by first | rfl | trivial | (rw [nI_pred]), ?_⟩
                                unfold Rall
                                simp only [zwr_rne, zwr_req, upd_ne, upd_eq, ne_eq, Nat.reduceEqDiff, not_false_eq_true]
                                exact ⟨⟨k1, Rcnt.k (by omega) (by omega), k3, k4, k5, k6, k7, k8, k9⟩, Ras.push (by omega) kas' (by omega) (by omega) (by omega) (by omega) (by omega) (by omega) (by omega) (by omega), kcl, kda, kdh, kpl, kkp, ksh, kwt, ktp, klw, ksd, Rwx_stale, Rwx_stale⟩
                          · exfalso; (try simp only [zwr_rne, zwr_req, upd_ne, upd_eq, ne_eq, Nat.reduceEqDiff, not_false_eq_true, e2, hk, ck, nI_1] at g14); omega
                       · try simp only [zwr_rne, zwr_req, upd_ne, upd_eq, ne_eq, Nat.reduceEqDiff, not_false_eq_true, e2, hk, ck, nI_1] at g13
                         try omega
                         all_goals
                          try simp only [one_ne, zero_eq, if_false, if_true, or_true, true_or, or_false, false_or]
                          try simp only [zwr_rne, zwr_req, upd_ne, upd_eq, ne_eq, Nat.reduceEqDiff, not_false_eq_true, e2, hk, ck, nI_1]
                          exact ⟨by first | rfl | trivial, hh⟩
                    · try simp only [zwr_rne, zwr_req, upd_ne, upd_eq, ne_eq, Nat.reduceEqDiff, not_false_eq_true, e2, hk, ck, nI_1] at g12
                      try omega
                      all_goals
                       try simp only [one_ne, zero_eq, if_false, if_true, or_true, true_or, or_false, false_or]
                       try simp only [zwr_rne, zwr_req, upd_ne, upd_eq, ne_eq, Nat.reduceEqDiff, not_false_eq_true, e2, hk, ck, nI_1]
                       exact ⟨by first | rfl | trivial, hh⟩
                 · exfalso; (try simp only [zwr_rne, zwr_req, upd_ne, upd_eq, ne_eq, Nat.reduceEqDiff, not_false_eq_true, e2, hk, ck, nI_1] at g11); omega
           · try simp only [zwr_rne, zwr_req, upd_ne, upd_eq, ne_eq, Nat.reduceEqDiff, not_false_eq_true, e2, hk, ck, nI_1] at g4
             try omega
             all_goals
              try simp only [one_ne, zero_eq, if_false, if_true, or_true, true_or, or_false, false_or]
              refine en_X12_asset ?_
              try simp only [zwr_rne, zwr_req, upd_ne, upd_eq, ne_eq, Nat.reduceEqDiff, not_false_eq_true, e2, hk, ck, nI_1]
              refine m_isFirm (by first | omega | (simp only [zwr_rne, zwr_req, upd_ne, upd_eq, ne_eq, Nat.reduceEqDiff, not_false_eq_true, e2, hk, ck, nI_1]; omega)) (fun g16 g16' => ?_) (fun g16 => ?_)
              · try simp only [zwr_rne, zwr_req, upd_ne, upd_eq, ne_eq, Nat.reduceEqDiff, not_false_eq_true, e2, hk, ck, nI_1] at g16
                try simp only [zwr_rne, zwr_req, upd_ne, upd_eq, ne_eq, Nat.reduceEqDiff, not_false_eq_true, e2, hk, ck, nI_1] at g16'
                try omega
                all_goals
                 try simp only [one_ne, zero_eq, if_false, if_true, or_true, true_or, or_false, false_or]
                 try simp only [zwr_rne, zwr_req, upd_ne, upd_eq, ne_eq, Nat.reduceEqDiff, not_false_eq_true, e2, hk, ck, nI_1]
                 refine m_isIn (fun g17 g17' => ?_) (fun g17 => ?_)
                 · try simp only [zwr_rne, zwr_req, upd_ne, upd_eq, ne_eq, Nat.reduceEqDiff, not_false_eq_true, e2, hk, ck, nI_1] at g17
                   try simp only [zwr_rne, zwr_req, upd_ne, upd_eq, ne_eq, Nat.reduceEqDiff, not_false_eq_true, e2, hk, ck, nI_1] at g17'
                   try omega
                   all_goals
                    try simp only [one_ne, zero_eq, if_false, if_true, or_true, true_or, or_false, false_or]
                    try simp only [zwr_rne, zwr_req, upd_ne, upd_eq, ne_eq, Nat.reduceEqDiff, not_false_eq_true, e2, hk, ck, nI_1]
                    refine m_isIn (fun g18 g18' => ?_) (fun g18 => ?_)
                    · try simp only [zwr_rne, zwr_req, upd_ne, upd_eq, ne_eq, Nat.reduceEqDiff, not_false_eq_true, e2, hk, ck, nI_1] at g18
                      try simp only [zwr_rne, zwr_req, upd_ne, upd_eq, ne_eq, Nat.reduceEqDiff, not_false_eq_true, e2, hk, ck, nI_1] at g18'
                      try omega
                      all_goals
                       try simp only [one_ne, zero_eq, if_false, if_true, or_true, true_or, or_false, false_or]
                       try simp only [zwr_rne, zwr_req, upd_ne, upd_eq, ne_eq, Nat.reduceEqDiff, not_false_eq_true, e2, hk, ck, nI_1]
                       refine m_isIn (fun g19 g19' => ?_) (fun g19 => ?_)
                       · exfalso; (try simp only [zwr_rne, zwr_req, upd_ne, upd_eq, ne_eq, Nat.reduceEqDiff, not_false_eq_true, e2, hk, ck, nI_1] at g19); (try simp only [zwr_rne, zwr_req, upd_ne, upd_eq, ne_eq, Nat.reduceEqDiff, not_false_eq_true, e2, hk, ck, nI_1] at g19'); omega
                       · try simp only [zwr_rne, zwr_req, upd_ne, upd_eq, ne_eq, Nat.reduceEqDiff, not_false_eq_true, e2, hk, ck, nI_1] at g19
                         try omega
                         all_goals
                          try simp only [one_ne, zero_eq, if_false, if_true, or_true, true_or, or_false, false_or]
                          try simp only [zwr_rne, zwr_req, upd_ne, upd_eq, ne_eq, Nat.reduceEqDiff, not_false_eq_true, e2, hk, ck, nI_1]
                          exact ⟨by first | rfl | trivial, hh⟩
                    · try simp only [zwr_rne, zwr_req, upd_ne, upd_eq, ne_eq, Nat.reduceEqDiff, not_false_eq_true, e2, hk, ck, nI_1] at g18
                      try omega
                      all_goals
                       try simp only [one_ne, zero_eq, if_false, if_true, or_true, true_or, or_false, false_or]
                       try simp only [zwr_rne, zwr_req, upd_ne, upd_eq, ne_eq, Nat.reduceEqDiff, not_false_eq_true, e2, hk, ck, nI_1]
                       exact ⟨by first | rfl | trivial, hh⟩
                 · try simp only [zwr_rne, zwr_req, upd_ne, upd_eq, ne_eq, Nat.reduceEqDiff, not_false_eq_true, e2, hk, ck, nI_1] at g17
                   try omega
                   all_goals
                    try simp only [one_ne, zero_eq, if_false, if_true, or_true, true_or, or_false, false_or]
                    try simp only [zwr_rne, zwr_req, upd_ne, upd_eq, ne_eq, Nat.reduceEqDiff, not_false_eq_true, e2, hk, ck, nI_1]
                    exact ⟨by first | rfl | trivial, hh⟩
              · exfalso; (try simp only [zwr_rne, zwr_req, upd_ne, upd_eq, ne_eq, Nat.reduceEqDiff, not_false_eq_true, e2, hk, ck, nI_1] at g16); omega
        · try simp only [zwr_rne, zwr_req, upd_ne, upd_eq, ne_eq, Nat.reduceEqDiff, not_false_eq_true, e2, hk, ck, nI_1] at g3
          try omega
          all_goals
           try simp only [one_ne, zero_eq, if_false, if_true, or_true, true_or, or_false, false_or]
           refine en_X12_asset ?_
           try simp only [zwr_rne, zwr_req, upd_ne, upd_eq, ne_eq, Nat.reduceEqDiff, not_false_eq_true, e2, hk, ck, nI_1]
           refine m_isFirm (by first | omega | (simp only [zwr_rne, zwr_req, upd_ne, upd_eq, ne_eq, Nat.reduceEqDiff, not_false_eq_true, e2, hk, ck, nI_1]; omega)) (fun g20 g20' => ?_) (fun g20 => ?_)
           · try simp only [zwr_rne, zwr_req, upd_ne, upd_eq, ne_eq, Nat.reduceEqDiff, not_false_eq_true, e2, hk, ck, nI_1] at g20
             try simp only [zwr_rne, zwr_req, upd_ne, upd_eq, ne_eq, Nat.reduceEqDiff, not_false_eq_true, e2, hk, ck, nI_1] at g20'
             try omega
             all_goals
              try simp only [one_ne, zero_eq, if_false, if_true, or_true, true_or, or_false, false_or]
              try simp only [zwr_rne, zwr_req, upd_ne, upd_eq, ne_eq, Nat.reduceEqDiff, not_false_eq_true, e2, hk, ck, nI_1]
              refine m_isIn (fun g21 g21' => ?_) (fun g21 => ?_)
              · try simp only [zwr_rne, zwr_req, upd_ne, upd_eq, ne_eq, Nat.reduceEqDiff, not_false_eq_true, e2, hk, ck, nI_1] at g21
                try simp only [zwr_rne, zwr_req, upd_ne, upd_eq, ne_eq, Nat.reduceEqDiff, not_false_eq_true, e2, hk, ck, nI_1] at g21'
                try omega
                all_goals
                 try simp only [one_ne, zero_eq, if_false, if_true, or_true, true_or, or_false, false_or]
                 try simp only [zwr_rne, zwr_req, upd_ne, upd_eq, ne_eq, Nat.reduceEqDiff, not_false_eq_true, e2, hk, ck, nI_1]
                 refine m_isIn (fun g22 g22' => ?_) (fun g22 => ?_)
                 · try simp only [zwr_rne, zwr_req, upd_ne, upd_eq, ne_eq, Nat.reduceEqDiff, not_false_eq_true, e2, hk, ck, nI_1] at g22
                   try simp only [zwr_rne, zwr_req, upd_ne, upd_eq, ne_eq, Nat.reduceEqDiff, not_false_eq_true, e2, hk, ck, nI_1] at g22'
                   try omega
                   all_goals
                    try simp only [one_ne, zero_eq, if_false, if_true, or_true, true_or, or_false, false_or]
                    try simp only [zwr_rne, zwr_req, upd_ne, upd_eq, ne_eq, Nat.reduceEqDiff, not_false_eq_true, e2, hk, ck, nI_1]
                    refine m_isIn (fun g23 g23' => ?_) (fun g23 => ?_)
                    · try simp only [zwr_rne, zwr_req, upd_ne, upd_eq, ne_eq, Nat.reduceEqDiff, not_false_eq_true, e2, hk, ck, nI_1] at g23
                      try simp only [zwr_rne, zwr_req, upd_ne, upd_eq, ne_eq, Nat.reduceEqDiff, not_false_eq_true, e2, hk, ck, nI_1] at g23'
                      try omega
                      all_goals
                       try simp only [one_ne, zero_eq, if_false, if_true, or_true, true_or, or_false, false_or]
                       try simp only [zwr_rne, zwr_req, upd_ne, upd_eq, ne_eq, Nat.reduceEqDiff, not_false_eq_true, e2, hk, ck, nI_1]
                       refine zeq (fun g24 => ?_) (fun g24 => ?_)
                       · try simp only [zwr_rne, zwr_req, upd_ne, upd_eq, ne_eq, Nat.reduceEqDiff, not_false_eq_true, e2, hk, ck, nI_1] at g24
                         try omega
                         all_goals
                          try simp only [zwr_rne, zwr_req, upd_ne, upd_eq, ne_eq, Nat.reduceEqDiff, not_false_eq_true, e2, hk, ck, nI_1]
                          exact ⟨by first | rfl | trivial, hh⟩
                       · try simp only [zwr_rne, zwr_req, upd_ne, upd_eq, ne_eq, Nat.reduceEqDiff, not_false_eq_true, e2, hk, ck, nI_1] at g24
                         try omega
                         all_goals
                          try simp only [zwr_rne, zwr_req, upd_ne, upd_eq, ne_eq, Nat.reduceEqDiff, not_false_eq_true, e2, hk, ck, nI_1]
                          refine ⟨by first | assumption | exact vin (by omega) | exact vp_in_I.mpr (by omega), ?_⟩
                          rintro _ rfl
                          try simp only [zwr_rne, zwr_req, upd_ne, upd_eq, ne_eq, Nat.reduceEqDiff, not_false_eq_true, e2, hk, ck, nI_1]
                          refine ⟨by first | assumption | exact vin (by omega) | exact vp_in_I.mpr (by omega), ?_⟩
                          rintro _ rfl
                          try simp only [zwr_rne, zwr_req, upd_ne, upd_eq, ne_eq, Nat.reduceEqDiff, not_false_eq_true, e2, hk, ck, nI_1]
                          refine ⟨by first | assumption | exact vin (by omega) | exact vp_in_I.mpr (by omega), ?_⟩
                          rintro _ rfl
                          try simp only [zwr_rne, zwr_req, upd_ne, upd_eq, ne_eq, Nat.reduceEqDiff, not_false_eq_true, e2, hk, ck, nI_1]
                          refine ⟨by first | assumption | exact vin (by omega) | exact vp_in_I.mpr (by omega), ?_⟩
                          rintro _ rfl
                          try simp only [zwr_rne, zwr_req, upd_ne, upd_eq, ne_eq, Nat.reduceEqDiff, not_false_eq_true, e2, hk, ck, nI_1]
                          refine ⟨by first | assumption | exact vin (by omega) | exact vp_in_I.mpr (by omega), ?_⟩
                          rintro _ rfl
                          try simp only [zwr_rne, zwr_req, upd_ne, upd_eq, ne_eq, Nat.reduceEqDiff, not_false_eq_true, e2, hk, ck, nI_1]
                          rintro _ rfl
                          try simp only [zwr_rne, zwr_req, upd_ne, upd_eq, ne_eq, Nat.reduceEqDiff, not_false_eq_true, e2, hk, ck, nI_1]
                          refine ⟨by first | rfl | trivial | (rw [nI_pred]), ?_⟩
                          unfold Rall
                          simp only [zwr_rne, zwr_req, upd_ne, upd_eq, ne_eq, Nat.reduceEqDiff, not_false_eq_true]
                          exact ⟨⟨k1, Rcnt.k (by omega) (by omega), k3, k4, k5, k6, k7, k8, k9⟩, Ras.push (by omega) kas' (by omega) (by omega) (by omega) (by omega) (by omega) (by omega) (by omega) (by omega), kcl, kda, kdh, kpl, kkp, ksh, kwt, ktp, klw, ksd, Rwx_stale, Rwx_stale⟩
                    · try simp only [zwr_rne, zwr_req, upd_ne, upd_eq, ne_eq, Nat.reduceEqDiff, not_false_eq_true, e2, hk, ck, nI_1] at g23
                      try omega
                      all_goals
                       try simp only [one_ne, zero_eq, if_false, if_true, or_true, true_or, or_false, false_or]
                       try simp only [zwr_rne, zwr_req, upd_ne, upd_eq, ne_eq, Nat.reduceEqDiff, not_false_eq_true, e2, hk, ck, nI_1]
                       exact ⟨by first | rfl | trivial, hh⟩
                 · try simp only [zwr_rne, zwr_req, upd_ne, upd_eq, ne_eq, Nat.reduceEqDiff, not_false_eq_true, e2, hk, ck, nI_1] at g22
                   try omega
                   all_goals
                    try simp only [one_ne, zero_eq, if_false, if_true, or_true, true_or, or_false, false_or]
                    try simp only [zwr_rne, zwr_req, upd_ne, upd_eq, ne_eq, Nat.reduceEqDiff, not_false_eq_true, e2, hk, ck, nI_1]
                    exact ⟨by first | rfl | trivial, hh⟩
              · try simp only [zwr_rne, zwr_req, upd_ne, upd_eq, ne_eq, Nat.reduceEqDiff, not_false_eq_true, e2, hk, ck, nI_1] at g21
                try omega
                all_goals
                 try simp only [one_ne, zero_eq, if_false, if_true, or_true, true_or, or_false, false_or]
                 try simp only [zwr_rne, zwr_req, upd_ne, upd_eq, ne_eq, Nat.reduceEqDiff, not_false_eq_true, e2, hk, ck, nI_1]
                 exact ⟨by first | rfl | trivial, hh⟩
           · exfalso; (try simp only [zwr_rne, zwr_req, upd_ne, upd_eq, ne_eq, Nat.reduceEqDiff, not_false_eq_true, e2, hk, ck, nI_1] at g20); omega
     · try simp only [zwr_rne, zwr_req, upd_ne, upd_eq, ne_eq, Nat.reduceEqDiff, not_false_eq_true, e2, hk, ck, nI_1] at g2
       try omega
       all_goals
        try simp only [one_ne, zero_eq, if_false, if_true, or_true, true_or, or_false, false_or]
        refine en_X12_asset ?_
        try simp only [zwr_rne, zwr_req, upd_ne, upd_eq, ne_eq, Nat.reduceEqDiff, not_false_eq_true, e2, hk, ck, nI_1]
        refine m_isFirm (by first | omega | (simp only [zwr_rne, zwr_req, upd_ne, upd_eq, ne_eq, Nat.reduceEqDiff, not_false_eq_true, e2, hk, ck, nI_1]; omega)) (fun g25 g25' => ?_) (fun g25 => ?_)
        · try simp only [zwr_rne, zwr_req, upd_ne, upd_eq, ne_eq, Nat.reduceEqDiff, not_false_eq_true, e2, hk, ck, nI_1] at g25
          try simp only [zwr_rne, zwr_req, upd_ne, upd_eq, ne_eq, Nat.reduceEqDiff, not_false_eq_true, e2, hk, ck, nI_1] at g25'
          try omega
          all_goals
           try simp only [one_ne, zero_eq, if_false, if_true, or_true, true_or, or_false, false_or]
           try simp only [zwr_rne, zwr_req, upd_ne, upd_eq, ne_eq, Nat.reduceEqDiff, not_false_eq_true, e2, hk, ck, nI_1]
           refine m_isIn (fun g26 g26' => ?_) (fun g26 => ?_)
           · try simp only [zwr_rne, zwr_req, upd_ne, upd_eq, ne_eq, Nat.reduceEqDiff, not_false_eq_true, e2, hk, ck, nI_1] at g26
             try simp only [zwr_rne, zwr_req, upd_ne, upd_eq, ne_eq, Nat.reduceEqDiff, not_false_eq_true, e2, hk, ck, nI_1] at g26'
             try omega
             all_goals
              try simp only [one_ne, zero_eq, if_false, if_true, or_true, true_or, or_false, false_or]
              try simp only [zwr_rne, zwr_req, upd_ne, upd_eq, ne_eq, Nat.reduceEqDiff, not_false_eq_true, e2, hk, ck, nI_1]
              refine m_isIn (fun g27 g27' => ?_) (fun g27 => ?_)
              · try simp only [zwr_rne, zwr_req, upd_ne, upd_eq, ne_eq, Nat.reduceEqDiff, not_false_eq_true, e2, hk, ck, nI_1] at g27
                try simp only [zwr_rne, zwr_req, upd_ne, upd_eq, ne_eq, Nat.reduceEqDiff, not_false_eq_true, e2, hk, ck, nI_1] at g27'
                try omega
                all_goals
                 try simp only [one_ne, zero_eq, if_false, if_true, or_true, true_or, or_false, false_or]
                 try simp only [zwr_rne, zwr_req, upd_ne, upd_eq, ne_eq, Nat.reduceEqDiff, not_false_eq_true, e2, hk, ck, nI_1]
                 refine m_isIn (fun g28 g28' => ?_) (fun g28 => ?_)
                 · try simp only [zwr_rne, zwr_req, upd_ne, upd_eq, ne_eq, Nat.reduceEqDiff, not_false_eq_true, e2, hk, ck, nI_1] at g28
                   try simp only [zwr_rne, zwr_req, upd_ne, upd_eq, ne_eq, Nat.reduceEqDiff, not_false_eq_true, e2, hk, ck, nI_1] at g28'
                   try omega
                   all_goals
                    try simp only [one_ne, zero_eq, if_false, if_true, or_true, true_or, or_false, false_or]
                    try simp only [zwr_rne, zwr_req, upd_ne, upd_eq, ne_eq, Nat.reduceEqDiff, not_false_eq_true, e2, hk, ck, nI_1]
                    refine zeq (fun g29 => ?_) (fun g29 => ?_)
                    · try simp only [zwr_rne, zwr_req, upd_ne, upd_eq, ne_eq, Nat.reduceEqDiff, not_false_eq_true, e2, hk, ck, nI_1] at g29
                      try omega
                      all_goals
                       try simp only [zwr_rne, zwr_req, upd_ne, upd_eq, ne_eq, Nat.reduceEqDiff, not_false_eq_true, e2, hk, ck, nI_1]
                       exact ⟨by first | rfl | trivial, hh⟩
                    · try simp only [zwr_rne, zwr_req, upd_ne, upd_eq, ne_eq, Nat.reduceEqDiff, not_false_eq_true, e2, hk, ck, nI_1] at g29
                      try omega
                      all_goals
                       try simp only [zwr_rne, zwr_req, upd_ne, upd_eq, ne_eq, Nat.reduceEqDiff, not_false_eq_true, e2, hk, ck, nI_1]
                       refine ⟨by first | assumption | exact vin (by omega) | exact vp_in_I.mpr (by omega), ?_⟩
                       rintro _ rfl
                       try simp only [zwr_rne, zwr_req, upd_ne, upd_eq, ne_eq, Nat.reduceEqDiff, not_false_eq_true, e2, hk, ck, nI_1]
                       refine ⟨by first | assumption | exact vin (by omega) | exact vp_in_I.mpr (by omega), ?_⟩
                       rintro _ rfl
                       try simp only [zwr_rne, zwr_req, upd_ne, upd_eq, ne_eq, Nat.reduceEqDiff, not_false_eq_true, e2, hk, ck, nI_1]
                       refine ⟨by first | assumption | exact vin (by omega) | exact vp_in_I.mpr (by omega), ?_⟩
                       rintro _ rfl
                       try simp only [zwr_rne, zwr_req, upd_ne, upd_eq, ne_eq, Nat.reduceEqDiff, not_false_eq_true, e2, hk, ck, nI_1]
                       refine ⟨by first | assumption | exact vin (by omega) | exact vp_in_I.mpr (by omega), ?_⟩
                       rintro _ rfl
                       try simp only [zwr_rne, zwr_req, upd_ne, upd_eq, ne_eq, Nat.reduceEqDiff, not_false_eq_true, e2, hk, ck, nI_1]
                       refine ⟨by first | assumption | exact vin (by omega) | exact vp_in_I.mpr (by omega), ?_⟩
                       rintro _ rfl
                       try simp only [zwr_rne, zwr_req, upd_ne, upd_eq, ne_eq, Nat.reduceEqDiff, not_false_eq_true, e2, hk, ck, nI_1]
                       rintro _ rfl
                       try simp only [zwr_rne, zwr_req, upd_ne, upd_eq, ne_eq, Nat.reduceEqDiff, not_false_eq_true, e2, hk, ck, nI_1]
                       refine ⟨by first | rfl | trivial | (rw [nI_pred]), ?_⟩
                       unfold Rall
                       simp only [zwr_rne, zwr_req, upd_ne, upd_eq, ne_eq, Nat.reduceEqDiff, not_false_eq_true]
                       exact ⟨⟨k1, Rcnt.k (by omega) (by omega), k3, k4, k5, k6, k7, k8, k9⟩, Ras.push (by omega) kas' (by omega) (by omega) (by omega) (by omega) (by omega) (by omega) (by omega) (by omega), kcl, kda, kdh, kpl, kkp, ksh, kwt, ktp, klw, ksd, Rwx_stale, Rwx_stale⟩
                 · try simp only [zwr_rne, zwr_req, upd_ne, upd_eq, ne_eq, Nat.reduceEqDiff, not_false_eq_true, e2, hk, ck, nI_1] at g28
                   try omega
                   all_goals
                    try simp only [one_ne, zero_eq, if_false, if_true, or_true, true_or, or_false, false_or]
                    try simp only [zwr_rne, zwr_req, upd_ne, upd_eq, ne_eq, Nat.reduceEqDiff, not_false_eq_true, e2, hk, ck, nI_1]
                    exact ⟨by first | rfl | trivial, hh⟩
              · try simp only [zwr_rne, zwr_req, upd_ne, upd_eq, ne_eq, Nat.reduceEqDiff, not_false_eq_true, e2, hk, ck, nI_1] at g27
                try omega
                all_goals
                 try simp only [one_ne, zero_eq, if_false, if_true, or_true, true_or, or_false, false_or]
                 try simp only [zwr_rne, zwr_req, upd_ne, upd_eq, ne_eq, Nat.reduceEqDiff, not_false_eq_true, e2, hk, ck, nI_1]
                 exact ⟨by first | rfl | trivial, hh⟩
           · try simp only [zwr_rne, zwr_req, upd_ne, upd_eq, ne_eq, Nat.reduceEqDiff, not_false_eq_true, e2, hk, ck, nI_1] at g26
             try omega
             all_goals
              try simp only [one_ne, zero_eq, if_false, if_true, or_true, true_or, or_false, false_or]
              try simp only [zwr_rne, zwr_req, upd_ne, upd_eq, ne_eq, Nat.reduceEqDiff, not_false_eq_true, e2, hk, ck, nI_1]
              exact ⟨by first | rfl | trivial, hh⟩
        · exfalso; (try simp only [zwr_rne, zwr_req, upd_ne, upd_eq, ne_eq, Nat.reduceEqDiff, not_false_eq_true, e2, hk, ck, nI_1] at g25); omega
  · try simp only [zwr_rne, zwr_req, upd_ne, upd_eq, ne_eq, Nat.reduceEqDiff, not_false_eq_true, e2, hk, ck, nI_1] at g1
    try omega
    all_goals
     try simp only [one_ne, zero_eq, if_false, if_true, or_true, true_or, or_false, false_or]
     refine en_X12_asset ?_
     try simp only [zwr_rne, zwr_req, upd_ne, upd_eq, ne_eq, Nat.reduceEqDiff, not_false_eq_true, e2, hk, ck, nI_1]
     refine m_isFirm (by first | omega | (simp only [zwr_rne, zwr_req, upd_ne, upd_eq, ne_eq, Nat.reduceEqDiff, not_false_eq_true, e2, hk, ck, nI_1]; omega)) (fun g30 g30' => ?_) (fun g30 => ?_)
     · exfalso; (try simp only [zwr_rne, zwr_req, upd_ne, upd_eq, ne_eq, Nat.reduceEqDiff, not_false_eq_true, e2, hk, ck, nI_1] at g30); (try simp only [zwr_rne, zwr_req, upd_ne, upd_eq, ne_eq, Nat.reduceEqDiff, not_false_eq_true, e2, hk, ck, nI_1] at g30'); omega
     · try simp only [zwr_rne, zwr_req, upd_ne, upd_eq, ne_eq, Nat.reduceEqDiff, not_false_eq_true, e2, hk, ck, nI_1] at g30
       try omega
       all_goals
        try simp only [one_ne, zero_eq, if_false, if_true, or_true, true_or, or_false, false_or]
        try simp only [zwr_rne, zwr_req, upd_ne, upd_eq, ne_eq, Nat.reduceEqDiff, not_false_eq_true, e2, hk, ck, nI_1]
        exact ⟨by first | rfl | trivial, hh⟩

theorem P_brings {G : zGT} {d : Nat} {v1 v2 : Int32} : Pair G (d + 6) Y_X11_brings Y_X12_brings [.inl v1, .inl v2] := by
  intro σ h
  have hh := h
  obtain ⟨⟨k1, k2, k3, k4, k5, k6, k7, k8, k9⟩, kas, kcl, kda, kdh, kpl, kkp, ksh, kwt, ktp, klw, ksd, kw0, kw1⟩ := h
  obtain ⟨e1, b1, u1⟩ := id k1
  obtain ⟨e2, b2, u2⟩ := id k2
  obtain ⟨e3, b3, u3⟩ := id k3
  obtain ⟨e4, b4, u4⟩ := id k4
  obtain ⟨e5, b5, u5⟩ := id k5
  obtain ⟨e6, b6, u6⟩ := id k6
  obtain ⟨e7, b7, u7⟩ := id k7
  obtain ⟨e8, b8, u8⟩ := id k8
  obtain ⟨e9, b9, u9⟩ := id k9
  have f1 : (σ 0 15).toInt = (σ 72 1).toInt := by rw [e1]
  have f2 : (σ 14 5).toInt = (σ 72 2).toInt := by rw [e2]
  have f3 : (σ 1 6).toInt = (σ 72 8).toInt := by rw [e3]
  have f4 : (σ 0 16).toInt = (σ 72 0).toInt := by rw [e4]
  have f5 : (σ 55 7).toInt = (σ 72 22).toInt := by rw [e5]
  have f6 : (σ 14 6).toInt = (σ 72 23).toInt := by rw [e6]
  have f7 : (σ 0 17).toInt = (σ 72 24).toInt := by rw [e7]
  have f8 : (σ 0 13).toInt = (σ 72 25).toInt := by rw [e8]
  have f9 : (σ 46 1).toInt = (σ 72 28).toInt := by rw [e9]
  have l0 := ti0
  have l1 := ti1
  have l2 := ti2
  have l3 := ti3
  have l4 := ti4
  have l5 := ti5
  have l6 := ti6
  have l8 := ti8
  have l9 := ti9
  have l10 := ti10
  have l16 := ti16
  have l20 := ti20
  have l24 := ti24
  have l31 := ti31
  have l60 := ti60
  have l96 := ti96
  have l100 := ti100
  have l200 := ti200
  have l400 := ti400
  have l600 := ti600
  have l1200 := ti1200
  have l100000 := ti100000
  have lm1 := tim1
  have lB := tiB
  have lN := tiN
  rcases idx_of v1 (σ 72 2) with hb | ⟨a, rfl, ha, ha2⟩
  · refine en_X11_brings ?_
    try simp only [zwr_rne, zwr_req, upd_ne, upd_eq, ne_eq, Nat.reduceEqDiff, not_false_eq_true]
    refine c_hasA (fun g1 g1' => ?_) (fun g1 => ?_)
    · try simp only [zwr_rne, zwr_req, upd_ne, upd_eq, ne_eq, Nat.reduceEqDiff, not_false_eq_true] at g1
      try simp only [zwr_rne, zwr_req, upd_ne, upd_eq, ne_eq, Nat.reduceEqDiff, not_false_eq_true] at g1'
      try omega
      all_goals
       try simp only [one_ne, zero_eq, if_false, if_true, or_true, true_or, or_false, false_or]
       refine c_isSide (fun g2 g2' => ?_) (fun g2 => ?_)
       · try simp only [zwr_rne, zwr_req, upd_ne, upd_eq, ne_eq, Nat.reduceEqDiff, not_false_eq_true] at g2
         try simp only [zwr_rne, zwr_req, upd_ne, upd_eq, ne_eq, Nat.reduceEqDiff, not_false_eq_true] at g2'
         try omega
         all_goals
          try simp only [one_ne, zero_eq, if_false, if_true, or_true, true_or, or_false, false_or]
          exfalso; omega
          try simp only [zwr_rne, zwr_req, upd_ne, upd_eq, ne_eq, Nat.reduceEqDiff, not_false_eq_true]
          refine en_X12_brings ?_
          try simp only [zwr_rne, zwr_req, upd_ne, upd_eq, ne_eq, Nat.reduceEqDiff, not_false_eq_true]
          refine m_isAsset (by first | omega | (simp only [zwr_rne, zwr_req, upd_ne, upd_eq, ne_eq, Nat.reduceEqDiff, not_false_eq_true]; omega)) (fun g3 g3' => ?_) (fun g3 => ?_)
          · try simp only [zwr_rne, zwr_req, upd_ne, upd_eq, ne_eq, Nat.reduceEqDiff, not_false_eq_true] at g3
            try simp only [zwr_rne, zwr_req, upd_ne, upd_eq, ne_eq, Nat.reduceEqDiff, not_false_eq_true] at g3'
            try omega
            all_goals
             try simp only [one_ne, zero_eq, if_false, if_true, or_true, true_or, or_false, false_or]
             try simp only [zwr_rne, zwr_req, upd_ne, upd_eq, ne_eq, Nat.reduceEqDiff, not_false_eq_true]
             refine m_isSide (fun g4 g4' => ?_) (fun g4 => ?_)
             · try simp only [zwr_rne, zwr_req, upd_ne, upd_eq, ne_eq, Nat.reduceEqDiff, not_false_eq_true] at g4
               try simp only [zwr_rne, zwr_req, upd_ne, upd_eq, ne_eq, Nat.reduceEqDiff, not_false_eq_true] at g4'
               try omega
               all_goals
                try simp only [one_ne, zero_eq, if_false, if_true, or_true, true_or, or_false, false_or]
                try simp only [zwr_rne, zwr_req, upd_ne, upd_eq, ne_eq, Nat.reduceEqDiff, not_false_eq_true]
                exfalso; omega
                try simp only [zwr_rne, zwr_req, upd_ne, upd_eq, ne_eq, Nat.reduceEqDiff, not_false_eq_true]
                exact ⟨by first | rfl | trivial, hh⟩
             · exfalso; (try simp only [zwr_rne, zwr_req, upd_ne, upd_eq, ne_eq, Nat.reduceEqDiff, not_false_eq_true] at g4); omega
          · exfalso; (try simp only [zwr_rne, zwr_req, upd_ne, upd_eq, ne_eq, Nat.reduceEqDiff, not_false_eq_true] at g3); omega
       · try simp only [zwr_rne, zwr_req, upd_ne, upd_eq, ne_eq, Nat.reduceEqDiff, not_false_eq_true] at g2
         try omega
         all_goals
          try simp only [one_ne, zero_eq, if_false, if_true, or_true, true_or, or_false, false_or]
          refine en_X12_brings ?_
          try simp only [zwr_rne, zwr_req, upd_ne, upd_eq, ne_eq, Nat.reduceEqDiff, not_false_eq_true]
          refine m_isAsset (by first | omega | (simp only [zwr_rne, zwr_req, upd_ne, upd_eq, ne_eq, Nat.reduceEqDiff, not_false_eq_true]; omega)) (fun g5 g5' => ?_) (fun g5 => ?_)
          · try simp only [zwr_rne, zwr_req, upd_ne, upd_eq, ne_eq, Nat.reduceEqDiff, not_false_eq_true] at g5
            try simp only [zwr_rne, zwr_req, upd_ne, upd_eq, ne_eq, Nat.reduceEqDiff, not_false_eq_true] at g5'
            try omega
            all_goals
             try simp only [one_ne, zero_eq, if_false, if_true, or_true, true_or, or_false, false_or]
             try simp only [zwr_rne, zwr_req, upd_ne, upd_eq, ne_eq, Nat.reduceEqDiff, not_false_eq_true]
             refine m_isSide (fun g6 g6' => ?_) (fun g6 => ?_)
             · exfalso; (try simp only [zwr_rne, zwr_req, upd_ne, upd_eq, ne_eq, Nat.reduceEqDiff, not_false_eq_true] at g6); (try simp only [zwr_rne, zwr_req, upd_ne, upd_eq, ne_eq, Nat.reduceEqDiff, not_false_eq_true] at g6'); omega
             · try simp only [zwr_rne, zwr_req, upd_ne, upd_eq, ne_eq, Nat.reduceEqDiff, not_false_eq_true] at g6
               try omega
               all_goals
                try simp only [one_ne, zero_eq, if_false, if_true, or_true, true_or, or_false, false_or]
                try simp only [zwr_rne, zwr_req, upd_ne, upd_eq, ne_eq, Nat.reduceEqDiff, not_false_eq_true]
                exact ⟨by first | rfl | trivial, hh⟩
          · exfalso; (try simp only [zwr_rne, zwr_req, upd_ne, upd_eq, ne_eq, Nat.reduceEqDiff, not_false_eq_true] at g5); omega
    · try simp only [zwr_rne, zwr_req, upd_ne, upd_eq, ne_eq, Nat.reduceEqDiff, not_false_eq_true] at g1
      try omega
      all_goals
       try simp only [one_ne, zero_eq, if_false, if_true, or_true, true_or, or_false, false_or]
       refine en_X12_brings ?_
       try simp only [zwr_rne, zwr_req, upd_ne, upd_eq, ne_eq, Nat.reduceEqDiff, not_false_eq_true]
       refine m_isAsset (by first | omega | (simp only [zwr_rne, zwr_req, upd_ne, upd_eq, ne_eq, Nat.reduceEqDiff, not_false_eq_true]; omega)) (fun g7 g7' => ?_) (fun g7 => ?_)
       · exfalso; (try simp only [zwr_rne, zwr_req, upd_ne, upd_eq, ne_eq, Nat.reduceEqDiff, not_false_eq_true] at g7); (try simp only [zwr_rne, zwr_req, upd_ne, upd_eq, ne_eq, Nat.reduceEqDiff, not_false_eq_true] at g7'); omega
       · try simp only [zwr_rne, zwr_req, upd_ne, upd_eq, ne_eq, Nat.reduceEqDiff, not_false_eq_true] at g7
         try omega
         all_goals
          try simp only [one_ne, zero_eq, if_false, if_true, or_true, true_or, or_false, false_or]
          try simp only [zwr_rne, zwr_req, upd_ne, upd_eq, ne_eq, Nat.reduceEqDiff, not_false_eq_true]
          exact ⟨by first | rfl | trivial, hh⟩
  · have ta := tin ha2
    have ca : (nI a).toNatClampNeg = a := cln ha2
    have va : vp_in (nI a) 16 := vin (by omega)
    obtain ⟨s1, s2, s3, s4, s5, s6, s7, s8, s9, s10, s11, s12, s13, s14, s15⟩ := kas a ha
    have fs1 : (σ 15 a).toInt = (σ 73 a).toInt := by rw [s1]
    refine en_X11_brings ?_
    try simp only [zwr_rne, zwr_req, upd_ne, upd_eq, ne_eq, Nat.reduceEqDiff, not_false_eq_true, ca]
    refine c_hasA (fun g1 g1' => ?_) (fun g1 => ?_)
    · try simp only [zwr_rne, zwr_req, upd_ne, upd_eq, ne_eq, Nat.reduceEqDiff, not_false_eq_true, ca] at g1
      try simp only [zwr_rne, zwr_req, upd_ne, upd_eq, ne_eq, Nat.reduceEqDiff, not_false_eq_true, ca] at g1'
      try omega
      all_goals
       try simp only [one_ne, zero_eq, if_false, if_true, or_true, true_or, or_false, false_or]
       refine c_isSide (fun g2 g2' => ?_) (fun g2 => ?_)
       · try simp only [zwr_rne, zwr_req, upd_ne, upd_eq, ne_eq, Nat.reduceEqDiff, not_false_eq_true, ca] at g2
         try simp only [zwr_rne, zwr_req, upd_ne, upd_eq, ne_eq, Nat.reduceEqDiff, not_false_eq_true, ca] at g2'
         try omega
         all_goals
          try simp only [one_ne, zero_eq, if_false, if_true, or_true, true_or, or_false, false_or]
          refine en_X0_proceeds ?_
          try simp only [zwr_rne, zwr_req, upd_ne, upd_eq, ne_eq, Nat.reduceEqDiff, not_false_eq_true, ca]
          refine zeq (fun g3 => ?_) (fun g3 => ?_)
          · try simp only [zwr_rne, zwr_req, upd_ne, upd_eq, ne_eq, Nat.reduceEqDiff, not_false_eq_true, ca] at g3
            try omega
            all_goals
             refine ⟨by first | assumption | exact vin (by omega) | exact vp_in_I.mpr (by omega), ?_⟩
             refine ⟨by first | assumption | exact vin (by omega) | exact vp_in_I.mpr (by omega), ?_⟩
             refine ⟨by first | decide | (rw [fa_eq]; omega), ?_⟩
             try simp only [zwr_rne, zwr_req, upd_ne, upd_eq, ne_eq, Nat.reduceEqDiff, not_false_eq_true, ca]
             refine en_X12_brings ?_
             try simp only [zwr_rne, zwr_req, upd_ne, upd_eq, ne_eq, Nat.reduceEqDiff, not_false_eq_true, ca]
             refine m_isAsset (by first | omega | (simp only [zwr_rne, zwr_req, upd_ne, upd_eq, ne_eq, Nat.reduceEqDiff, not_false_eq_true, ca]; omega)) (fun g4 g4' => ?_) (fun g4 => ?_)
             · try simp only [zwr_rne, zwr_req, upd_ne, upd_eq, ne_eq, Nat.reduceEqDiff, not_false_eq_true, ca] at g4
               try simp only [zwr_rne, zwr_req, upd_ne, upd_eq, ne_eq, Nat.reduceEqDiff, not_false_eq_true, ca] at g4'
               try omega
               all_goals
                try simp only [one_ne, zero_eq, if_false, if_true, or_true, true_or, or_false, false_or]
                try simp only [zwr_rne, zwr_req, upd_ne, upd_eq, ne_eq, Nat.reduceEqDiff, not_false_eq_true, ca]
                refine m_isSide (fun g5 g5' => ?_) (fun g5 => ?_)
                · try simp only [zwr_rne, zwr_req, upd_ne, upd_eq, ne_eq, Nat.reduceEqDiff, not_false_eq_true, ca] at g5
                  try simp only [zwr_rne, zwr_req, upd_ne, upd_eq, ne_eq, Nat.reduceEqDiff, not_false_eq_true, ca] at g5'
                  try omega
                  all_goals
                   try simp only [one_ne, zero_eq, if_false, if_true, or_true, true_or, or_false, false_or]
                   try simp only [zwr_rne, zwr_req, upd_ne, upd_eq, ne_eq, Nat.reduceEqDiff, not_false_eq_true, ca]
                   refine en_X12_bringsOf ?_
                   try simp only [zwr_rne, zwr_req, upd_ne, upd_eq, ne_eq, Nat.reduceEqDiff, not_false_eq_true, ca]
                   refine zeq (fun g6 => ?_) (fun g6 => ?_)
                   · try simp only [zwr_rne, zwr_req, upd_ne, upd_eq, ne_eq, Nat.reduceEqDiff, not_false_eq_true, ca] at g6
                     try omega
                     all_goals
                      try simp only [zwr_rne, zwr_req, upd_ne, upd_eq, ne_eq, Nat.reduceEqDiff, not_false_eq_true, ca]
                      refine ⟨by first | assumption | exact vin (by omega) | exact vp_in_I.mpr (by omega), ?_⟩
                      refine ⟨by first | assumption | exact vin (by omega) | exact vp_in_I.mpr (by omega), ?_⟩
                      refine ⟨by first | decide | (rw [fa_eq]; omega), ?_⟩
                      try simp only [zwr_rne, zwr_req, upd_ne, upd_eq, ne_eq, Nat.reduceEqDiff, not_false_eq_true, ca]
                      first | exact ⟨by rw [s2, s4, e6, Int32.mul_assoc], hh⟩ | exact ⟨by rw [s3, s4, e6, Int32.mul_assoc], hh⟩
                   · exfalso; (try simp only [zwr_rne, zwr_req, upd_ne, upd_eq, ne_eq, Nat.reduceEqDiff, not_false_eq_true, ca] at g6); omega
                · exfalso; (try simp only [zwr_rne, zwr_req, upd_ne, upd_eq, ne_eq, Nat.reduceEqDiff, not_false_eq_true, ca] at g5); omega
             · exfalso; (try simp only [zwr_rne, zwr_req, upd_ne, upd_eq, ne_eq, Nat.reduceEqDiff, not_false_eq_true, ca] at g4); omega
          · try simp only [zwr_rne, zwr_req, upd_ne, upd_eq, ne_eq, Nat.reduceEqDiff, not_false_eq_true, ca] at g3
            try omega
            all_goals
             refine ⟨by first | assumption | exact vin (by omega) | exact vp_in_I.mpr (by omega), ?_⟩
             refine ⟨by first | assumption | exact vin (by omega) | exact vp_in_I.mpr (by omega), ?_⟩
             refine ⟨by first | decide | (rw [fa_eq]; omega), ?_⟩
             try simp only [zwr_rne, zwr_req, upd_ne, upd_eq, ne_eq, Nat.reduceEqDiff, not_false_eq_true, ca]
             refine en_X12_brings ?_
             try simp only [zwr_rne, zwr_req, upd_ne, upd_eq, ne_eq, Nat.reduceEqDiff, not_false_eq_true, ca]
             refine m_isAsset (by first | omega | (simp only [zwr_rne, zwr_req, upd_ne, upd_eq, ne_eq, Nat.reduceEqDiff, not_false_eq_true, ca]; omega)) (fun g7 g7' => ?_) (fun g7 => ?_)
             · try simp only [zwr_rne, zwr_req, upd_ne, upd_eq, ne_eq, Nat.reduceEqDiff, not_false_eq_true, ca] at g7
               try simp only [zwr_rne, zwr_req, upd_ne, upd_eq, ne_eq, Nat.reduceEqDiff, not_false_eq_true, ca] at g7'
               try omega
               all_goals
                try simp only [one_ne, zero_eq, if_false, if_true, or_true, true_or, or_false, false_or]
                try simp only [zwr_rne, zwr_req, upd_ne, upd_eq, ne_eq, Nat.reduceEqDiff, not_false_eq_true, ca]
                refine m_isSide (fun g8 g8' => ?_) (fun g8 => ?_)
                · try simp only [zwr_rne, zwr_req, upd_ne, upd_eq, ne_eq, Nat.reduceEqDiff, not_false_eq_true, ca] at g8
                  try simp only [zwr_rne, zwr_req, upd_ne, upd_eq, ne_eq, Nat.reduceEqDiff, not_false_eq_true, ca] at g8'
                  try omega
                  all_goals
                   try simp only [one_ne, zero_eq, if_false, if_true, or_true, true_or, or_false, false_or]
                   try simp only [zwr_rne, zwr_req, upd_ne, upd_eq, ne_eq, Nat.reduceEqDiff, not_false_eq_true, ca]
                   refine en_X12_bringsOf ?_
                   try simp only [zwr_rne, zwr_req, upd_ne, upd_eq, ne_eq, Nat.reduceEqDiff, not_false_eq_true, ca]
                   refine zeq (fun g9 => ?_) (fun g9 => ?_)
                   · exfalso; (try simp only [zwr_rne, zwr_req, upd_ne, upd_eq, ne_eq, Nat.reduceEqDiff, not_false_eq_true, ca] at g9); omega
                   · try simp only [zwr_rne, zwr_req, upd_ne, upd_eq, ne_eq, Nat.reduceEqDiff, not_false_eq_true, ca] at g9
                     try omega
                     all_goals
                      try simp only [zwr_rne, zwr_req, upd_ne, upd_eq, ne_eq, Nat.reduceEqDiff, not_false_eq_true, ca]
                      refine ⟨by first | assumption | exact vin (by omega) | exact vp_in_I.mpr (by omega), ?_⟩
                      refine ⟨by first | assumption | exact vin (by omega) | exact vp_in_I.mpr (by omega), ?_⟩
                      refine ⟨by first | decide | (rw [fa_eq]; omega), ?_⟩
                      try simp only [zwr_rne, zwr_req, upd_ne, upd_eq, ne_eq, Nat.reduceEqDiff, not_false_eq_true, ca]
                      first | exact ⟨by rw [s2, s4, e6, Int32.mul_assoc], hh⟩ | exact ⟨by rw [s3, s4, e6, Int32.mul_assoc], hh⟩
                · exfalso; (try simp only [zwr_rne, zwr_req, upd_ne, upd_eq, ne_eq, Nat.reduceEqDiff, not_false_eq_true, ca] at g8); omega
             · exfalso; (try simp only [zwr_rne, zwr_req, upd_ne, upd_eq, ne_eq, Nat.reduceEqDiff, not_false_eq_true, ca] at g7); omega
       · try simp only [zwr_rne, zwr_req, upd_ne, upd_eq, ne_eq, Nat.reduceEqDiff, not_false_eq_true, ca] at g2
         try omega
         all_goals
          try simp only [one_ne, zero_eq, if_false, if_true, or_true, true_or, or_false, false_or]
          refine en_X12_brings ?_
          try simp only [zwr_rne, zwr_req, upd_ne, upd_eq, ne_eq, Nat.reduceEqDiff, not_false_eq_true, ca]
          refine m_isAsset (by first | omega | (simp only [zwr_rne, zwr_req, upd_ne, upd_eq, ne_eq, Nat.reduceEqDiff, not_false_eq_true, ca]; omega)) (fun g10 g10' => ?_) (fun g10 => ?_)
          · try simp only [zwr_rne, zwr_req, upd_ne, upd_eq, ne_eq, Nat.reduceEqDiff, not_false_eq_true, ca] at g10
            try simp only [zwr_rne, zwr_req, upd_ne, upd_eq, ne_eq, Nat.reduceEqDiff, not_false_eq_true, ca] at g10'
            try omega
            all_goals
             try simp only [one_ne, zero_eq, if_false, if_true, or_true, true_or, or_false, false_or]
             try simp only [zwr_rne, zwr_req, upd_ne, upd_eq, ne_eq, Nat.reduceEqDiff, not_false_eq_true, ca]
             refine m_isSide (fun g11 g11' => ?_) (fun g11 => ?_)
             · exfalso; (try simp only [zwr_rne, zwr_req, upd_ne, upd_eq, ne_eq, Nat.reduceEqDiff, not_false_eq_true, ca] at g11); (try simp only [zwr_rne, zwr_req, upd_ne, upd_eq, ne_eq, Nat.reduceEqDiff, not_false_eq_true, ca] at g11'); omega
             · try simp only [zwr_rne, zwr_req, upd_ne, upd_eq, ne_eq, Nat.reduceEqDiff, not_false_eq_true, ca] at g11
               try omega
               all_goals
                try simp only [one_ne, zero_eq, if_false, if_true, or_true, true_or, or_false, false_or]
                try simp only [zwr_rne, zwr_req, upd_ne, upd_eq, ne_eq, Nat.reduceEqDiff, not_false_eq_true, ca]
                exact ⟨by first | rfl | trivial, hh⟩
          · exfalso; (try simp only [zwr_rne, zwr_req, upd_ne, upd_eq, ne_eq, Nat.reduceEqDiff, not_false_eq_true, ca] at g10); omega
    · try simp only [zwr_rne, zwr_req, upd_ne, upd_eq, ne_eq, Nat.reduceEqDiff, not_false_eq_true, ca] at g1
      try omega
      all_goals
       try simp only [one_ne, zero_eq, if_false, if_true, or_true, true_or, or_false, false_or]
       refine en_X12_brings ?_
       try simp only [zwr_rne, zwr_req, upd_ne, upd_eq, ne_eq, Nat.reduceEqDiff, not_false_eq_true, ca]
       refine m_isAsset (by first | omega | (simp only [zwr_rne, zwr_req, upd_ne, upd_eq, ne_eq, Nat.reduceEqDiff, not_false_eq_true, ca]; omega)) (fun g12 g12' => ?_) (fun g12 => ?_)
       · exfalso; (try simp only [zwr_rne, zwr_req, upd_ne, upd_eq, ne_eq, Nat.reduceEqDiff, not_false_eq_true, ca] at g12); (try simp only [zwr_rne, zwr_req, upd_ne, upd_eq, ne_eq, Nat.reduceEqDiff, not_false_eq_true, ca] at g12'); omega
       · try simp only [zwr_rne, zwr_req, upd_ne, upd_eq, ne_eq, Nat.reduceEqDiff, not_false_eq_true, ca] at g12
         try omega
         all_goals
          try simp only [one_ne, zero_eq, if_false, if_true, or_true, true_or, or_false, false_or]
          try simp only [zwr_rne, zwr_req, upd_ne, upd_eq, ne_eq, Nat.reduceEqDiff, not_false_eq_true, ca]
          exact ⟨by first | rfl | trivial, hh⟩

theorem P_charge {G : zGT} {d : Nat} {v1 v2 : Int32} : Pair G (d + 6) Y_X11_charge Y_X12_charge [.inl v1, .inl v2] := by
  intro σ h
  have hh := h
  obtain ⟨⟨k1, k2, k3, k4, k5, k6, k7, k8, k9⟩, kas, kcl, kda, kdh, kpl, kkp, ksh, kwt, ktp, klw, ksd, kw0, kw1⟩ := h
  obtain ⟨e1, b1, u1⟩ := id k1
  obtain ⟨e2, b2, u2⟩ := id k2
  obtain ⟨e3, b3, u3⟩ := id k3
  obtain ⟨e4, b4, u4⟩ := id k4
  obtain ⟨e5, b5, u5⟩ := id k5
  obtain ⟨e6, b6, u6⟩ := id k6
  obtain ⟨e7, b7, u7⟩ := id k7
  obtain ⟨e8, b8, u8⟩ := id k8
  obtain ⟨e9, b9, u9⟩ := id k9
  have f1 : (σ 0 15).toInt = (σ 72 1).toInt := by rw [e1]
  have f2 : (σ 14 5).toInt = (σ 72 2).toInt := by rw [e2]
  have f3 : (σ 1 6).toInt = (σ 72 8).toInt := by rw [e3]
  have f4 : (σ 0 16).toInt = (σ 72 0).toInt := by rw [e4]
  have f5 : (σ 55 7).toInt = (σ 72 22).toInt := by rw [e5]
  have f6 : (σ 14 6).toInt = (σ 72 23).toInt := by rw [e6]
  have f7 : (σ 0 17).toInt = (σ 72 24).toInt := by rw [e7]
  have f8 : (σ 0 13).toInt = (σ 72 25).toInt := by rw [e8]
  have f9 : (σ 46 1).toInt = (σ 72 28).toInt := by rw [e9]
  have l0 := ti0
  have l1 := ti1
  have l2 := ti2
  have l3 := ti3
  have l4 := ti4
  have l5 := ti5
  have l6 := ti6
  have l8 := ti8
  have l9 := ti9
  have l10 := ti10
  have l16 := ti16
  have l20 := ti20
  have l24 := ti24
  have l31 := ti31
  have l60 := ti60
  have l96 := ti96
  have l100 := ti100
  have l200 := ti200
  have l400 := ti400
  have l600 := ti600
  have l1200 := ti1200
  have l100000 := ti100000
  have lm1 := tim1
  have lB := tiB
  have lN := tiN
  rcases idx_of v1 (σ 72 2) with hb | ⟨a, rfl, ha, ha2⟩
  · refine en_X11_charge ?_
    try simp only [zwr_rne, zwr_req, upd_ne, upd_eq, ne_eq, Nat.reduceEqDiff, not_false_eq_true]
    refine c_hasA (fun g1 g1' => ?_) (fun g1 => ?_)
    · try simp only [zwr_rne, zwr_req, upd_ne, upd_eq, ne_eq, Nat.reduceEqDiff, not_false_eq_true] at g1
      try simp only [zwr_rne, zwr_req, upd_ne, upd_eq, ne_eq, Nat.reduceEqDiff, not_false_eq_true] at g1'
      try omega
      all_goals
       try simp only [one_ne, zero_eq, if_false, if_true, or_true, true_or, or_false, false_or]
       refine zeq (fun g2 => ?_) (fun g2 => ?_)
       · try simp only [zwr_rne, zwr_req, upd_ne, upd_eq, ne_eq, Nat.reduceEqDiff, not_false_eq_true] at g2
         try omega
         all_goals
          refine zeq (fun g3 => ?_) (fun g3 => ?_)
          · try simp only [zwr_rne, zwr_req, upd_ne, upd_eq, ne_eq, Nat.reduceEqDiff, not_false_eq_true] at g3
            try omega
            all_goals
             refine ⟨by first | assumption | exact vin (by omega) | exact vp_in_I.mpr (by omega), ?_⟩
             refine ⟨by first | assumption | exact vin (by omega) | exact vp_in_I.mpr (by omega), ?_⟩
             rintro _ rfl
             try simp only [zwr_rne, zwr_req, upd_ne, upd_eq, ne_eq, Nat.reduceEqDiff, not_false_eq_true]
             refine c_changed ?_
             try simp only [zwr_rne, zwr_req, upd_ne, upd_eq, ne_eq, Nat.reduceEqDiff, not_false_eq_true]
             refine en_X12_charge ?_
             try simp only [zwr_rne, zwr_req, upd_ne, upd_eq, ne_eq, Nat.reduceEqDiff, not_false_eq_true]
             refine m_isAsset (by first | omega | (simp only [zwr_rne, zwr_req, upd_ne, upd_eq, ne_eq, Nat.reduceEqDiff, not_false_eq_true]; omega)) (fun g4 g4' => ?_) (fun g4 => ?_)
             · try simp only [zwr_rne, zwr_req, upd_ne, upd_eq, ne_eq, Nat.reduceEqDiff, not_false_eq_true] at g4
               try simp only [zwr_rne, zwr_req, upd_ne, upd_eq, ne_eq, Nat.reduceEqDiff, not_false_eq_true] at g4'
               try omega
               all_goals
                try simp only [one_ne, zero_eq, if_false, if_true, or_true, true_or, or_false, false_or]
                try simp only [zwr_rne, zwr_req, upd_ne, upd_eq, ne_eq, Nat.reduceEqDiff, not_false_eq_true]
                refine zeq (fun g5 => ?_) (fun g5 => ?_)
                · try simp only [zwr_rne, zwr_req, upd_ne, upd_eq, ne_eq, Nat.reduceEqDiff, not_false_eq_true] at g5
                  try omega
                  all_goals
                   try simp only [zwr_rne, zwr_req, upd_ne, upd_eq, ne_eq, Nat.reduceEqDiff, not_false_eq_true]
                   refine zeq (fun g6 => ?_) (fun g6 => ?_)
                   · try simp only [zwr_rne, zwr_req, upd_ne, upd_eq, ne_eq, Nat.reduceEqDiff, not_false_eq_true] at g6
                     try omega
                     all_goals
                      try simp only [zwr_rne, zwr_req, upd_ne, upd_eq, ne_eq, Nat.reduceEqDiff, not_false_eq_true]
                      refine ⟨by first | assumption | exact vin (by omega) | exact vp_in_I.mpr (by omega), ?_⟩
                      refine zeq (fun g7 => ?_) (fun g7 => ?_)
                      · try simp only [zwr_rne, zwr_req, upd_ne, upd_eq, ne_eq, Nat.reduceEqDiff, not_false_eq_true] at g7
                        try omega
                        all_goals
                         try simp only [zwr_rne, zwr_req, upd_ne, upd_eq, ne_eq, Nat.reduceEqDiff, not_false_eq_true]
                         refine ⟨by first | assumption | exact vin (by omega) | exact vp_in_I.mpr (by omega), ?_⟩
                         rintro _ rfl
                         try simp only [zwr_rne, zwr_req, upd_ne, upd_eq, ne_eq, Nat.reduceEqDiff, not_false_eq_true]
                         exfalso; omega
                         try simp only [zwr_rne, zwr_req, upd_ne, upd_eq, ne_eq, Nat.reduceEqDiff, not_false_eq_true]
                         exact ⟨by first | rfl | trivial, hh⟩
                      · exfalso; (try simp only [zwr_rne, zwr_req, upd_ne, upd_eq, ne_eq, Nat.reduceEqDiff, not_false_eq_true] at g7); omega
                   · exfalso; (try simp only [zwr_rne, zwr_req, upd_ne, upd_eq, ne_eq, Nat.reduceEqDiff, not_false_eq_true] at g6); omega
                · exfalso; (try simp only [zwr_rne, zwr_req, upd_ne, upd_eq, ne_eq, Nat.reduceEqDiff, not_false_eq_true] at g5); omega
             · exfalso; (try simp only [zwr_rne, zwr_req, upd_ne, upd_eq, ne_eq, Nat.reduceEqDiff, not_false_eq_true] at g4); omega
          · exfalso; (try simp only [zwr_rne, zwr_req, upd_ne, upd_eq, ne_eq, Nat.reduceEqDiff, not_false_eq_true] at g3); omega
       · try simp only [zwr_rne, zwr_req, upd_ne, upd_eq, ne_eq, Nat.reduceEqDiff, not_false_eq_true] at g2
         try omega
         all_goals
          refine c_hasC (fun g8 g8' => ?_) (fun g8 => ?_)
          · try simp only [zwr_rne, zwr_req, upd_ne, upd_eq, ne_eq, Nat.reduceEqDiff, not_false_eq_true] at g8
            try simp only [zwr_rne, zwr_req, upd_ne, upd_eq, ne_eq, Nat.reduceEqDiff, not_false_eq_true] at g8'
            try omega
            all_goals
             try simp only [one_ne, zero_eq, if_false, if_true, or_true, true_or, or_false, false_or]
             refine zeq (fun g9 => ?_) (fun g9 => ?_)
             · exfalso; (try simp only [zwr_rne, zwr_req, upd_ne, upd_eq, ne_eq, Nat.reduceEqDiff, not_false_eq_true] at g9); omega
             · try simp only [zwr_rne, zwr_req, upd_ne, upd_eq, ne_eq, Nat.reduceEqDiff, not_false_eq_true] at g9
               try omega
               all_goals
                refine ⟨by first | assumption | exact vin (by omega) | exact vp_in_I.mpr (by omega), ?_⟩
                refine zeq (fun g10 => ?_) (fun g10 => ?_)
                · try simp only [zwr_rne, zwr_req, upd_ne, upd_eq, ne_eq, Nat.reduceEqDiff, not_false_eq_true] at g10
                  try omega
                  all_goals
                   refine ⟨by first | assumption | exact vin (by omega) | exact vp_in_I.mpr (by omega), ?_⟩
                   refine ⟨by first | assumption | exact vin (by omega) | exact vp_in_I.mpr (by omega), ?_⟩
                   refine zeq (fun g11 => ?_) (fun g11 => ?_)
                   · try simp only [zwr_rne, zwr_req, upd_ne, upd_eq, ne_eq, Nat.reduceEqDiff, not_false_eq_true] at g11
                     try omega
                     all_goals
                      refine ⟨by first | assumption | exact vin (by omega) | exact vp_in_I.mpr (by omega), ?_⟩
                      refine ⟨by first | assumption | exact vin (by omega) | exact vp_in_I.mpr (by omega), ?_⟩
                      rintro _ rfl
                      try simp only [zwr_rne, zwr_req, upd_ne, upd_eq, ne_eq, Nat.reduceEqDiff, not_false_eq_true]
                      refine c_changed ?_
                      try simp only [zwr_rne, zwr_req, upd_ne, upd_eq, ne_eq, Nat.reduceEqDiff, not_false_eq_true]
                      refine en_X12_charge ?_
                      try simp only [zwr_rne, zwr_req, upd_ne, upd_eq, ne_eq, Nat.reduceEqDiff, not_false_eq_true]
                      refine m_isAsset (by first | omega | (simp only [zwr_rne, zwr_req, upd_ne, upd_eq, ne_eq, Nat.reduceEqDiff, not_false_eq_true]; omega)) (fun g12 g12' => ?_) (fun g12 => ?_)
                      · try simp only [zwr_rne, zwr_req, upd_ne, upd_eq, ne_eq, Nat.reduceEqDiff, not_false_eq_true] at g12
                        try simp only [zwr_rne, zwr_req, upd_ne, upd_eq, ne_eq, Nat.reduceEqDiff, not_false_eq_true] at g12'
                        try omega
                        all_goals
                         try simp only [one_ne, zero_eq, if_false, if_true, or_true, true_or, or_false, false_or]
                         try simp only [zwr_rne, zwr_req, upd_ne, upd_eq, ne_eq, Nat.reduceEqDiff, not_false_eq_true]
                         refine zeq (fun g13 => ?_) (fun g13 => ?_)
                         · exfalso; (try simp only [zwr_rne, zwr_req, upd_ne, upd_eq, ne_eq, Nat.reduceEqDiff, not_false_eq_true] at g13); omega
                         · try simp only [zwr_rne, zwr_req, upd_ne, upd_eq, ne_eq, Nat.reduceEqDiff, not_false_eq_true] at g13
                           try omega
                           all_goals
                            try simp only [zwr_rne, zwr_req, upd_ne, upd_eq, ne_eq, Nat.reduceEqDiff, not_false_eq_true]
                            refine m_isClaim (by first | omega | (simp only [zwr_rne, zwr_req, upd_ne, upd_eq, ne_eq, Nat.reduceEqDiff, not_false_eq_true]; omega)) (fun g14 g14' => ?_) (fun g14 => ?_)
                            · try simp only [zwr_rne, zwr_req, upd_ne, upd_eq, ne_eq, Nat.reduceEqDiff, not_false_eq_true] at g14
                              try simp only [zwr_rne, zwr_req, upd_ne, upd_eq, ne_eq, Nat.reduceEqDiff, not_false_eq_true] at g14'
                              try omega
                              all_goals
                               try simp only [one_ne, zero_eq, if_false, if_true, or_true, true_or, or_false, false_or]
                               try simp only [zwr_rne, zwr_req, upd_ne, upd_eq, ne_eq, Nat.reduceEqDiff, not_false_eq_true]
                               refine zeq (fun g15 => ?_) (fun g15 => ?_)
                               · exfalso; (try simp only [zwr_rne, zwr_req, upd_ne, upd_eq, ne_eq, Nat.reduceEqDiff, not_false_eq_true] at g15); omega
                               · try simp only [zwr_rne, zwr_req, upd_ne, upd_eq, ne_eq, Nat.reduceEqDiff, not_false_eq_true] at g15
                                 try omega
                                 all_goals
                                  try simp only [zwr_rne, zwr_req, upd_ne, upd_eq, ne_eq, Nat.reduceEqDiff, not_false_eq_true]
                                  refine ⟨by first | assumption | exact vin (by omega) | exact vp_in_I.mpr (by omega), ?_⟩
                                  refine zeq (fun g16 => ?_) (fun g16 => ?_)
                                  · try simp only [zwr_rne, zwr_req, upd_ne, upd_eq, ne_eq, Nat.reduceEqDiff, not_false_eq_true] at g16
                                    try omega
                                    all_goals
                                     try simp only [zwr_rne, zwr_req, upd_ne, upd_eq, ne_eq, Nat.reduceEqDiff, not_false_eq_true]
                                     refine ⟨by first | assumption | exact vin (by omega) | exact vp_in_I.mpr (by omega), ?_⟩
                                     refine ⟨by first | assumption | exact vin (by omega) | exact vp_in_I.mpr (by omega), ?_⟩
                                     refine zeq (fun g17 => ?_) (fun g17 => ?_)
                                     · try simp only [zwr_rne, zwr_req, upd_ne, upd_eq, ne_eq, Nat.reduceEqDiff, not_false_eq_true] at g17
                                       try omega
                                       all_goals
                                        try simp only [zwr_rne, zwr_req, upd_ne, upd_eq, ne_eq, Nat.reduceEqDiff, not_false_eq_true]
                                        refine ⟨by first | assumption | exact vin (by omega) | exact vp_in_I.mpr (by omega), ?_⟩
                                        refine zeq (fun g18 => ?_) (fun g18 => ?_)
                                        · exfalso; (try simp only [zwr_rne, zwr_req, upd_ne, upd_eq, ne_eq, Nat.reduceEqDiff, not_false_eq_true] at g18); omega
                                        · try simp only [zwr_rne, zwr_req, upd_ne, upd_eq, ne_eq, Nat.reduceEqDiff, not_false_eq_true] at g18
                                          try omega
                                          all_goals
                                           try simp only [zwr_rne, zwr_req, upd_ne, upd_eq, ne_eq, Nat.reduceEqDiff, not_false_eq_true]
                                           refine ⟨by first | assumption | exact vin (by omega) | exact vp_in_I.mpr (by omega), ?_⟩
                                           rintro _ rfl
                                           try simp only [zwr_rne, zwr_req, upd_ne, upd_eq, ne_eq, Nat.reduceEqDiff, not_false_eq_true]
                                           exfalso; omega
                                           try simp only [zwr_rne, zwr_req, upd_ne, upd_eq, ne_eq, Nat.reduceEqDiff, not_false_eq_true]
                                           exact ⟨by first | rfl | trivial, hh⟩
                                     · exfalso; (try simp only [zwr_rne, zwr_req, upd_ne, upd_eq, ne_eq, Nat.reduceEqDiff, not_false_eq_true] at g17); omega
                                  · exfalso; (try simp only [zwr_rne, zwr_req, upd_ne, upd_eq, ne_eq, Nat.reduceEqDiff, not_false_eq_true] at g16); omega
                            · exfalso; (try simp only [zwr_rne, zwr_req, upd_ne, upd_eq, ne_eq, Nat.reduceEqDiff, not_false_eq_true] at g14); omega
                      · exfalso; (try simp only [zwr_rne, zwr_req, upd_ne, upd_eq, ne_eq, Nat.reduceEqDiff, not_false_eq_true] at g12); omega
                   · try simp only [zwr_rne, zwr_req, upd_ne, upd_eq, ne_eq, Nat.reduceEqDiff, not_false_eq_true] at g11
                     try omega
                     all_goals
                      refine en_X12_charge ?_
                      try simp only [zwr_rne, zwr_req, upd_ne, upd_eq, ne_eq, Nat.reduceEqDiff, not_false_eq_true]
                      refine m_isAsset (by first | omega | (simp only [zwr_rne, zwr_req, upd_ne, upd_eq, ne_eq, Nat.reduceEqDiff, not_false_eq_true]; omega)) (fun g19 g19' => ?_) (fun g19 => ?_)
                      · try simp only [zwr_rne, zwr_req, upd_ne, upd_eq, ne_eq, Nat.reduceEqDiff, not_false_eq_true] at g19
                        try simp only [zwr_rne, zwr_req, upd_ne, upd_eq, ne_eq, Nat.reduceEqDiff, not_false_eq_true] at g19'
                        try omega
                        all_goals
                         try simp only [one_ne, zero_eq, if_false, if_true, or_true, true_or, or_false, false_or]
                         try simp only [zwr_rne, zwr_req, upd_ne, upd_eq, ne_eq, Nat.reduceEqDiff, not_false_eq_true]
                         refine zeq (fun g20 => ?_) (fun g20 => ?_)
                         · exfalso; (try simp only [zwr_rne, zwr_req, upd_ne, upd_eq, ne_eq, Nat.reduceEqDiff, not_false_eq_true] at g20); omega
                         · try simp only [zwr_rne, zwr_req, upd_ne, upd_eq, ne_eq, Nat.reduceEqDiff, not_false_eq_true] at g20
                           try omega
                           all_goals
                            try simp only [zwr_rne, zwr_req, upd_ne, upd_eq, ne_eq, Nat.reduceEqDiff, not_false_eq_true]
                            refine m_isClaim (by first | omega | (simp only [zwr_rne, zwr_req, upd_ne, upd_eq, ne_eq, Nat.reduceEqDiff, not_false_eq_true]; omega)) (fun g21 g21' => ?_) (fun g21 => ?_)
                            · try simp only [zwr_rne, zwr_req, upd_ne, upd_eq, ne_eq, Nat.reduceEqDiff, not_false_eq_true] at g21
                              try simp only [zwr_rne, zwr_req, upd_ne, upd_eq, ne_eq, Nat.reduceEqDiff, not_false_eq_true] at g21'
                              try omega
                              all_goals
                               try simp only [one_ne, zero_eq, if_false, if_true, or_true, true_or, or_false, false_or]
                               try simp only [zwr_rne, zwr_req, upd_ne, upd_eq, ne_eq, Nat.reduceEqDiff, not_false_eq_true]
                               refine zeq (fun g22 => ?_) (fun g22 => ?_)
                               · exfalso; (try simp only [zwr_rne, zwr_req, upd_ne, upd_eq, ne_eq, Nat.reduceEqDiff, not_false_eq_true] at g22); omega
                               · try simp only [zwr_rne, zwr_req, upd_ne, upd_eq, ne_eq, Nat.reduceEqDiff, not_false_eq_true] at g22
                                 try omega
                                 all_goals
                                  try simp only [zwr_rne, zwr_req, upd_ne, upd_eq, ne_eq, Nat.reduceEqDiff, not_false_eq_true]
                                  refine ⟨by first | assumption | exact vin (by omega) | exact vp_in_I.mpr (by omega), ?_⟩
                                  refine zeq (fun g23 => ?_) (fun g23 => ?_)
                                  · try simp only [zwr_rne, zwr_req, upd_ne, upd_eq, ne_eq, Nat.reduceEqDiff, not_false_eq_true] at g23
                                    try omega
                                    all_goals
                                     try simp only [zwr_rne, zwr_req, upd_ne, upd_eq, ne_eq, Nat.reduceEqDiff, not_false_eq_true]
                                     refine ⟨by first | assumption | exact vin (by omega) | exact vp_in_I.mpr (by omega), ?_⟩
                                     refine ⟨by first | assumption | exact vin (by omega) | exact vp_in_I.mpr (by omega), ?_⟩
                                     refine zeq (fun g24 => ?_) (fun g24 => ?_)
                                     · exfalso; (try simp only [zwr_rne, zwr_req, upd_ne, upd_eq, ne_eq, Nat.reduceEqDiff, not_false_eq_true] at g24); omega
                                     · try simp only [zwr_rne, zwr_req, upd_ne, upd_eq, ne_eq, Nat.reduceEqDiff, not_false_eq_true] at g24
                                       try omega
                                       all_goals
                                        try simp only [zwr_rne, zwr_req, upd_ne, upd_eq, ne_eq, Nat.reduceEqDiff, not_false_eq_true]
                                        exact ⟨by first | rfl | trivial, hh⟩
                                  · exfalso; (try simp only [zwr_rne, zwr_req, upd_ne, upd_eq, ne_eq, Nat.reduceEqDiff, not_false_eq_true] at g23); omega
                            · exfalso; (try simp only [zwr_rne, zwr_req, upd_ne, upd_eq, ne_eq, Nat.reduceEqDiff, not_false_eq_true] at g21); omega
                      · exfalso; (try simp only [zwr_rne, zwr_req, upd_ne, upd_eq, ne_eq, Nat.reduceEqDiff, not_false_eq_true] at g19); omega
                · try simp only [zwr_rne, zwr_req, upd_ne, upd_eq, ne_eq, Nat.reduceEqDiff, not_false_eq_true] at g10
                  try omega
                  all_goals
                   refine en_X12_charge ?_
                   try simp only [zwr_rne, zwr_req, upd_ne, upd_eq, ne_eq, Nat.reduceEqDiff, not_false_eq_true]
                   refine m_isAsset (by first | omega | (simp only [zwr_rne, zwr_req, upd_ne, upd_eq, ne_eq, Nat.reduceEqDiff, not_false_eq_true]; omega)) (fun g25 g25' => ?_) (fun g25 => ?_)
                   · try simp only [zwr_rne, zwr_req, upd_ne, upd_eq, ne_eq, Nat.reduceEqDiff, not_false_eq_true] at g25
                     try simp only [zwr_rne, zwr_req, upd_ne, upd_eq, ne_eq, Nat.reduceEqDiff, not_false_eq_true] at g25'
                     try omega
                     all_goals
                      try simp only [one_ne, zero_eq, if_false, if_true, or_true, true_or, or_false, false_or]
                      try simp only [zwr_rne, zwr_req, upd_ne, upd_eq, ne_eq, Nat.reduceEqDiff, not_false_eq_true]
                      refine zeq (fun g26 => ?_) (fun g26 => ?_)
                      · exfalso; (try simp only [zwr_rne, zwr_req, upd_ne, upd_eq, ne_eq, Nat.reduceEqDiff, not_false_eq_true] at g26); omega
                      · try simp only [zwr_rne, zwr_req, upd_ne, upd_eq, ne_eq, Nat.reduceEqDiff, not_false_eq_true] at g26
                        try omega
                        all_goals
                         try simp only [zwr_rne, zwr_req, upd_ne, upd_eq, ne_eq, Nat.reduceEqDiff, not_false_eq_true]
                         refine m_isClaim (by first | omega | (simp only [zwr_rne, zwr_req, upd_ne, upd_eq, ne_eq, Nat.reduceEqDiff, not_false_eq_true]; omega)) (fun g27 g27' => ?_) (fun g27 => ?_)
                         · try simp only [zwr_rne, zwr_req, upd_ne, upd_eq, ne_eq, Nat.reduceEqDiff, not_false_eq_true] at g27
                           try simp only [zwr_rne, zwr_req, upd_ne, upd_eq, ne_eq, Nat.reduceEqDiff, not_false_eq_true] at g27'
                           try omega
                           all_goals
                            try simp only [one_ne, zero_eq, if_false, if_true, or_true, true_or, or_false, false_or]
                            try simp only [zwr_rne, zwr_req, upd_ne, upd_eq, ne_eq, Nat.reduceEqDiff, not_false_eq_true]
                            refine zeq (fun g28 => ?_) (fun g28 => ?_)
                            · exfalso; (try simp only [zwr_rne, zwr_req, upd_ne, upd_eq, ne_eq, Nat.reduceEqDiff, not_false_eq_true] at g28); omega
                            · try simp only [zwr_rne, zwr_req, upd_ne, upd_eq, ne_eq, Nat.reduceEqDiff, not_false_eq_true] at g28
                              try omega
                              all_goals
                               try simp only [zwr_rne, zwr_req, upd_ne, upd_eq, ne_eq, Nat.reduceEqDiff, not_false_eq_true]
                               refine ⟨by first | assumption | exact vin (by omega) | exact vp_in_I.mpr (by omega), ?_⟩
                               refine zeq (fun g29 => ?_) (fun g29 => ?_)
                               · exfalso; (try simp only [zwr_rne, zwr_req, upd_ne, upd_eq, ne_eq, Nat.reduceEqDiff, not_false_eq_true] at g29); omega
                               · try simp only [zwr_rne, zwr_req, upd_ne, upd_eq, ne_eq, Nat.reduceEqDiff, not_false_eq_true] at g29
                                 try omega
                                 all_goals
                                  try simp only [zwr_rne, zwr_req, upd_ne, upd_eq, ne_eq, Nat.reduceEqDiff, not_false_eq_true]
                                  exact ⟨by first | rfl | trivial, hh⟩
                         · exfalso; (try simp only [zwr_rne, zwr_req, upd_ne, upd_eq, ne_eq, Nat.reduceEqDiff, not_false_eq_true] at g27); omega
                   · exfalso; (try simp only [zwr_rne, zwr_req, upd_ne, upd_eq, ne_eq, Nat.reduceEqDiff, not_false_eq_true] at g25); omega
          · try simp only [zwr_rne, zwr_req, upd_ne, upd_eq, ne_eq, Nat.reduceEqDiff, not_false_eq_true] at g8
            try omega
            all_goals
             try simp only [one_ne, zero_eq, if_false, if_true, or_true, true_or, or_false, false_or]
             refine en_X12_charge ?_
             try simp only [zwr_rne, zwr_req, upd_ne, upd_eq, ne_eq, Nat.reduceEqDiff, not_false_eq_true]
             refine m_isAsset (by first | omega | (simp only [zwr_rne, zwr_req, upd_ne, upd_eq, ne_eq, Nat.reduceEqDiff, not_false_eq_true]; omega)) (fun g30 g30' => ?_) (fun g30 => ?_)
             · try simp only [zwr_rne, zwr_req, upd_ne, upd_eq, ne_eq, Nat.reduceEqDiff, not_false_eq_true] at g30
               try simp only [zwr_rne, zwr_req, upd_ne, upd_eq, ne_eq, Nat.reduceEqDiff, not_false_eq_true] at g30'
               try omega
               all_goals
                try simp only [one_ne, zero_eq, if_false, if_true, or_true, true_or, or_false, false_or]
                try simp only [zwr_rne, zwr_req, upd_ne, upd_eq, ne_eq, Nat.reduceEqDiff, not_false_eq_true]
                refine zeq (fun g31 => ?_) (fun g31 => ?_)
                · exfalso; (try simp only [zwr_rne, zwr_req, upd_ne, upd_eq, ne_eq, Nat.reduceEqDiff, not_false_eq_true] at g31); omega
                · try simp only [zwr_rne, zwr_req, upd_ne, upd_eq, ne_eq, Nat.reduceEqDiff, not_false_eq_true] at g31
                  try omega
                  all_goals
                   try simp only [zwr_rne, zwr_req, upd_ne, upd_eq, ne_eq, Nat.reduceEqDiff, not_false_eq_true]
                   refine m_isClaim (by first | omega | (simp only [zwr_rne, zwr_req, upd_ne, upd_eq, ne_eq, Nat.reduceEqDiff, not_false_eq_true]; omega)) (fun g32 g32' => ?_) (fun g32 => ?_)
                   · exfalso; (try simp only [zwr_rne, zwr_req, upd_ne, upd_eq, ne_eq, Nat.reduceEqDiff, not_false_eq_true] at g32); (try simp only [zwr_rne, zwr_req, upd_ne, upd_eq, ne_eq, Nat.reduceEqDiff, not_false_eq_true] at g32'); omega
                   · try simp only [zwr_rne, zwr_req, upd_ne, upd_eq, ne_eq, Nat.reduceEqDiff, not_false_eq_true] at g32
                     try omega
                     all_goals
                      try simp only [one_ne, zero_eq, if_false, if_true, or_true, true_or, or_false, false_or]
                      try simp only [zwr_rne, zwr_req, upd_ne, upd_eq, ne_eq, Nat.reduceEqDiff, not_false_eq_true]
                      exact ⟨by first | rfl | trivial, hh⟩
             · exfalso; (try simp only [zwr_rne, zwr_req, upd_ne, upd_eq, ne_eq, Nat.reduceEqDiff, not_false_eq_true] at g30); omega
    · try simp only [zwr_rne, zwr_req, upd_ne, upd_eq, ne_eq, Nat.reduceEqDiff, not_false_eq_true] at g1
      try omega
      all_goals
       try simp only [one_ne, zero_eq, if_false, if_true, or_true, true_or, or_false, false_or]
       refine en_X12_charge ?_
       try simp only [zwr_rne, zwr_req, upd_ne, upd_eq, ne_eq, Nat.reduceEqDiff, not_false_eq_true]
       refine m_isAsset (by first | omega | (simp only [zwr_rne, zwr_req, upd_ne, upd_eq, ne_eq, Nat.reduceEqDiff, not_false_eq_true]; omega)) (fun g33 g33' => ?_) (fun g33 => ?_)
       · exfalso; (try simp only [zwr_rne, zwr_req, upd_ne, upd_eq, ne_eq, Nat.reduceEqDiff, not_false_eq_true] at g33); (try simp only [zwr_rne, zwr_req, upd_ne, upd_eq, ne_eq, Nat.reduceEqDiff, not_false_eq_true] at g33'); omega
       · try simp only [zwr_rne, zwr_req, upd_ne, upd_eq, ne_eq, Nat.reduceEqDiff, not_false_eq_true] at g33
         try omega
         all_goals
          try simp only [one_ne, zero_eq, if_false, if_true, or_true, true_or, or_false, false_or]
          try simp only [zwr_rne, zwr_req, upd_ne, upd_eq, ne_eq, Nat.reduceEqDiff, not_false_eq_true]
          exact ⟨by first | rfl | trivial, hh⟩
  · have ta := tin ha2
    have ca : (nI a).toNatClampNeg = a := cln ha2
    have va : vp_in (nI a) 16 := vin (by omega)
    obtain ⟨s1, s2, s3, s4, s5, s6, s7, s8, s9, s10, s11, s12, s13, s14, s15⟩ := kas a ha
    have fs1 : (σ 15 a).toInt = (σ 73 a).toInt := by rw [s1]
    by_cases gN : v2 = -1000000005
    · have gNt : v2.toInt = -1000000005 := by rw [gN]; rfl
      refine en_X11_charge ?_
      try simp only [zwr_rne, zwr_req, upd_ne, upd_eq, ne_eq, Nat.reduceEqDiff, not_false_eq_true, ca]
      refine c_hasA (fun g1 g1' => ?_) (fun g1 => ?_)
      · try simp only [zwr_rne, zwr_req, upd_ne, upd_eq, ne_eq, Nat.reduceEqDiff, not_false_eq_true, ca] at g1
        try simp only [zwr_rne, zwr_req, upd_ne, upd_eq, ne_eq, Nat.reduceEqDiff, not_false_eq_true, ca] at g1'
        try omega
        all_goals
         try simp only [one_ne, zero_eq, if_false, if_true, or_true, true_or, or_false, false_or]
         refine zeq (fun g2 => ?_) (fun g2 => ?_)
         · try simp only [zwr_rne, zwr_req, upd_ne, upd_eq, ne_eq, Nat.reduceEqDiff, not_false_eq_true, ca] at g2
           try omega
           all_goals
            refine zeq (fun g3 => ?_) (fun g3 => ?_)
            · try simp only [zwr_rne, zwr_req, upd_ne, upd_eq, ne_eq, Nat.reduceEqDiff, not_false_eq_true, ca] at g3
              try omega
              all_goals
               refine ⟨by first | assumption | exact vin (by omega) | exact vp_in_I.mpr (by omega), ?_⟩
               refine ⟨by first | assumption | exact vin (by omega) | exact vp_in_I.mpr (by omega), ?_⟩
               rintro _ rfl
               try simp only [zwr_rne, zwr_req, upd_ne, upd_eq, ne_eq, Nat.reduceEqDiff, not_false_eq_true, ca]
               refine c_changed ?_
               try simp only [zwr_rne, zwr_req, upd_ne, upd_eq, ne_eq, Nat.reduceEqDiff, not_false_eq_true, ca]
               refine en_X12_charge ?_
               try simp only [zwr_rne, zwr_req, upd_ne, upd_eq, ne_eq, Nat.reduceEqDiff, not_false_eq_true, ca]
               refine m_isAsset (by first | omega | (simp only [zwr_rne, zwr_req, upd_ne, upd_eq, ne_eq, Nat.reduceEqDiff, not_false_eq_true, ca]; omega)) (fun g4 g4' => ?_) (fun g4 => ?_)
               · try simp only [zwr_rne, zwr_req, upd_ne, upd_eq, ne_eq, Nat.reduceEqDiff, not_false_eq_true, ca] at g4
                 try simp only [zwr_rne, zwr_req, upd_ne, upd_eq, ne_eq, Nat.reduceEqDiff, not_false_eq_true, ca] at g4'
                 try omega
                 all_goals
                  try simp only [one_ne, zero_eq, if_false, if_true, or_true, true_or, or_false, false_or]
                  try simp only [zwr_rne, zwr_req, upd_ne, upd_eq, ne_eq, Nat.reduceEqDiff, not_false_eq_true, ca]
                  refine zeq (fun g5 => ?_) (fun g5 => ?_)
                  · try simp only [zwr_rne, zwr_req, upd_ne, upd_eq, ne_eq, Nat.reduceEqDiff, not_false_eq_true, ca] at g5
                    try omega
                    all_goals
                     try simp only [zwr_rne, zwr_req, upd_ne, upd_eq, ne_eq, Nat.reduceEqDiff, not_false_eq_true, ca]
                     refine zeq (fun g6 => ?_) (fun g6 => ?_)
                     · try simp only [zwr_rne, zwr_req, upd_ne, upd_eq, ne_eq, Nat.reduceEqDiff, not_false_eq_true, ca] at g6
                       try omega
                       all_goals
                        try simp only [zwr_rne, zwr_req, upd_ne, upd_eq, ne_eq, Nat.reduceEqDiff, not_false_eq_true, ca]
                        refine ⟨by first | assumption | exact vin (by omega) | exact vp_in_I.mpr (by omega), ?_⟩
                        refine zeq (fun g7 => ?_) (fun g7 => ?_)
                        · try simp only [zwr_rne, zwr_req, upd_ne, upd_eq, ne_eq, Nat.reduceEqDiff, not_false_eq_true, ca] at g7
                          try omega
                          all_goals
                           try simp only [zwr_rne, zwr_req, upd_ne, upd_eq, ne_eq, Nat.reduceEqDiff, not_false_eq_true, ca]
                           refine ⟨by first | assumption | exact vin (by omega) | exact vp_in_I.mpr (by omega), ?_⟩
                           rintro _ rfl
                           try simp only [zwr_rne, zwr_req, upd_ne, upd_eq, ne_eq, Nat.reduceEqDiff, not_false_eq_true, ca]
                           refine m_orNone s14 ?_
                           try simp only [zwr_rne, zwr_req, upd_ne, upd_eq, ne_eq, Nat.reduceEqDiff, not_false_eq_true, ca]
                           refine ⟨s5, ?_⟩
                           unfold Rall
                           simp only [zwr_rne, zwr_req, upd_ne, upd_eq, ne_eq, Nat.reduceEqDiff, not_false_eq_true]
                           subst gN
                           exact ⟨⟨k1, k2, k3, k4, k5, k6, k7, k8, k9⟩, kas.setC enc_m1.symm (by decide) (by rw [tim1]; omega), kcl, kda, kdh, kpl, kkp, ksh, kwt, ktp, klw, ksd, Rwx_stale, Rwx_stale⟩
                        · exfalso; (try simp only [zwr_rne, zwr_req, upd_ne, upd_eq, ne_eq, Nat.reduceEqDiff, not_false_eq_true, ca] at g7); omega
                     · exfalso; (try simp only [zwr_rne, zwr_req, upd_ne, upd_eq, ne_eq, Nat.reduceEqDiff, not_false_eq_true, ca] at g6); omega
                  · exfalso; (try simp only [zwr_rne, zwr_req, upd_ne, upd_eq, ne_eq, Nat.reduceEqDiff, not_false_eq_true, ca] at g5); omega
               · exfalso; (try simp only [zwr_rne, zwr_req, upd_ne, upd_eq, ne_eq, Nat.reduceEqDiff, not_false_eq_true, ca] at g4); omega
            · exfalso; (try simp only [zwr_rne, zwr_req, upd_ne, upd_eq, ne_eq, Nat.reduceEqDiff, not_false_eq_true, ca] at g3); omega
         · try simp only [zwr_rne, zwr_req, upd_ne, upd_eq, ne_eq, Nat.reduceEqDiff, not_false_eq_true, ca] at g2
           try omega
           all_goals
            refine c_hasC (fun g8 g8' => ?_) (fun g8 => ?_)
            · try simp only [zwr_rne, zwr_req, upd_ne, upd_eq, ne_eq, Nat.reduceEqDiff, not_false_eq_true, ca] at g8
              try simp only [zwr_rne, zwr_req, upd_ne, upd_eq, ne_eq, Nat.reduceEqDiff, not_false_eq_true, ca] at g8'
              try omega
              all_goals
               try simp only [one_ne, zero_eq, if_false, if_true, or_true, true_or, or_false, false_or]
               refine zeq (fun g9 => ?_) (fun g9 => ?_)
               · exfalso; (try simp only [zwr_rne, zwr_req, upd_ne, upd_eq, ne_eq, Nat.reduceEqDiff, not_false_eq_true, ca] at g9); omega
               · try simp only [zwr_rne, zwr_req, upd_ne, upd_eq, ne_eq, Nat.reduceEqDiff, not_false_eq_true, ca] at g9
                 try omega
                 all_goals
                  refine ⟨by first | assumption | exact vin (by omega) | exact vp_in_I.mpr (by omega), ?_⟩
                  refine zeq (fun g10 => ?_) (fun g10 => ?_)
                  · try simp only [zwr_rne, zwr_req, upd_ne, upd_eq, ne_eq, Nat.reduceEqDiff, not_false_eq_true, ca] at g10
                    try omega
                    all_goals
                     refine ⟨by first | assumption | exact vin (by omega) | exact vp_in_I.mpr (by omega), ?_⟩
                     refine ⟨by first | assumption | exact vin (by omega) | exact vp_in_I.mpr (by omega), ?_⟩
                     refine zeq (fun g11 => ?_) (fun g11 => ?_)
                     · try simp only [zwr_rne, zwr_req, upd_ne, upd_eq, ne_eq, Nat.reduceEqDiff, not_false_eq_true, ca] at g11
                       try omega
                       all_goals
                        refine ⟨by first | assumption | exact vin (by omega) | exact vp_in_I.mpr (by omega), ?_⟩
                        refine ⟨by first | assumption | exact vin (by omega) | exact vp_in_I.mpr (by omega), ?_⟩
                        rintro _ rfl
                        try simp only [zwr_rne, zwr_req, upd_ne, upd_eq, ne_eq, Nat.reduceEqDiff, not_false_eq_true, ca]
                        refine c_changed ?_
                        try simp only [zwr_rne, zwr_req, upd_ne, upd_eq, ne_eq, Nat.reduceEqDiff, not_false_eq_true, ca]
                        refine en_X12_charge ?_
                        try simp only [zwr_rne, zwr_req, upd_ne, upd_eq, ne_eq, Nat.reduceEqDiff, not_false_eq_true, ca]
                        refine m_isAsset (by first | omega | (simp only [zwr_rne, zwr_req, upd_ne, upd_eq, ne_eq, Nat.reduceEqDiff, not_false_eq_true, ca]; omega)) (fun g12 g12' => ?_) (fun g12 => ?_)
                        · try simp only [zwr_rne, zwr_req, upd_ne, upd_eq, ne_eq, Nat.reduceEqDiff, not_false_eq_true, ca] at g12
                          try simp only [zwr_rne, zwr_req, upd_ne, upd_eq, ne_eq, Nat.reduceEqDiff, not_false_eq_true, ca] at g12'
                          try omega
                          all_goals
                           try simp only [one_ne, zero_eq, if_false, if_true, or_true, true_or, or_false, false_or]
                           try simp only [zwr_rne, zwr_req, upd_ne, upd_eq, ne_eq, Nat.reduceEqDiff, not_false_eq_true, ca]
                           refine zeq (fun g13 => ?_) (fun g13 => ?_)
                           · exfalso; (try simp only [zwr_rne, zwr_req, upd_ne, upd_eq, ne_eq, Nat.reduceEqDiff, not_false_eq_true, ca] at g13); omega
                           · try simp only [zwr_rne, zwr_req, upd_ne, upd_eq, ne_eq, Nat.reduceEqDiff, not_false_eq_true, ca] at g13
                             try omega
                             all_goals
                              try simp only [zwr_rne, zwr_req, upd_ne, upd_eq, ne_eq, Nat.reduceEqDiff, not_false_eq_true, ca]
                              refine m_isClaim (by first | omega | (simp only [zwr_rne, zwr_req, upd_ne, upd_eq, ne_eq, Nat.reduceEqDiff, not_false_eq_true, ca]; omega)) (fun g14 g14' => ?_) (fun g14 => ?_)
                              · try simp only [zwr_rne, zwr_req, upd_ne, upd_eq, ne_eq, Nat.reduceEqDiff, not_false_eq_true, ca] at g14
                                try simp only [zwr_rne, zwr_req, upd_ne, upd_eq, ne_eq, Nat.reduceEqDiff, not_false_eq_true, ca] at g14'
                                try omega
                                all_goals
                                 try simp only [one_ne, zero_eq, if_false, if_true, or_true, true_or, or_false, false_or]
                                 try simp only [zwr_rne, zwr_req, upd_ne, upd_eq, ne_eq, Nat.reduceEqDiff, not_false_eq_true, ca]
                                 refine zeq (fun g15 => ?_) (fun g15 => ?_)
                                 · exfalso; (try simp only [zwr_rne, zwr_req, upd_ne, upd_eq, ne_eq, Nat.reduceEqDiff, not_false_eq_true, ca] at g15); omega
                                 · try simp only [zwr_rne, zwr_req, upd_ne, upd_eq, ne_eq, Nat.reduceEqDiff, not_false_eq_true, ca] at g15
                                   try omega
                                   all_goals
                                    try simp only [zwr_rne, zwr_req, upd_ne, upd_eq, ne_eq, Nat.reduceEqDiff, not_false_eq_true, ca]
                                    refine ⟨by first | assumption | exact vin (by omega) | exact vp_in_I.mpr (by omega), ?_⟩
                                    refine zeq (fun g16 => ?_) (fun g16 => ?_)
                                    · try simp only [zwr_rne, zwr_req, upd_ne, upd_eq, ne_eq, Nat.reduceEqDiff, not_false_eq_true, ca] at g16
                                      try omega
                                      all_goals
                                       try simp only [zwr_rne, zwr_req, upd_ne, upd_eq, ne_eq, Nat.reduceEqDiff, not_false_eq_true, ca]
                                       refine ⟨by first | assumption | exact vin (by omega) | exact vp_in_I.mpr (by omega), ?_⟩
                                       refine ⟨by first | assumption | exact vin (by omega) | exact vp_in_I.mpr (by omega), ?_⟩
                                       refine zeq (fun g17 => ?_) (fun g17 => ?_)
                                       · try simp only [zwr_rne, zwr_req, upd_ne, upd_eq, ne_eq, Nat.reduceEqDiff, not_false_eq_true, ca] at g17
                                         try omega
                                         all_goals
                                          try simp only [zwr_rne, zwr_req, upd_ne, upd_eq, ne_eq, Nat.reduceEqDiff, not_false_eq_true, ca]
                                          refine ⟨by first | assumption | exact vin (by omega) | exact vp_in_I.mpr (by omega), ?_⟩
                                          refine zeq (fun g18 => ?_) (fun g18 => ?_)
                                          · exfalso; (try simp only [zwr_rne, zwr_req, upd_ne, upd_eq, ne_eq, Nat.reduceEqDiff, not_false_eq_true, ca] at g18); omega
                                          · try simp only [zwr_rne, zwr_req, upd_ne, upd_eq, ne_eq, Nat.reduceEqDiff, not_false_eq_true, ca] at g18
                                            try omega
                                            all_goals
                                             try simp only [zwr_rne, zwr_req, upd_ne, upd_eq, ne_eq, Nat.reduceEqDiff, not_false_eq_true, ca]
                                             refine ⟨by first | assumption | exact vin (by omega) | exact vp_in_I.mpr (by omega), ?_⟩
                                             rintro _ rfl
                                             try simp only [zwr_rne, zwr_req, upd_ne, upd_eq, ne_eq, Nat.reduceEqDiff, not_false_eq_true, ca]
                                             refine m_orNone s14 ?_
                                             try simp only [zwr_rne, zwr_req, upd_ne, upd_eq, ne_eq, Nat.reduceEqDiff, not_false_eq_true, ca]
                                             refine ⟨s5, ?_⟩
                                             unfold Rall
                                             simp only [zwr_rne, zwr_req, upd_ne, upd_eq, ne_eq, Nat.reduceEqDiff, not_false_eq_true]
                                             subst gN
                                             exact ⟨⟨k1, k2, k3, k4, k5, k6, k7, k8, k9⟩, kas.setC enc_m1.symm (by decide) (by rw [tim1]; omega), kcl, kda, kdh, kpl, kkp, ksh, kwt, ktp, klw, ksd, Rwx_stale, Rwx_stale⟩
                                       · exfalso; (try simp only [zwr_rne, zwr_req, upd_ne, upd_eq, ne_eq, Nat.reduceEqDiff, not_false_eq_true, ca] at g17); omega
                                    · exfalso; (try simp only [zwr_rne, zwr_req, upd_ne, upd_eq, ne_eq, Nat.reduceEqDiff, not_false_eq_true, ca] at g16); omega
                              · exfalso; (try simp only [zwr_rne, zwr_req, upd_ne, upd_eq, ne_eq, Nat.reduceEqDiff, not_false_eq_true, ca] at g14); omega
                        · exfalso; (try simp only [zwr_rne, zwr_req, upd_ne, upd_eq, ne_eq, Nat.reduceEqDiff, not_false_eq_true, ca] at g12); omega
                     · try simp only [zwr_rne, zwr_req, upd_ne, upd_eq, ne_eq, Nat.reduceEqDiff, not_false_eq_true, ca] at g11
                       try omega
                       all_goals
                        refine en_X12_charge ?_
                        try simp only [zwr_rne, zwr_req, upd_ne, upd_eq, ne_eq, Nat.reduceEqDiff, not_false_eq_true, ca]
                        refine m_isAsset (by first | omega | (simp only [zwr_rne, zwr_req, upd_ne, upd_eq, ne_eq, Nat.reduceEqDiff, not_false_eq_true, ca]; omega)) (fun g19 g19' => ?_) (fun g19 => ?_)
                        · try simp only [zwr_rne, zwr_req, upd_ne, upd_eq, ne_eq, Nat.reduceEqDiff, not_false_eq_true, ca] at g19
                          try simp only [zwr_rne, zwr_req, upd_ne, upd_eq, ne_eq, Nat.reduceEqDiff, not_false_eq_true, ca] at g19'
                          try omega
                          all_goals
                           try simp only [one_ne, zero_eq, if_false, if_true, or_true, true_or, or_false, false_or]
                           try simp only [zwr_rne, zwr_req, upd_ne, upd_eq, ne_eq, Nat.reduceEqDiff, not_false_eq_true, ca]
                           refine zeq (fun g20 => ?_) (fun g20 => ?_)
                           · exfalso; (try simp only [zwr_rne, zwr_req, upd_ne, upd_eq, ne_eq, Nat.reduceEqDiff, not_false_eq_true, ca] at g20); omega
                           · try simp only [zwr_rne, zwr_req, upd_ne, upd_eq, ne_eq, Nat.reduceEqDiff, not_false_eq_true, ca] at g20
                             try omega
                             all_goals
                              try simp only [zwr_rne, zwr_req, upd_ne, upd_eq, ne_eq, Nat.reduceEqDiff, not_false_eq_true, ca]
                              refine m_isClaim (by first | omega | (simp only [zwr_rne, zwr_req, upd_ne, upd_eq, ne_eq, Nat.reduceEqDiff, not_false_eq_true, ca]; omega)) (fun g21 g21' => ?_) (fun g21 => ?_)
                              · try simp only [zwr_rne, zwr_req, upd_ne, upd_eq, ne_eq, Nat.reduceEqDiff, not_false_eq_true, ca] at g21
                                try simp only [zwr_rne, zwr_req, upd_ne, upd_eq, ne_eq, Nat.reduceEqDiff, not_false_eq_true, ca] at g21'
                                try omega
                                all_goals
                                 try simp only [one_ne, zero_eq, if_false, if_true, or_true, true_or, or_false, false_or]
                                 try simp only [zwr_rne, zwr_req, upd_ne, upd_eq, ne_eq, Nat.reduceEqDiff, not_false_eq_true, ca]
                                 refine zeq (fun g22 => ?_) (fun g22 => ?_)
                                 · exfalso; (try simp only [zwr_rne, zwr_req, upd_ne, upd_eq, ne_eq, Nat.reduceEqDiff, not_false_eq_true, ca] at g22); omega
                                 · try simp only [zwr_rne, zwr_req, upd_ne, upd_eq, ne_eq, Nat.reduceEqDiff, not_false_eq_true, ca] at g22
                                   try omega
                                   all_goals
                                    try simp only [zwr_rne, zwr_req, upd_ne, upd_eq, ne_eq, Nat.reduceEqDiff, not_false_eq_true, ca]
                                    refine ⟨by first | assumption | exact vin (by omega) | exact vp_in_I.mpr (by omega), ?_⟩
                                    refine zeq (fun g23 => ?_) (fun g23 => ?_)
                                    · try simp only [zwr_rne, zwr_req, upd_ne, upd_eq, ne_eq, Nat.reduceEqDiff, not_false_eq_true, ca] at g23
                                      try omega
                                      all_goals
                                       try simp only [zwr_rne, zwr_req, upd_ne, upd_eq, ne_eq, Nat.reduceEqDiff, not_false_eq_true, ca]
                                       refine ⟨by first | assumption | exact vin (by omega) | exact vp_in_I.mpr (by omega), ?_⟩
                                       refine ⟨by first | assumption | exact vin (by omega) | exact vp_in_I.mpr (by omega), ?_⟩
                                       refine zeq (fun g24 => ?_) (fun g24 => ?_)
                                       · exfalso; (try simp only [zwr_rne, zwr_req, upd_ne, upd_eq, ne_eq, Nat.reduceEqDiff, not_false_eq_true, ca] at g24); omega
                                       · try simp only [zwr_rne, zwr_req, upd_ne, upd_eq, ne_eq, Nat.reduceEqDiff, not_false_eq_true, ca] at g24
                                         try omega
                                         all_goals
                                          try simp only [zwr_rne, zwr_req, upd_ne, upd_eq, ne_eq, Nat.reduceEqDiff, not_false_eq_true, ca]
                                          exact ⟨by first | rfl | trivial, hh⟩
                                    · exfalso; (try simp only [zwr_rne, zwr_req, upd_ne, upd_eq, ne_eq, Nat.reduceEqDiff, not_false_eq_true, ca] at g23); omega
                              · exfalso; (try simp only [zwr_rne, zwr_req, upd_ne, upd_eq, ne_eq, Nat.reduceEqDiff, not_false_eq_true, ca] at g21); omega
                        · exfalso; (try simp only [zwr_rne, zwr_req, upd_ne, upd_eq, ne_eq, Nat.reduceEqDiff, not_false_eq_true, ca] at g19); omega
                  · try simp only [zwr_rne, zwr_req, upd_ne, upd_eq, ne_eq, Nat.reduceEqDiff, not_false_eq_true, ca] at g10
                    try omega
                    all_goals
                     refine en_X12_charge ?_
                     try simp only [zwr_rne, zwr_req, upd_ne, upd_eq, ne_eq, Nat.reduceEqDiff, not_false_eq_true, ca]
                     refine m_isAsset (by first | omega | (simp only [zwr_rne, zwr_req, upd_ne, upd_eq, ne_eq, Nat.reduceEqDiff, not_false_eq_true, ca]; omega)) (fun g25 g25' => ?_) (fun g25 => ?_)
                     · try simp only [zwr_rne, zwr_req, upd_ne, upd_eq, ne_eq, Nat.reduceEqDiff, not_false_eq_true, ca] at g25
                       try simp only [zwr_rne, zwr_req, upd_ne, upd_eq, ne_eq, Nat.reduceEqDiff, not_false_eq_true, ca] at g25'
                       try omega
                       all_goals
                        try simp only [one_ne, zero_eq, if_false, if_true, or_true, true_or, or_false, false_or]
                        try simp only [zwr_rne, zwr_req, upd_ne, upd_eq, ne_eq, Nat.reduceEqDiff, not_false_eq_true, ca]
                        refine zeq (fun g26 => ?_) (fun g26 => ?_)
                        · exfalso; (try simp only [zwr_rne, zwr_req, upd_ne, upd_eq, ne_eq, Nat.reduceEqDiff, not_false_eq_true, ca] at g26); omega
                        · try simp only [zwr_rne, zwr_req, upd_ne, upd_eq, ne_eq, Nat.reduceEqDiff, not_false_eq_true, ca] at g26
                          try omega
                          all_goals
                           try simp only [zwr_rne, zwr_req, upd_ne, upd_eq, ne_eq, Nat.reduceEqDiff, not_false_eq_true, ca]
                           refine m_isClaim (by first | omega | (simp only [zwr_rne, zwr_req, upd_ne, upd_eq, ne_eq, Nat.reduceEqDiff, not_false_eq_true, ca]; omega)) (fun g27 g27' => ?_) (fun g27 => ?_)
                           · try simp only [zwr_rne, zwr_req, upd_ne, upd_eq, ne_eq, Nat.reduceEqDiff, not_false_eq_true, ca] at g27
                             try simp only [zwr_rne, zwr_req, upd_ne, upd_eq, ne_eq, Nat.reduceEqDiff, not_false_eq_true, ca] at g27'
                             try omega
                             all_goals
                              try simp only [one_ne, zero_eq, if_false, if_true, or_true, true_or, or_false, false_or]
                              try simp only [zwr_rne, zwr_req, upd_ne, upd_eq, ne_eq, Nat.reduceEqDiff, not_false_eq_true, ca]
                              refine zeq (fun g28 => ?_) (fun g28 => ?_)
                              · exfalso; (try simp only [zwr_rne, zwr_req, upd_ne, upd_eq, ne_eq, Nat.reduceEqDiff, not_false_eq_true, ca] at g28); omega
                              · try simp only [zwr_rne, zwr_req, upd_ne, upd_eq, ne_eq, Nat.reduceEqDiff, not_false_eq_true, ca] at g28
                                try omega
                                all_goals
                                 try simp only [zwr_rne, zwr_req, upd_ne, upd_eq, ne_eq, Nat.reduceEqDiff, not_false_eq_true, ca]
                                 refine ⟨by first | assumption | exact vin (by omega) | exact vp_in_I.mpr (by omega), ?_⟩
                                 refine zeq (fun g29 => ?_) (fun g29 => ?_)
                                 · exfalso; (try simp only [zwr_rne, zwr_req, upd_ne, upd_eq, ne_eq, Nat.reduceEqDiff, not_false_eq_true, ca] at g29); omega
                                 · try simp only [zwr_rne, zwr_req, upd_ne, upd_eq, ne_eq, Nat.reduceEqDiff, not_false_eq_true, ca] at g29
                                   try omega
                                   all_goals
                                    try simp only [zwr_rne, zwr_req, upd_ne, upd_eq, ne_eq, Nat.reduceEqDiff, not_false_eq_true, ca]
                                    exact ⟨by first | rfl | trivial, hh⟩
                           · exfalso; (try simp only [zwr_rne, zwr_req, upd_ne, upd_eq, ne_eq, Nat.reduceEqDiff, not_false_eq_true, ca] at g27); omega
                     · exfalso; (try simp only [zwr_rne, zwr_req, upd_ne, upd_eq, ne_eq, Nat.reduceEqDiff, not_false_eq_true, ca] at g25); omega
            · try simp only [zwr_rne, zwr_req, upd_ne, upd_eq, ne_eq, Nat.reduceEqDiff, not_false_eq_true, ca] at g8
              try omega
              all_goals
               try simp only [one_ne, zero_eq, if_false, if_true, or_true, true_or, or_false, false_or]
               refine en_X12_charge ?_
               try simp only [zwr_rne, zwr_req, upd_ne, upd_eq, ne_eq, Nat.reduceEqDiff, not_false_eq_true, ca]
               refine m_isAsset (by first | omega | (simp only [zwr_rne, zwr_req, upd_ne, upd_eq, ne_eq, Nat.reduceEqDiff, not_false_eq_true, ca]; omega)) (fun g30 g30' => ?_) (fun g30 => ?_)
               · try simp only [zwr_rne, zwr_req, upd_ne, upd_eq, ne_eq, Nat.reduceEqDiff, not_false_eq_true, ca] at g30
                 try simp only [zwr_rne, zwr_req, upd_ne, upd_eq, ne_eq, Nat.reduceEqDiff, not_false_eq_true, ca] at g30'
                 try omega
                 all_goals
                  try simp only [one_ne, zero_eq, if_false, if_true, or_true, true_or, or_false, false_or]
                  try simp only [zwr_rne, zwr_req, upd_ne, upd_eq, ne_eq, Nat.reduceEqDiff, not_false_eq_true, ca]
                  refine zeq (fun g31 => ?_) (fun g31 => ?_)
                  · exfalso; (try simp only [zwr_rne, zwr_req, upd_ne, upd_eq, ne_eq, Nat.reduceEqDiff, not_false_eq_true, ca] at g31); omega
                  · try simp only [zwr_rne, zwr_req, upd_ne, upd_eq, ne_eq, Nat.reduceEqDiff, not_false_eq_true, ca] at g31
                    try omega
                    all_goals
                     try simp only [zwr_rne, zwr_req, upd_ne, upd_eq, ne_eq, Nat.reduceEqDiff, not_false_eq_true, ca]
                     refine m_isClaim (by first | omega | (simp only [zwr_rne, zwr_req, upd_ne, upd_eq, ne_eq, Nat.reduceEqDiff, not_false_eq_true, ca]; omega)) (fun g32 g32' => ?_) (fun g32 => ?_)
                     · exfalso; (try simp only [zwr_rne, zwr_req, upd_ne, upd_eq, ne_eq, Nat.reduceEqDiff, not_false_eq_true, ca] at g32); (try simp only [zwr_rne, zwr_req, upd_ne, upd_eq, ne_eq, Nat.reduceEqDiff, not_false_eq_true, ca] at g32'); omega
                     · try simp only [zwr_rne, zwr_req, upd_ne, upd_eq, ne_eq, Nat.reduceEqDiff, not_false_eq_true, ca] at g32
                       try omega
                       all_goals
                        try simp only [one_ne, zero_eq, if_false, if_true, or_true, true_or, or_false, false_or]
                        try simp only [zwr_rne, zwr_req, upd_ne, upd_eq, ne_eq, Nat.reduceEqDiff, not_false_eq_true, ca]
                        exact ⟨by first | rfl | trivial, hh⟩
               · exfalso; (try simp only [zwr_rne, zwr_req, upd_ne, upd_eq, ne_eq, Nat.reduceEqDiff, not_false_eq_true, ca] at g30); omega
      · try simp only [zwr_rne, zwr_req, upd_ne, upd_eq, ne_eq, Nat.reduceEqDiff, not_false_eq_true, ca] at g1
        try omega
        all_goals
         try simp only [one_ne, zero_eq, if_false, if_true, or_true, true_or, or_false, false_or]
         refine en_X12_charge ?_
         try simp only [zwr_rne, zwr_req, upd_ne, upd_eq, ne_eq, Nat.reduceEqDiff, not_false_eq_true, ca]
         refine m_isAsset (by first | omega | (simp only [zwr_rne, zwr_req, upd_ne, upd_eq, ne_eq, Nat.reduceEqDiff, not_false_eq_true, ca]; omega)) (fun g33 g33' => ?_) (fun g33 => ?_)
         · exfalso; (try simp only [zwr_rne, zwr_req, upd_ne, upd_eq, ne_eq, Nat.reduceEqDiff, not_false_eq_true, ca] at g33); (try simp only [zwr_rne, zwr_req, upd_ne, upd_eq, ne_eq, Nat.reduceEqDiff, not_false_eq_true, ca] at g33'); omega
         · try simp only [zwr_rne, zwr_req, upd_ne, upd_eq, ne_eq, Nat.reduceEqDiff, not_false_eq_true, ca] at g33
           try omega
           all_goals
            try simp only [one_ne, zero_eq, if_false, if_true, or_true, true_or, or_false, false_or]
            try simp only [zwr_rne, zwr_req, upd_ne, upd_eq, ne_eq, Nat.reduceEqDiff, not_false_eq_true, ca]
            exact ⟨by first | rfl | trivial, hh⟩
    rw [fa_eq, tiN] at gN
    rcases idx_of v2 (σ 72 8) with hb | ⟨c, rfl, hc, hc2⟩
    · refine en_X11_charge ?_
      try simp only [zwr_rne, zwr_req, upd_ne, upd_eq, ne_eq, Nat.reduceEqDiff, not_false_eq_true, ca]
      refine c_hasA (fun g1 g1' => ?_) (fun g1 => ?_)
      · try simp only [zwr_rne, zwr_req, upd_ne, upd_eq, ne_eq, Nat.reduceEqDiff, not_false_eq_true, ca] at g1
        try simp only [zwr_rne, zwr_req, upd_ne, upd_eq, ne_eq, Nat.reduceEqDiff, not_false_eq_true, ca] at g1'
        try omega
        all_goals
         try simp only [one_ne, zero_eq, if_false, if_true, or_true, true_or, or_false, false_or]
         refine zeq (fun g2 => ?_) (fun g2 => ?_)
         · try simp only [zwr_rne, zwr_req, upd_ne, upd_eq, ne_eq, Nat.reduceEqDiff, not_false_eq_true, ca] at g2
           try omega
           all_goals
            refine zeq (fun g3 => ?_) (fun g3 => ?_)
            · try simp only [zwr_rne, zwr_req, upd_ne, upd_eq, ne_eq, Nat.reduceEqDiff, not_false_eq_true, ca] at g3
              try omega
              all_goals
               refine ⟨by first | assumption | exact vin (by omega) | exact vp_in_I.mpr (by omega), ?_⟩
               refine ⟨by first | assumption | exact vin (by omega) | exact vp_in_I.mpr (by omega), ?_⟩
               rintro _ rfl
               try simp only [zwr_rne, zwr_req, upd_ne, upd_eq, ne_eq, Nat.reduceEqDiff, not_false_eq_true, ca]
               refine c_changed ?_
               try simp only [zwr_rne, zwr_req, upd_ne, upd_eq, ne_eq, Nat.reduceEqDiff, not_false_eq_true, ca]
               refine en_X12_charge ?_
               try simp only [zwr_rne, zwr_req, upd_ne, upd_eq, ne_eq, Nat.reduceEqDiff, not_false_eq_true, ca]
               refine m_isAsset (by first | omega | (simp only [zwr_rne, zwr_req, upd_ne, upd_eq, ne_eq, Nat.reduceEqDiff, not_false_eq_true, ca]; omega)) (fun g4 g4' => ?_) (fun g4 => ?_)
               · try simp only [zwr_rne, zwr_req, upd_ne, upd_eq, ne_eq, Nat.reduceEqDiff, not_false_eq_true, ca] at g4
                 try simp only [zwr_rne, zwr_req, upd_ne, upd_eq, ne_eq, Nat.reduceEqDiff, not_false_eq_true, ca] at g4'
                 try omega
                 all_goals
                  try simp only [one_ne, zero_eq, if_false, if_true, or_true, true_or, or_false, false_or]
                  try simp only [zwr_rne, zwr_req, upd_ne, upd_eq, ne_eq, Nat.reduceEqDiff, not_false_eq_true, ca]
                  refine zeq (fun g5 => ?_) (fun g5 => ?_)
                  · try simp only [zwr_rne, zwr_req, upd_ne, upd_eq, ne_eq, Nat.reduceEqDiff, not_false_eq_true, ca] at g5
                    try omega
                    all_goals
                     try simp only [zwr_rne, zwr_req, upd_ne, upd_eq, ne_eq, Nat.reduceEqDiff, not_false_eq_true, ca]
                     refine zeq (fun g6 => ?_) (fun g6 => ?_)
                     · try simp only [zwr_rne, zwr_req, upd_ne, upd_eq, ne_eq, Nat.reduceEqDiff, not_false_eq_true, ca] at g6
                       try omega
                       all_goals
                        try simp only [zwr_rne, zwr_req, upd_ne, upd_eq, ne_eq, Nat.reduceEqDiff, not_false_eq_true, ca]
                        refine ⟨by first | assumption | exact vin (by omega) | exact vp_in_I.mpr (by omega), ?_⟩
                        refine zeq (fun g7 => ?_) (fun g7 => ?_)
                        · try simp only [zwr_rne, zwr_req, upd_ne, upd_eq, ne_eq, Nat.reduceEqDiff, not_false_eq_true, ca] at g7
                          try omega
                          all_goals
                           try simp only [zwr_rne, zwr_req, upd_ne, upd_eq, ne_eq, Nat.reduceEqDiff, not_false_eq_true, ca]
                           refine ⟨by first | assumption | exact vin (by omega) | exact vp_in_I.mpr (by omega), ?_⟩
                           rintro _ rfl
                           try simp only [zwr_rne, zwr_req, upd_ne, upd_eq, ne_eq, Nat.reduceEqDiff, not_false_eq_true, ca]
                           refine m_orNone s14 ?_
                           try simp only [zwr_rne, zwr_req, upd_ne, upd_eq, ne_eq, Nat.reduceEqDiff, not_false_eq_true, ca]
                           exact ⟨by first | rfl | trivial, hh⟩
                        · exfalso; (try simp only [zwr_rne, zwr_req, upd_ne, upd_eq, ne_eq, Nat.reduceEqDiff, not_false_eq_true, ca] at g7); omega
                     · exfalso; (try simp only [zwr_rne, zwr_req, upd_ne, upd_eq, ne_eq, Nat.reduceEqDiff, not_false_eq_true, ca] at g6); omega
                  · exfalso; (try simp only [zwr_rne, zwr_req, upd_ne, upd_eq, ne_eq, Nat.reduceEqDiff, not_false_eq_true, ca] at g5); omega
               · exfalso; (try simp only [zwr_rne, zwr_req, upd_ne, upd_eq, ne_eq, Nat.reduceEqDiff, not_false_eq_true, ca] at g4); omega
            · exfalso; (try simp only [zwr_rne, zwr_req, upd_ne, upd_eq, ne_eq, Nat.reduceEqDiff, not_false_eq_true, ca] at g3); omega
         · try simp only [zwr_rne, zwr_req, upd_ne, upd_eq, ne_eq, Nat.reduceEqDiff, not_false_eq_true, ca] at g2
           try omega
           all_goals
            refine c_hasC (fun g8 g8' => ?_) (fun g8 => ?_)
            · try simp only [zwr_rne, zwr_req, upd_ne, upd_eq, ne_eq, Nat.reduceEqDiff, not_false_eq_true, ca] at g8
              try simp only [zwr_rne, zwr_req, upd_ne, upd_eq, ne_eq, Nat.reduceEqDiff, not_false_eq_true, ca] at g8'
              try omega
              all_goals
               try simp only [one_ne, zero_eq, if_false, if_true, or_true, true_or, or_false, false_or]
               refine zeq (fun g9 => ?_) (fun g9 => ?_)
               · exfalso; (try simp only [zwr_rne, zwr_req, upd_ne, upd_eq, ne_eq, Nat.reduceEqDiff, not_false_eq_true, ca] at g9); omega
               · try simp only [zwr_rne, zwr_req, upd_ne, upd_eq, ne_eq, Nat.reduceEqDiff, not_false_eq_true, ca] at g9
                 try omega
                 all_goals
                  refine ⟨by first | assumption | exact vin (by omega) | exact vp_in_I.mpr (by omega), ?_⟩
                  refine zeq (fun g10 => ?_) (fun g10 => ?_)
                  · try simp only [zwr_rne, zwr_req, upd_ne, upd_eq, ne_eq, Nat.reduceEqDiff, not_false_eq_true, ca] at g10
                    try omega
                    all_goals
                     refine ⟨by first | assumption | exact vin (by omega) | exact vp_in_I.mpr (by omega), ?_⟩
                     refine ⟨by first | assumption | exact vin (by omega) | exact vp_in_I.mpr (by omega), ?_⟩
                     refine zeq (fun g11 => ?_) (fun g11 => ?_)
                     · try simp only [zwr_rne, zwr_req, upd_ne, upd_eq, ne_eq, Nat.reduceEqDiff, not_false_eq_true, ca] at g11
                       try omega
                       all_goals
                        refine ⟨by first | assumption | exact vin (by omega) | exact vp_in_I.mpr (by omega), ?_⟩
                        refine ⟨by first | assumption | exact vin (by omega) | exact vp_in_I.mpr (by omega), ?_⟩
                        rintro _ rfl
                        try simp only [zwr_rne, zwr_req, upd_ne, upd_eq, ne_eq, Nat.reduceEqDiff, not_false_eq_true, ca]
                        refine c_changed ?_
                        try simp only [zwr_rne, zwr_req, upd_ne, upd_eq, ne_eq, Nat.reduceEqDiff, not_false_eq_true, ca]
                        refine en_X12_charge ?_
                        try simp only [zwr_rne, zwr_req, upd_ne, upd_eq, ne_eq, Nat.reduceEqDiff, not_false_eq_true, ca]
                        refine m_isAsset (by first | omega | (simp only [zwr_rne, zwr_req, upd_ne, upd_eq, ne_eq, Nat.reduceEqDiff, not_false_eq_true, ca]; omega)) (fun g12 g12' => ?_) (fun g12 => ?_)
                        · try simp only [zwr_rne, zwr_req, upd_ne, upd_eq, ne_eq, Nat.reduceEqDiff, not_false_eq_true, ca] at g12
                          try simp only [zwr_rne, zwr_req, upd_ne, upd_eq, ne_eq, Nat.reduceEqDiff, not_false_eq_true, ca] at g12'
                          try omega
                          all_goals
                           try simp only [one_ne, zero_eq, if_false, if_true, or_true, true_or, or_false, false_or]
                           try simp only [zwr_rne, zwr_req, upd_ne, upd_eq, ne_eq, Nat.reduceEqDiff, not_false_eq_true, ca]
                           refine zeq (fun g13 => ?_) (fun g13 => ?_)
                           · exfalso; (try simp only [zwr_rne, zwr_req, upd_ne, upd_eq, ne_eq, Nat.reduceEqDiff, not_false_eq_true, ca] at g13); omega
                           · try simp only [zwr_rne, zwr_req, upd_ne, upd_eq, ne_eq, Nat.reduceEqDiff, not_false_eq_true, ca] at g13
                             try omega
                             all_goals
                              try simp only [zwr_rne, zwr_req, upd_ne, upd_eq, ne_eq, Nat.reduceEqDiff, not_false_eq_true, ca]
                              refine m_isClaim (by first | omega | (simp only [zwr_rne, zwr_req, upd_ne, upd_eq, ne_eq, Nat.reduceEqDiff, not_false_eq_true, ca]; omega)) (fun g14 g14' => ?_) (fun g14 => ?_)
                              · try simp only [zwr_rne, zwr_req, upd_ne, upd_eq, ne_eq, Nat.reduceEqDiff, not_false_eq_true, ca] at g14
                                try simp only [zwr_rne, zwr_req, upd_ne, upd_eq, ne_eq, Nat.reduceEqDiff, not_false_eq_true, ca] at g14'
                                try omega
                                all_goals
                                 try simp only [one_ne, zero_eq, if_false, if_true, or_true, true_or, or_false, false_or]
                                 try simp only [zwr_rne, zwr_req, upd_ne, upd_eq, ne_eq, Nat.reduceEqDiff, not_false_eq_true, ca]
                                 refine zeq (fun g15 => ?_) (fun g15 => ?_)
                                 · exfalso; (try simp only [zwr_rne, zwr_req, upd_ne, upd_eq, ne_eq, Nat.reduceEqDiff, not_false_eq_true, ca] at g15); omega
                                 · try simp only [zwr_rne, zwr_req, upd_ne, upd_eq, ne_eq, Nat.reduceEqDiff, not_false_eq_true, ca] at g15
                                   try omega
                                   all_goals
                                    try simp only [zwr_rne, zwr_req, upd_ne, upd_eq, ne_eq, Nat.reduceEqDiff, not_false_eq_true, ca]
                                    refine ⟨by first | assumption | exact vin (by omega) | exact vp_in_I.mpr (by omega), ?_⟩
                                    refine zeq (fun g16 => ?_) (fun g16 => ?_)
                                    · try simp only [zwr_rne, zwr_req, upd_ne, upd_eq, ne_eq, Nat.reduceEqDiff, not_false_eq_true, ca] at g16
                                      try omega
                                      all_goals
                                       try simp only [zwr_rne, zwr_req, upd_ne, upd_eq, ne_eq, Nat.reduceEqDiff, not_false_eq_true, ca]
                                       refine ⟨by first | assumption | exact vin (by omega) | exact vp_in_I.mpr (by omega), ?_⟩
                                       refine ⟨by first | assumption | exact vin (by omega) | exact vp_in_I.mpr (by omega), ?_⟩
                                       refine zeq (fun g17 => ?_) (fun g17 => ?_)
                                       · try simp only [zwr_rne, zwr_req, upd_ne, upd_eq, ne_eq, Nat.reduceEqDiff, not_false_eq_true, ca] at g17
                                         try omega
                                         all_goals
                                          try simp only [zwr_rne, zwr_req, upd_ne, upd_eq, ne_eq, Nat.reduceEqDiff, not_false_eq_true, ca]
                                          refine ⟨by first | assumption | exact vin (by omega) | exact vp_in_I.mpr (by omega), ?_⟩
                                          refine zeq (fun g18 => ?_) (fun g18 => ?_)
                                          · exfalso; (try simp only [zwr_rne, zwr_req, upd_ne, upd_eq, ne_eq, Nat.reduceEqDiff, not_false_eq_true, ca] at g18); omega
                                          · try simp only [zwr_rne, zwr_req, upd_ne, upd_eq, ne_eq, Nat.reduceEqDiff, not_false_eq_true, ca] at g18
                                            try omega
                                            all_goals
                                             try simp only [zwr_rne, zwr_req, upd_ne, upd_eq, ne_eq, Nat.reduceEqDiff, not_false_eq_true, ca]
                                             refine ⟨by first | assumption | exact vin (by omega) | exact vp_in_I.mpr (by omega), ?_⟩
                                             rintro _ rfl
                                             try simp only [zwr_rne, zwr_req, upd_ne, upd_eq, ne_eq, Nat.reduceEqDiff, not_false_eq_true, ca]
                                             refine m_orNone s14 ?_
                                             try simp only [zwr_rne, zwr_req, upd_ne, upd_eq, ne_eq, Nat.reduceEqDiff, not_false_eq_true, ca]
                                             exact ⟨by first | rfl | trivial, hh⟩
                                       · exfalso; (try simp only [zwr_rne, zwr_req, upd_ne, upd_eq, ne_eq, Nat.reduceEqDiff, not_false_eq_true, ca] at g17); omega
                                    · exfalso; (try simp only [zwr_rne, zwr_req, upd_ne, upd_eq, ne_eq, Nat.reduceEqDiff, not_false_eq_true, ca] at g16); omega
                              · exfalso; (try simp only [zwr_rne, zwr_req, upd_ne, upd_eq, ne_eq, Nat.reduceEqDiff, not_false_eq_true, ca] at g14); omega
                        · exfalso; (try simp only [zwr_rne, zwr_req, upd_ne, upd_eq, ne_eq, Nat.reduceEqDiff, not_false_eq_true, ca] at g12); omega
                     · try simp only [zwr_rne, zwr_req, upd_ne, upd_eq, ne_eq, Nat.reduceEqDiff, not_false_eq_true, ca] at g11
                       try omega
                       all_goals
                        refine en_X12_charge ?_
                        try simp only [zwr_rne, zwr_req, upd_ne, upd_eq, ne_eq, Nat.reduceEqDiff, not_false_eq_true, ca]
                        refine m_isAsset (by first | omega | (simp only [zwr_rne, zwr_req, upd_ne, upd_eq, ne_eq, Nat.reduceEqDiff, not_false_eq_true, ca]; omega)) (fun g19 g19' => ?_) (fun g19 => ?_)
                        · try simp only [zwr_rne, zwr_req, upd_ne, upd_eq, ne_eq, Nat.reduceEqDiff, not_false_eq_true, ca] at g19
                          try simp only [zwr_rne, zwr_req, upd_ne, upd_eq, ne_eq, Nat.reduceEqDiff, not_false_eq_true, ca] at g19'
                          try omega
                          all_goals
                           try simp only [one_ne, zero_eq, if_false, if_true, or_true, true_or, or_false, false_or]
                           try simp only [zwr_rne, zwr_req, upd_ne, upd_eq, ne_eq, Nat.reduceEqDiff, not_false_eq_true, ca]
                           refine zeq (fun g20 => ?_) (fun g20 => ?_)
                           · exfalso; (try simp only [zwr_rne, zwr_req, upd_ne, upd_eq, ne_eq, Nat.reduceEqDiff, not_false_eq_true, ca] at g20); omega
                           · try simp only [zwr_rne, zwr_req, upd_ne, upd_eq, ne_eq, Nat.reduceEqDiff, not_false_eq_true, ca] at g20
                             try omega
                             all_goals
                              try simp only [zwr_rne, zwr_req, upd_ne, upd_eq, ne_eq, Nat.reduceEqDiff, not_false_eq_true, ca]
                              refine m_isClaim (by first | omega | (simp only [zwr_rne, zwr_req, upd_ne, upd_eq, ne_eq, Nat.reduceEqDiff, not_false_eq_true, ca]; omega)) (fun g21 g21' => ?_) (fun g21 => ?_)
                              · try simp only [zwr_rne, zwr_req, upd_ne, upd_eq, ne_eq, Nat.reduceEqDiff, not_false_eq_true, ca] at g21
                                try simp only [zwr_rne, zwr_req, upd_ne, upd_eq, ne_eq, Nat.reduceEqDiff, not_false_eq_true, ca] at g21'
                                try omega
                                all_goals
                                 try simp only [one_ne, zero_eq, if_false, if_true, or_true, true_or, or_false, false_or]
                                 try simp only [zwr_rne, zwr_req, upd_ne, upd_eq, ne_eq, Nat.reduceEqDiff, not_false_eq_true, ca]
                                 refine zeq (fun g22 => ?_) (fun g22 => ?_)
                                 · exfalso; (try simp only [zwr_rne, zwr_req, upd_ne, upd_eq, ne_eq, Nat.reduceEqDiff, not_false_eq_true, ca] at g22); omega
                                 · try simp only [zwr_rne, zwr_req, upd_ne, upd_eq, ne_eq, Nat.reduceEqDiff, not_false_eq_true, ca] at g22
                                   try omega
                                   all_goals
                                    try simp only [zwr_rne, zwr_req, upd_ne, upd_eq, ne_eq, Nat.reduceEqDiff, not_false_eq_true, ca]
                                    refine ⟨by first | assumption | exact vin (by omega) | exact vp_in_I.mpr (by omega), ?_⟩
                                    refine zeq (fun g23 => ?_) (fun g23 => ?_)
                                    · try simp only [zwr_rne, zwr_req, upd_ne, upd_eq, ne_eq, Nat.reduceEqDiff, not_false_eq_true, ca] at g23
                                      try omega
                                      all_goals
                                       try simp only [zwr_rne, zwr_req, upd_ne, upd_eq, ne_eq, Nat.reduceEqDiff, not_false_eq_true, ca]
                                       refine ⟨by first | assumption | exact vin (by omega) | exact vp_in_I.mpr (by omega), ?_⟩
                                       refine ⟨by first | assumption | exact vin (by omega) | exact vp_in_I.mpr (by omega), ?_⟩
                                       refine zeq (fun g24 => ?_) (fun g24 => ?_)
                                       · exfalso; (try simp only [zwr_rne, zwr_req, upd_ne, upd_eq, ne_eq, Nat.reduceEqDiff, not_false_eq_true, ca] at g24); omega
                                       · try simp only [zwr_rne, zwr_req, upd_ne, upd_eq, ne_eq, Nat.reduceEqDiff, not_false_eq_true, ca] at g24
                                         try omega
                                         all_goals
                                          try simp only [zwr_rne, zwr_req, upd_ne, upd_eq, ne_eq, Nat.reduceEqDiff, not_false_eq_true, ca]
                                          exact ⟨by first | rfl | trivial, hh⟩
                                    · exfalso; (try simp only [zwr_rne, zwr_req, upd_ne, upd_eq, ne_eq, Nat.reduceEqDiff, not_false_eq_true, ca] at g23); omega
                              · exfalso; (try simp only [zwr_rne, zwr_req, upd_ne, upd_eq, ne_eq, Nat.reduceEqDiff, not_false_eq_true, ca] at g21); omega
                        · exfalso; (try simp only [zwr_rne, zwr_req, upd_ne, upd_eq, ne_eq, Nat.reduceEqDiff, not_false_eq_true, ca] at g19); omega
                  · try simp only [zwr_rne, zwr_req, upd_ne, upd_eq, ne_eq, Nat.reduceEqDiff, not_false_eq_true, ca] at g10
                    try omega
                    all_goals
                     refine en_X12_charge ?_
                     try simp only [zwr_rne, zwr_req, upd_ne, upd_eq, ne_eq, Nat.reduceEqDiff, not_false_eq_true, ca]
                     refine m_isAsset (by first | omega | (simp only [zwr_rne, zwr_req, upd_ne, upd_eq, ne_eq, Nat.reduceEqDiff, not_false_eq_true, ca]; omega)) (fun g25 g25' => ?_) (fun g25 => ?_)
                     · try simp only [zwr_rne, zwr_req, upd_ne, upd_eq, ne_eq, Nat.reduceEqDiff, not_false_eq_true, ca] at g25
                       try simp only [zwr_rne, zwr_req, upd_ne, upd_eq, ne_eq, Nat.reduceEqDiff, not_false_eq_true, ca] at g25'
                       try omega
                       all_goals
                        try simp only [one_ne, zero_eq, if_false, if_true, or_true, true_or, or_false, false_or]
                        try simp only [zwr_rne, zwr_req, upd_ne, upd_eq, ne_eq, Nat.reduceEqDiff, not_false_eq_true, ca]
                        refine zeq (fun g26 => ?_) (fun g26 => ?_)
                        · exfalso; (try simp only [zwr_rne, zwr_req, upd_ne, upd_eq, ne_eq, Nat.reduceEqDiff, not_false_eq_true, ca] at g26); omega
                        · try simp only [zwr_rne, zwr_req, upd_ne, upd_eq, ne_eq, Nat.reduceEqDiff, not_false_eq_true, ca] at g26
                          try omega
                          all_goals
                           try simp only [zwr_rne, zwr_req, upd_ne, upd_eq, ne_eq, Nat.reduceEqDiff, not_false_eq_true, ca]
                           refine m_isClaim (by first | omega | (simp only [zwr_rne, zwr_req, upd_ne, upd_eq, ne_eq, Nat.reduceEqDiff, not_false_eq_true, ca]; omega)) (fun g27 g27' => ?_) (fun g27 => ?_)
                           · try simp only [zwr_rne, zwr_req, upd_ne, upd_eq, ne_eq, Nat.reduceEqDiff, not_false_eq_true, ca] at g27
                             try simp only [zwr_rne, zwr_req, upd_ne, upd_eq, ne_eq, Nat.reduceEqDiff, not_false_eq_true, ca] at g27'
                             try omega
                             all_goals
                              try simp only [one_ne, zero_eq, if_false, if_true, or_true, true_or, or_false, false_or]
                              try simp only [zwr_rne, zwr_req, upd_ne, upd_eq, ne_eq, Nat.reduceEqDiff, not_false_eq_true, ca]
                              refine zeq (fun g28 => ?_) (fun g28 => ?_)
                              · exfalso; (try simp only [zwr_rne, zwr_req, upd_ne, upd_eq, ne_eq, Nat.reduceEqDiff, not_false_eq_true, ca] at g28); omega
                              · try simp only [zwr_rne, zwr_req, upd_ne, upd_eq, ne_eq, Nat.reduceEqDiff, not_false_eq_true, ca] at g28
                                try omega
                                all_goals
                                 try simp only [zwr_rne, zwr_req, upd_ne, upd_eq, ne_eq, Nat.reduceEqDiff, not_false_eq_true, ca]
                                 refine ⟨by first | assumption | exact vin (by omega) | exact vp_in_I.mpr (by omega), ?_⟩
                                 refine zeq (fun g29 => ?_) (fun g29 => ?_)
                                 · exfalso; (try simp only [zwr_rne, zwr_req, upd_ne, upd_eq, ne_eq, Nat.reduceEqDiff, not_false_eq_true, ca] at g29); omega
                                 · try simp only [zwr_rne, zwr_req, upd_ne, upd_eq, ne_eq, Nat.reduceEqDiff, not_false_eq_true, ca] at g29
                                   try omega
                                   all_goals
                                    try simp only [zwr_rne, zwr_req, upd_ne, upd_eq, ne_eq, Nat.reduceEqDiff, not_false_eq_true, ca]
                                    exact ⟨by first | rfl | trivial, hh⟩
                           · exfalso; (try simp only [zwr_rne, zwr_req, upd_ne, upd_eq, ne_eq, Nat.reduceEqDiff, not_false_eq_true, ca] at g27); omega
                     · exfalso; (try simp only [zwr_rne, zwr_req, upd_ne, upd_eq, ne_eq, Nat.reduceEqDiff, not_false_eq_true, ca] at g25); omega
            · try simp only [zwr_rne, zwr_req, upd_ne, upd_eq, ne_eq, Nat.reduceEqDiff, not_false_eq_true, ca] at g8
              try omega
              all_goals
               try simp only [one_ne, zero_eq, if_false, if_true, or_true, true_or, or_false, false_or]
               refine en_X12_charge ?_
               try simp only [zwr_rne, zwr_req, upd_ne, upd_eq, ne_eq, Nat.reduceEqDiff, not_false_eq_true, ca]
               refine m_isAsset (by first | omega | (simp only [zwr_rne, zwr_req, upd_ne, upd_eq, ne_eq, Nat.reduceEqDiff, not_false_eq_true, ca]; omega)) (fun g30 g30' => ?_) (fun g30 => ?_)
               · try simp only [zwr_rne, zwr_req, upd_ne, upd_eq, ne_eq, Nat.reduceEqDiff, not_false_eq_true, ca] at g30
                 try simp only [zwr_rne, zwr_req, upd_ne, upd_eq, ne_eq, Nat.reduceEqDiff, not_false_eq_true, ca] at g30'
                 try omega
                 all_goals
                  try simp only [one_ne, zero_eq, if_false, if_true, or_true, true_or, or_false, false_or]
                  try simp only [zwr_rne, zwr_req, upd_ne, upd_eq, ne_eq, Nat.reduceEqDiff, not_false_eq_true, ca]
                  refine zeq (fun g31 => ?_) (fun g31 => ?_)
                  · exfalso; (try simp only [zwr_rne, zwr_req, upd_ne, upd_eq, ne_eq, Nat.reduceEqDiff, not_false_eq_true, ca] at g31); omega
                  · try simp only [zwr_rne, zwr_req, upd_ne, upd_eq, ne_eq, Nat.reduceEqDiff, not_false_eq_true, ca] at g31
                    try omega
                    all_goals
                     try simp only [zwr_rne, zwr_req, upd_ne, upd_eq, ne_eq, Nat.reduceEqDiff, not_false_eq_true, ca]
                     refine m_isClaim (by first | omega | (simp only [zwr_rne, zwr_req, upd_ne, upd_eq, ne_eq, Nat.reduceEqDiff, not_false_eq_true, ca]; omega)) (fun g32 g32' => ?_) (fun g32 => ?_)
                     · exfalso; (try simp only [zwr_rne, zwr_req, upd_ne, upd_eq, ne_eq, Nat.reduceEqDiff, not_false_eq_true, ca] at g32); (try simp only [zwr_rne, zwr_req, upd_ne, upd_eq, ne_eq, Nat.reduceEqDiff, not_false_eq_true, ca] at g32'); omega
                     · try simp only [zwr_rne, zwr_req, upd_ne, upd_eq, ne_eq, Nat.reduceEqDiff, not_false_eq_true, ca] at g32
                       try omega
                       all_goals
                        try simp only [one_ne, zero_eq, if_false, if_true, or_true, true_or, or_false, false_or]
                        try simp only [zwr_rne, zwr_req, upd_ne, upd_eq, ne_eq, Nat.reduceEqDiff, not_false_eq_true, ca]
                        exact ⟨by first | rfl | trivial, hh⟩
               · exfalso; (try simp only [zwr_rne, zwr_req, upd_ne, upd_eq, ne_eq, Nat.reduceEqDiff, not_false_eq_true, ca] at g30); omega
      · try simp only [zwr_rne, zwr_req, upd_ne, upd_eq, ne_eq, Nat.reduceEqDiff, not_false_eq_true, ca] at g1
        try omega
        all_goals
         try simp only [one_ne, zero_eq, if_false, if_true, or_true, true_or, or_false, false_or]
         refine en_X12_charge ?_
         try simp only [zwr_rne, zwr_req, upd_ne, upd_eq, ne_eq, Nat.reduceEqDiff, not_false_eq_true, ca]
         refine m_isAsset (by first | omega | (simp only [zwr_rne, zwr_req, upd_ne, upd_eq, ne_eq, Nat.reduceEqDiff, not_false_eq_true, ca]; omega)) (fun g33 g33' => ?_) (fun g33 => ?_)
         · exfalso; (try simp only [zwr_rne, zwr_req, upd_ne, upd_eq, ne_eq, Nat.reduceEqDiff, not_false_eq_true, ca] at g33); (try simp only [zwr_rne, zwr_req, upd_ne, upd_eq, ne_eq, Nat.reduceEqDiff, not_false_eq_true, ca] at g33'); omega
         · try simp only [zwr_rne, zwr_req, upd_ne, upd_eq, ne_eq, Nat.reduceEqDiff, not_false_eq_true, ca] at g33
           try omega
           all_goals
            try simp only [one_ne, zero_eq, if_false, if_true, or_true, true_or, or_false, false_or]
            try simp only [zwr_rne, zwr_req, upd_ne, upd_eq, ne_eq, Nat.reduceEqDiff, not_false_eq_true, ca]
            exact ⟨by first | rfl | trivial, hh⟩
    · have tc := tin hc2
      have cc : (nI c).toNatClampNeg = c := cln hc2
      have vc : vp_in (nI c) 24 := vin (by omega)
      obtain ⟨q1, q2, q3, q4, q5, q6, q7, q8, q9, q10, q11, q12⟩ := kcl.1 c hc
      have fq1 : (σ 2 c).toInt = (σ 78 c).toInt := by rw [q1]
      have fq2 : (σ 3 c).toInt = (σ 79 c).toInt := by rw [q2]
      refine en_X11_charge ?_
      try simp only [zwr_rne, zwr_req, upd_ne, upd_eq, ne_eq, Nat.reduceEqDiff, not_false_eq_true, ca, cc]
      refine c_hasA (fun g1 g1' => ?_) (fun g1 => ?_)
      · try simp only [zwr_rne, zwr_req, upd_ne, upd_eq, ne_eq, Nat.reduceEqDiff, not_false_eq_true, ca, cc] at g1
        try simp only [zwr_rne, zwr_req, upd_ne, upd_eq, ne_eq, Nat.reduceEqDiff, not_false_eq_true, ca, cc] at g1'
        try omega
        all_goals
         try simp only [one_ne, zero_eq, if_false, if_true, or_true, true_or, or_false, false_or]
         refine zeq (fun g2 => ?_) (fun g2 => ?_)
         · try simp only [zwr_rne, zwr_req, upd_ne, upd_eq, ne_eq, Nat.reduceEqDiff, not_false_eq_true, ca, cc] at g2
           try omega
           all_goals
            refine zeq (fun g3 => ?_) (fun g3 => ?_)
            · try simp only [zwr_rne, zwr_req, upd_ne, upd_eq, ne_eq, Nat.reduceEqDiff, not_false_eq_true, ca, cc] at g3
              try omega
              all_goals
               refine ⟨by first | assumption | exact vin (by omega) | exact vp_in_I.mpr (by omega), ?_⟩
               refine ⟨by first | assumption | exact vin (by omega) | exact vp_in_I.mpr (by omega), ?_⟩
               rintro _ rfl
               try simp only [zwr_rne, zwr_req, upd_ne, upd_eq, ne_eq, Nat.reduceEqDiff, not_false_eq_true, ca, cc]
               refine c_changed ?_
               try simp only [zwr_rne, zwr_req, upd_ne, upd_eq, ne_eq, Nat.reduceEqDiff, not_false_eq_true, ca, cc]
               refine en_X12_charge ?_
               try simp only [zwr_rne, zwr_req, upd_ne, upd_eq, ne_eq, Nat.reduceEqDiff, not_false_eq_true, ca, cc]
               refine m_isAsset (by first | omega | (simp only [zwr_rne, zwr_req, upd_ne, upd_eq, ne_eq, Nat.reduceEqDiff, not_false_eq_true, ca, cc]; omega)) (fun g4 g4' => ?_) (fun g4 => ?_)
               · try simp only [zwr_rne, zwr_req, upd_ne, upd_eq, ne_eq, Nat.reduceEqDiff, not_false_eq_true, ca, cc] at g4
                 try simp only [zwr_rne, zwr_req, upd_ne, upd_eq, ne_eq, Nat.reduceEqDiff, not_false_eq_true, ca, cc] at g4'
                 try omega
                 all_goals
                  try simp only [one_ne, zero_eq, if_false, if_true, or_true, true_or, or_false, false_or]
                  try simp only [zwr_rne, zwr_req, upd_ne, upd_eq, ne_eq, Nat.reduceEqDiff, not_false_eq_true, ca, cc]
                  refine zeq (fun g5 => ?_) (fun g5 => ?_)
                  · try simp only [zwr_rne, zwr_req, upd_ne, upd_eq, ne_eq, Nat.reduceEqDiff, not_false_eq_true, ca, cc] at g5
                    try omega
                    all_goals
                     try simp only [zwr_rne, zwr_req, upd_ne, upd_eq, ne_eq, Nat.reduceEqDiff, not_false_eq_true, ca, cc]
                     refine zeq (fun g6 => ?_) (fun g6 => ?_)
                     · try simp only [zwr_rne, zwr_req, upd_ne, upd_eq, ne_eq, Nat.reduceEqDiff, not_false_eq_true, ca, cc] at g6
                       try omega
                       all_goals
                        try simp only [zwr_rne, zwr_req, upd_ne, upd_eq, ne_eq, Nat.reduceEqDiff, not_false_eq_true, ca, cc]
                        refine ⟨by first | assumption | exact vin (by omega) | exact vp_in_I.mpr (by omega), ?_⟩
                        refine zeq (fun g7 => ?_) (fun g7 => ?_)
                        · try simp only [zwr_rne, zwr_req, upd_ne, upd_eq, ne_eq, Nat.reduceEqDiff, not_false_eq_true, ca, cc] at g7
                          try omega
                          all_goals
                           try simp only [zwr_rne, zwr_req, upd_ne, upd_eq, ne_eq, Nat.reduceEqDiff, not_false_eq_true, ca, cc]
                           refine ⟨by first | assumption | exact vin (by omega) | exact vp_in_I.mpr (by omega), ?_⟩
                           rintro _ rfl
                           try simp only [zwr_rne, zwr_req, upd_ne, upd_eq, ne_eq, Nat.reduceEqDiff, not_false_eq_true, ca, cc]
                           refine m_orNone s14 ?_
                           try simp only [zwr_rne, zwr_req, upd_ne, upd_eq, ne_eq, Nat.reduceEqDiff, not_false_eq_true, ca, cc]
                           refine ⟨s5, ?_⟩
                           unfold Rall
                           simp only [zwr_rne, zwr_req, upd_ne, upd_eq, ne_eq, Nat.reduceEqDiff, not_false_eq_true]
                           exact ⟨⟨k1, k2, k3, k4, k5, k6, k7, k8, k9⟩, kas.setC (enc_nn (by omega)).symm (by omega) (by omega), kcl, kda, kdh, kpl, kkp, ksh, kwt, ktp, klw, ksd, Rwx_stale, Rwx_stale⟩
                        · exfalso; (try simp only [zwr_rne, zwr_req, upd_ne, upd_eq, ne_eq, Nat.reduceEqDiff, not_false_eq_true, ca, cc] at g7); omega
                     · exfalso; (try simp only [zwr_rne, zwr_req, upd_ne, upd_eq, ne_eq, Nat.reduceEqDiff, not_false_eq_true, ca, cc] at g6); omega
                  · exfalso; (try simp only [zwr_rne, zwr_req, upd_ne, upd_eq, ne_eq, Nat.reduceEqDiff, not_false_eq_true, ca, cc] at g5); omega
               · exfalso; (try simp only [zwr_rne, zwr_req, upd_ne, upd_eq, ne_eq, Nat.reduceEqDiff, not_false_eq_true, ca, cc] at g4); omega
            · exfalso; (try simp only [zwr_rne, zwr_req, upd_ne, upd_eq, ne_eq, Nat.reduceEqDiff, not_false_eq_true, ca, cc] at g3); omega
         · try simp only [zwr_rne, zwr_req, upd_ne, upd_eq, ne_eq, Nat.reduceEqDiff, not_false_eq_true, ca, cc] at g2
           try omega
           all_goals
            refine c_hasC (fun g8 g8' => ?_) (fun g8 => ?_)
            · try simp only [zwr_rne, zwr_req, upd_ne, upd_eq, ne_eq, Nat.reduceEqDiff, not_false_eq_true, ca, cc] at g8
              try simp only [zwr_rne, zwr_req, upd_ne, upd_eq, ne_eq, Nat.reduceEqDiff, not_false_eq_true, ca, cc] at g8'
              try omega
              all_goals
               try simp only [one_ne, zero_eq, if_false, if_true, or_true, true_or, or_false, false_or]
               refine zeq (fun g9 => ?_) (fun g9 => ?_)
               · exfalso; (try simp only [zwr_rne, zwr_req, upd_ne, upd_eq, ne_eq, Nat.reduceEqDiff, not_false_eq_true, ca, cc] at g9); omega
               · try simp only [zwr_rne, zwr_req, upd_ne, upd_eq, ne_eq, Nat.reduceEqDiff, not_false_eq_true, ca, cc] at g9
                 try omega
                 all_goals
                  refine ⟨by first | assumption | exact vin (by omega) | exact vp_in_I.mpr (by omega), ?_⟩
                  refine zeq (fun g10 => ?_) (fun g10 => ?_)
                  · try simp only [zwr_rne, zwr_req, upd_ne, upd_eq, ne_eq, Nat.reduceEqDiff, not_false_eq_true, ca, cc] at g10
                    try omega
                    all_goals
                     refine ⟨by first | assumption | exact vin (by omega) | exact vp_in_I.mpr (by omega), ?_⟩
                     refine ⟨by first | assumption | exact vin (by omega) | exact vp_in_I.mpr (by omega), ?_⟩
                     refine zeq (fun g11 => ?_) (fun g11 => ?_)
                     · try simp only [zwr_rne, zwr_req, upd_ne, upd_eq, ne_eq, Nat.reduceEqDiff, not_false_eq_true, ca, cc] at g11
                       try omega
                       all_goals
                        refine ⟨by first | assumption | exact vin (by omega) | exact vp_in_I.mpr (by omega), ?_⟩
                        refine ⟨by first | assumption | exact vin (by omega) | exact vp_in_I.mpr (by omega), ?_⟩
                        rintro _ rfl
                        try simp only [zwr_rne, zwr_req, upd_ne, upd_eq, ne_eq, Nat.reduceEqDiff, not_false_eq_true, ca, cc]
                        refine c_changed ?_
                        try simp only [zwr_rne, zwr_req, upd_ne, upd_eq, ne_eq, Nat.reduceEqDiff, not_false_eq_true, ca, cc]
                        refine en_X12_charge ?_
                        try simp only [zwr_rne, zwr_req, upd_ne, upd_eq, ne_eq, Nat.reduceEqDiff, not_false_eq_true, ca, cc]
                        refine m_isAsset (by first | omega | (simp only [zwr_rne, zwr_req, upd_ne, upd_eq, ne_eq, Nat.reduceEqDiff, not_false_eq_true, ca, cc]; omega)) (fun g12 g12' => ?_) (fun g12 => ?_)
                        · try simp only [zwr_rne, zwr_req, upd_ne, upd_eq, ne_eq, Nat.reduceEqDiff, not_false_eq_true, ca, cc] at g12
                          try simp only [zwr_rne, zwr_req, upd_ne, upd_eq, ne_eq, Nat.reduceEqDiff, not_false_eq_true, ca, cc] at g12'
                          try omega
                          all_goals
                           try simp only [one_ne, zero_eq, if_false, if_true, or_true, true_or, or_false, false_or]
                           try simp only [zwr_rne, zwr_req, upd_ne, upd_eq, ne_eq, Nat.reduceEqDiff, not_false_eq_true, ca, cc]
                           refine zeq (fun g13 => ?_) (fun g13 => ?_)
                           · exfalso; (try simp only [zwr_rne, zwr_req, upd_ne, upd_eq, ne_eq, Nat.reduceEqDiff, not_false_eq_true, ca, cc] at g13); omega
                           · try simp only [zwr_rne, zwr_req, upd_ne, upd_eq, ne_eq, Nat.reduceEqDiff, not_false_eq_true, ca, cc] at g13
                             try omega
                             all_goals
                              try simp only [zwr_rne, zwr_req, upd_ne, upd_eq, ne_eq, Nat.reduceEqDiff, not_false_eq_true, ca, cc]
                              refine m_isClaim (by first | omega | (simp only [zwr_rne, zwr_req, upd_ne, upd_eq, ne_eq, Nat.reduceEqDiff, not_false_eq_true, ca, cc]; omega)) (fun g14 g14' => ?_) (fun g14 => ?_)
                              · try simp only [zwr_rne, zwr_req, upd_ne, upd_eq, ne_eq, Nat.reduceEqDiff, not_false_eq_true, ca, cc] at g14
                                try simp only [zwr_rne, zwr_req, upd_ne, upd_eq, ne_eq, Nat.reduceEqDiff, not_false_eq_true, ca, cc] at g14'
                                try omega
                                all_goals
                                 try simp only [one_ne, zero_eq, if_false, if_true, or_true, true_or, or_false, false_or]
                                 try simp only [zwr_rne, zwr_req, upd_ne, upd_eq, ne_eq, Nat.reduceEqDiff, not_false_eq_true, ca, cc]
                                 refine zeq (fun g15 => ?_) (fun g15 => ?_)
                                 · exfalso; (try simp only [zwr_rne, zwr_req, upd_ne, upd_eq, ne_eq, Nat.reduceEqDiff, not_false_eq_true, ca, cc] at g15); omega
                                 · try simp only [zwr_rne, zwr_req, upd_ne, upd_eq, ne_eq, Nat.reduceEqDiff, not_false_eq_true, ca, cc] at g15
                                   try omega
                                   all_goals
                                    try simp only [zwr_rne, zwr_req, upd_ne, upd_eq, ne_eq, Nat.reduceEqDiff, not_false_eq_true, ca, cc]
                                    refine ⟨by first | assumption | exact vin (by omega) | exact vp_in_I.mpr (by omega), ?_⟩
                                    refine zeq (fun g16 => ?_) (fun g16 => ?_)
                                    · try simp only [zwr_rne, zwr_req, upd_ne, upd_eq, ne_eq, Nat.reduceEqDiff, not_false_eq_true, ca, cc] at g16
                                      try omega
                                      all_goals
                                       try simp only [zwr_rne, zwr_req, upd_ne, upd_eq, ne_eq, Nat.reduceEqDiff, not_false_eq_true, ca, cc]
                                       refine ⟨by first | assumption | exact vin (by omega) | exact vp_in_I.mpr (by omega), ?_⟩
                                       refine ⟨by first | assumption | exact vin (by omega) | exact vp_in_I.mpr (by omega), ?_⟩
                                       refine zeq (fun g17 => ?_) (fun g17 => ?_)
                                       · try simp only [zwr_rne, zwr_req, upd_ne, upd_eq, ne_eq, Nat.reduceEqDiff, not_false_eq_true, ca, cc] at g17
                                         try omega
                                         all_goals
                                          try simp only [zwr_rne, zwr_req, upd_ne, upd_eq, ne_eq, Nat.reduceEqDiff, not_false_eq_true, ca, cc]
                                          refine ⟨by first | assumption | exact vin (by omega) | exact vp_in_I.mpr (by omega), ?_⟩
                                          refine zeq (fun g18 => ?_) (fun g18 => ?_)
                                          · exfalso; (try simp only [zwr_rne, zwr_req, upd_ne, upd_eq, ne_eq, Nat.reduceEqDiff, not_false_eq_true, ca, cc] at g18); omega
                                          · try simp only [zwr_rne, zwr_req, upd_ne, upd_eq, ne_eq, Nat.reduceEqDiff, not_false_eq_true, ca, cc] at g18
                                            try omega
                                            all_goals
                                             try simp only [zwr_rne, zwr_req, upd_ne, upd_eq, ne_eq, Nat.reduceEqDiff, not_false_eq_true, ca, cc]
                                             refine ⟨by first | assumption | exact vin (by omega) | exact vp_in_I.mpr (by omega), ?_⟩
                                             rintro _ rfl
                                             try simp only [zwr_rne, zwr_req, upd_ne, upd_eq, ne_eq, Nat.reduceEqDiff, not_false_eq_true, ca, cc]
                                             refine m_orNone s14 ?_
                                             try simp only [zwr_rne, zwr_req, upd_ne, upd_eq, ne_eq, Nat.reduceEqDiff, not_false_eq_true, ca, cc]
                                             refine ⟨s5, ?_⟩
                                             unfold Rall
                                             simp only [zwr_rne, zwr_req, upd_ne, upd_eq, ne_eq, Nat.reduceEqDiff, not_false_eq_true]
                                             exact ⟨⟨k1, k2, k3, k4, k5, k6, k7, k8, k9⟩, kas.setC (enc_nn (by omega)).symm (by omega) (by omega), kcl, kda, kdh, kpl, kkp, ksh, kwt, ktp, klw, ksd, Rwx_stale, Rwx_stale⟩
                                       · exfalso; (try simp only [zwr_rne, zwr_req, upd_ne, upd_eq, ne_eq, Nat.reduceEqDiff, not_false_eq_true, ca, cc] at g17); omega
                                    · exfalso; (try simp only [zwr_rne, zwr_req, upd_ne, upd_eq, ne_eq, Nat.reduceEqDiff, not_false_eq_true, ca, cc] at g16); omega
                              · exfalso; (try simp only [zwr_rne, zwr_req, upd_ne, upd_eq, ne_eq, Nat.reduceEqDiff, not_false_eq_true, ca, cc] at g14); omega
                        · exfalso; (try simp only [zwr_rne, zwr_req, upd_ne, upd_eq, ne_eq, Nat.reduceEqDiff, not_false_eq_true, ca, cc] at g12); omega
                     · try simp only [zwr_rne, zwr_req, upd_ne, upd_eq, ne_eq, Nat.reduceEqDiff, not_false_eq_true, ca, cc] at g11
                       try omega
                       all_goals
                        refine en_X12_charge ?_
                        try simp only [zwr_rne, zwr_req, upd_ne, upd_eq, ne_eq, Nat.reduceEqDiff, not_false_eq_true, ca, cc]
                        refine m_isAsset (by first | omega | (simp only [zwr_rne, zwr_req, upd_ne, upd_eq, ne_eq, Nat.reduceEqDiff, not_false_eq_true, ca, cc]; omega)) (fun g19 g19' => ?_) (fun g19 => ?_)
                        · try simp only [zwr_rne, zwr_req, upd_ne, upd_eq, ne_eq, Nat.reduceEqDiff, not_false_eq_true, ca, cc] at g19
                          try simp only [zwr_rne, zwr_req, upd_ne, upd_eq, ne_eq, Nat.reduceEqDiff, not_false_eq_true, ca, cc] at g19'
                          try omega
                          all_goals
                           try simp only [one_ne, zero_eq, if_false, if_true, or_true, true_or, or_false, false_or]
                           try simp only [zwr_rne, zwr_req, upd_ne, upd_eq, ne_eq, Nat.reduceEqDiff, not_false_eq_true, ca, cc]
                           refine zeq (fun g20 => ?_) (fun g20 => ?_)
                           · exfalso; (try simp only [zwr_rne, zwr_req, upd_ne, upd_eq, ne_eq, Nat.reduceEqDiff, not_false_eq_true, ca, cc] at g20); omega
                           · try simp only [zwr_rne, zwr_req, upd_ne, upd_eq, ne_eq, Nat.reduceEqDiff, not_false_eq_true, ca, cc] at g20
                             try omega
                             all_goals
                              try simp only [zwr_rne, zwr_req, upd_ne, upd_eq, ne_eq, Nat.reduceEqDiff, not_false_eq_true, ca, cc]
                              refine m_isClaim (by first | omega | (simp only [zwr_rne, zwr_req, upd_ne, upd_eq, ne_eq, Nat.reduceEqDiff, not_false_eq_true, ca, cc]; omega)) (fun g21 g21' => ?_) (fun g21 => ?_)
                              · try simp only [zwr_rne, zwr_req, upd_ne, upd_eq, ne_eq, Nat.reduceEqDiff, not_false_eq_true, ca, cc] at g21
                                try simp only [zwr_rne, zwr_req, upd_ne, upd_eq, ne_eq, Nat.reduceEqDiff, not_false_eq_true, ca, cc] at g21'
                                try omega
                                all_goals
                                 try simp only [one_ne, zero_eq, if_false, if_true, or_true, true_or, or_false, false_or]
                                 try simp only [zwr_rne, zwr_req, upd_ne, upd_eq, ne_eq, Nat.reduceEqDiff, not_false_eq_true, ca, cc]
                                 refine zeq (fun g22 => ?_) (fun g22 => ?_)
                                 · exfalso; (try simp only [zwr_rne, zwr_req, upd_ne, upd_eq, ne_eq, Nat.reduceEqDiff, not_false_eq_true, ca, cc] at g22); omega
                                 · try simp only [zwr_rne, zwr_req, upd_ne, upd_eq, ne_eq, Nat.reduceEqDiff, not_false_eq_true, ca, cc] at g22
                                   try omega
                                   all_goals
                                    try simp only [zwr_rne, zwr_req, upd_ne, upd_eq, ne_eq, Nat.reduceEqDiff, not_false_eq_true, ca, cc]
                                    refine ⟨by first | assumption | exact vin (by omega) | exact vp_in_I.mpr (by omega), ?_⟩
                                    refine zeq (fun g23 => ?_) (fun g23 => ?_)
                                    · try simp only [zwr_rne, zwr_req, upd_ne, upd_eq, ne_eq, Nat.reduceEqDiff, not_false_eq_true, ca, cc] at g23
                                      try omega
                                      all_goals
                                       try simp only [zwr_rne, zwr_req, upd_ne, upd_eq, ne_eq, Nat.reduceEqDiff, not_false_eq_true, ca, cc]
                                       refine ⟨by first | assumption | exact vin (by omega) | exact vp_in_I.mpr (by omega), ?_⟩
                                       refine ⟨by first | assumption | exact vin (by omega) | exact vp_in_I.mpr (by omega), ?_⟩
                                       refine zeq (fun g24 => ?_) (fun g24 => ?_)
                                       · exfalso; (try simp only [zwr_rne, zwr_req, upd_ne, upd_eq, ne_eq, Nat.reduceEqDiff, not_false_eq_true, ca, cc] at g24); omega
                                       · try simp only [zwr_rne, zwr_req, upd_ne, upd_eq, ne_eq, Nat.reduceEqDiff, not_false_eq_true, ca, cc] at g24
                                         try omega
                                         all_goals
                                          try simp only [zwr_rne, zwr_req, upd_ne, upd_eq, ne_eq, Nat.reduceEqDiff, not_false_eq_true, ca, cc]
                                          exact ⟨by first | rfl | trivial, hh⟩
                                    · exfalso; (try simp only [zwr_rne, zwr_req, upd_ne, upd_eq, ne_eq, Nat.reduceEqDiff, not_false_eq_true, ca, cc] at g23); omega
                              · exfalso; (try simp only [zwr_rne, zwr_req, upd_ne, upd_eq, ne_eq, Nat.reduceEqDiff, not_false_eq_true, ca, cc] at g21); omega
                        · exfalso; (try simp only [zwr_rne, zwr_req, upd_ne, upd_eq, ne_eq, Nat.reduceEqDiff, not_false_eq_true, ca, cc] at g19); omega
                  · try simp only [zwr_rne, zwr_req, upd_ne, upd_eq, ne_eq, Nat.reduceEqDiff, not_false_eq_true, ca, cc] at g10
                    try omega
                    all_goals
                     refine en_X12_charge ?_
                     try simp only [zwr_rne, zwr_req, upd_ne, upd_eq, ne_eq, Nat.reduceEqDiff, not_false_eq_true, ca, cc]
                     refine m_isAsset (by first | omega | (simp only [zwr_rne, zwr_req, upd_ne, upd_eq, ne_eq, Nat.reduceEqDiff, not_false_eq_true, ca, cc]; omega)) (fun g25 g25' => ?_) (fun g25 => ?_)
                     · try simp only [zwr_rne, zwr_req, upd_ne, upd_eq, ne_eq, Nat.reduceEqDiff, not_false_eq_true, ca, cc] at g25
                       try simp only [zwr_rne, zwr_req, upd_ne, upd_eq, ne_eq, Nat.reduceEqDiff, not_false_eq_true, ca, cc] at g25'
                       try omega
                       all_goals
                        try simp only [one_ne, zero_eq, if_false, if_true, or_true, true_or, or_false, false_or]
                        try simp only [zwr_rne, zwr_req, upd_ne, upd_eq, ne_eq, Nat.reduceEqDiff, not_false_eq_true, ca, cc]
                        refine zeq (fun g26 => ?_) (fun g26 => ?_)
                        · exfalso; (try simp only [zwr_rne, zwr_req, upd_ne, upd_eq, ne_eq, Nat.reduceEqDiff, not_false_eq_true, ca, cc] at g26); omega
                        · try simp only [zwr_rne, zwr_req, upd_ne, upd_eq, ne_eq, Nat.reduceEqDiff, not_false_eq_true, ca, cc] at g26
                          try omega
                          all_goals
                           try simp only [zwr_rne, zwr_req, upd_ne, upd_eq, ne_eq, Nat.reduceEqDiff, not_false_eq_true, ca, cc]
                           refine m_isClaim (by first | omega | (simp only [zwr_rne, zwr_req, upd_ne, upd_eq, ne_eq, Nat.reduceEqDiff, not_false_eq_true, ca, cc]; omega)) (fun g27 g27' => ?_) (fun g27 => ?_)
                           · try simp only [zwr_rne, zwr_req, upd_ne, upd_eq, ne_eq, Nat.reduceEqDiff, not_false_eq_true, ca, cc] at g27
                             try simp only [zwr_rne, zwr_req, upd_ne, upd_eq, ne_eq, Nat.reduceEqDiff, not_false_eq_true, ca, cc] at g27'
                             try omega
                             all_goals
                              try simp only [one_ne, zero_eq, if_false, if_true, or_true, true_or, or_false, false_or]
                              try simp only [zwr_rne, zwr_req, upd_ne, upd_eq, ne_eq, Nat.reduceEqDiff, not_false_eq_true, ca, cc]
                              refine zeq (fun g28 => ?_) (fun g28 => ?_)
                              · exfalso; (try simp only [zwr_rne, zwr_req, upd_ne, upd_eq, ne_eq, Nat.reduceEqDiff, not_false_eq_true, ca, cc] at g28); omega
                              · try simp only [zwr_rne, zwr_req, upd_ne, upd_eq, ne_eq, Nat.reduceEqDiff, not_false_eq_true, ca, cc] at g28
                                try omega
                                all_goals
                                 try simp only [zwr_rne, zwr_req, upd_ne, upd_eq, ne_eq, Nat.reduceEqDiff, not_false_eq_true, ca, cc]
                                 refine ⟨by first | assumption | exact vin (by omega) | exact vp_in_I.mpr (by omega), ?_⟩
                                 refine zeq (fun g29 => ?_) (fun g29 => ?_)
                                 · exfalso; (try simp only [zwr_rne, zwr_req, upd_ne, upd_eq, ne_eq, Nat.reduceEqDiff, not_false_eq_true, ca, cc] at g29); omega
                                 · try simp only [zwr_rne, zwr_req, upd_ne, upd_eq, ne_eq, Nat.reduceEqDiff, not_false_eq_true, ca, cc] at g29
                                   try omega
                                   all_goals
                                    try simp only [zwr_rne, zwr_req, upd_ne, upd_eq, ne_eq, Nat.reduceEqDiff, not_false_eq_true, ca, cc]
                                    exact ⟨by first | rfl | trivial, hh⟩
                           · exfalso; (try simp only [zwr_rne, zwr_req, upd_ne, upd_eq, ne_eq, Nat.reduceEqDiff, not_false_eq_true, ca, cc] at g27); omega
                     · exfalso; (try simp only [zwr_rne, zwr_req, upd_ne, upd_eq, ne_eq, Nat.reduceEqDiff, not_false_eq_true, ca, cc] at g25); omega
            · try simp only [zwr_rne, zwr_req, upd_ne, upd_eq, ne_eq, Nat.reduceEqDiff, not_false_eq_true, ca, cc] at g8
              try omega
              all_goals
               try simp only [one_ne, zero_eq, if_false, if_true, or_true, true_or, or_false, false_or]
               refine en_X12_charge ?_
               try simp only [zwr_rne, zwr_req, upd_ne, upd_eq, ne_eq, Nat.reduceEqDiff, not_false_eq_true, ca, cc]
               refine m_isAsset (by first | omega | (simp only [zwr_rne, zwr_req, upd_ne, upd_eq, ne_eq, Nat.reduceEqDiff, not_false_eq_true, ca, cc]; omega)) (fun g30 g30' => ?_) (fun g30 => ?_)
               · try simp only [zwr_rne, zwr_req, upd_ne, upd_eq, ne_eq, Nat.reduceEqDiff, not_false_eq_true, ca, cc] at g30
                 try simp only [zwr_rne, zwr_req, upd_ne, upd_eq, ne_eq, Nat.reduceEqDiff, not_false_eq_true, ca, cc] at g30'
                 try omega
                 all_goals
                  try simp only [one_ne, zero_eq, if_false, if_true, or_true, true_or, or_false, false_or]
                  try simp only [zwr_rne, zwr_req, upd_ne, upd_eq, ne_eq, Nat.reduceEqDiff, not_false_eq_true, ca, cc]
                  refine zeq (fun g31 => ?_) (fun g31 => ?_)
                  · exfalso; (try simp only [zwr_rne, zwr_req, upd_ne, upd_eq, ne_eq, Nat.reduceEqDiff, not_false_eq_true, ca, cc] at g31); omega
                  · try simp only [zwr_rne, zwr_req, upd_ne, upd_eq, ne_eq, Nat.reduceEqDiff, not_false_eq_true, ca, cc] at g31
                    try omega
                    all_goals
                     try simp only [zwr_rne, zwr_req, upd_ne, upd_eq, ne_eq, Nat.reduceEqDiff, not_false_eq_true, ca, cc]
                     refine m_isClaim (by first | omega | (simp only [zwr_rne, zwr_req, upd_ne, upd_eq, ne_eq, Nat.reduceEqDiff, not_false_eq_true, ca, cc]; omega)) (fun g32 g32' => ?_) (fun g32 => ?_)
                     · exfalso; (try simp only [zwr_rne, zwr_req, upd_ne, upd_eq, ne_eq, Nat.reduceEqDiff, not_false_eq_true, ca, cc] at g32); (try simp only [zwr_rne, zwr_req, upd_ne, upd_eq, ne_eq, Nat.reduceEqDiff, not_false_eq_true, ca, cc] at g32'); omega
                     · try simp only [zwr_rne, zwr_req, upd_ne, upd_eq, ne_eq, Nat.reduceEqDiff, not_false_eq_true, ca, cc] at g32
                       try omega
                       all_goals
                        try simp only [one_ne, zero_eq, if_false, if_true, or_true, true_or, or_false, false_or]
                        try simp only [zwr_rne, zwr_req, upd_ne, upd_eq, ne_eq, Nat.reduceEqDiff, not_false_eq_true, ca, cc]
                        exact ⟨by first | rfl | trivial, hh⟩
               · exfalso; (try simp only [zwr_rne, zwr_req, upd_ne, upd_eq, ne_eq, Nat.reduceEqDiff, not_false_eq_true, ca, cc] at g30); omega
      · try simp only [zwr_rne, zwr_req, upd_ne, upd_eq, ne_eq, Nat.reduceEqDiff, not_false_eq_true, ca, cc] at g1
        try omega
        all_goals
         try simp only [one_ne, zero_eq, if_false, if_true, or_true, true_or, or_false, false_or]
         refine en_X12_charge ?_
         try simp only [zwr_rne, zwr_req, upd_ne, upd_eq, ne_eq, Nat.reduceEqDiff, not_false_eq_true, ca, cc]
         refine m_isAsset (by first | omega | (simp only [zwr_rne, zwr_req, upd_ne, upd_eq, ne_eq, Nat.reduceEqDiff, not_false_eq_true, ca, cc]; omega)) (fun g33 g33' => ?_) (fun g33 => ?_)
         · exfalso; (try simp only [zwr_rne, zwr_req, upd_ne, upd_eq, ne_eq, Nat.reduceEqDiff, not_false_eq_true, ca, cc] at g33); (try simp only [zwr_rne, zwr_req, upd_ne, upd_eq, ne_eq, Nat.reduceEqDiff, not_false_eq_true, ca, cc] at g33'); omega
         · try simp only [zwr_rne, zwr_req, upd_ne, upd_eq, ne_eq, Nat.reduceEqDiff, not_false_eq_true, ca, cc] at g33
           try omega
           all_goals
            try simp only [one_ne, zero_eq, if_false, if_true, or_true, true_or, or_false, false_or]
            try simp only [zwr_rne, zwr_req, upd_ne, upd_eq, ne_eq, Nat.reduceEqDiff, not_false_eq_true, ca, cc]
            exact ⟨by first | rfl | trivial, hh⟩
