theorem P_asset {G : zGT} {d : Nat} {v1 v2 v3 v4 : Int32} : Pair G (d + 6) Y_X11_asset Y_X12_asset [.inl v1, .inl v2, .inl v3, .inl v4] := by
  intro σ h
  have hh := h
  obtain ⟨⟨k1, k2, k3, k4, k5, k6, k7, k8, k9⟩, kas, kcl, kda, kdh, kpl, kkp, ksh, kwt, ktp, klw, ksd, kw0, kw1⟩ := h
  obtain ⟨e1, b1, u1⟩ := id k1
  obtain ⟨e2, b2, u2⟩ := id k2
  obtain ⟨e3, b3, u3⟩ := id k3
  obtain ⟨e4, b4, u4⟩ := id k4
  obtain ⟨e5, b5, u5⟩ := id k5
  obtain ⟨e6, b6, u6⟩ := id k6
  obtain ⟨e7, b7, u7⟩ := id k7
  obtain ⟨e8, b8, u8⟩ := id k8
  obtain ⟨e9, b9, u9⟩ := id k9
  have f1 : (σ 0 15).toInt = (σ 72 1).toInt := by rw [e1]
  have f2 : (σ 14 5).toInt = (σ 72 2).toInt := by rw [e2]
  have f3 : (σ 1 6).toInt = (σ 72 8).toInt := by rw [e3]
  have f4 : (σ 0 16).toInt = (σ 72 0).toInt := by rw [e4]
  have f5 : (σ 55 7).toInt = (σ 72 22).toInt := by rw [e5]
  have f6 : (σ 14 6).toInt = (σ 72 23).toInt := by rw [e6]
  have f7 : (σ 0 17).toInt = (σ 72 24).toInt := by rw [e7]
  have f8 : (σ 0 13).toInt = (σ 72 25).toInt := by rw [e8]
  have f9 : (σ 46 1).toInt = (σ 72 28).toInt := by rw [e9]
  have l0 := ti0
  have l1 := ti1
  have l2 := ti2
  have l3 := ti3
  have l4 := ti4
  have l5 := ti5
  have l6 := ti6
  have l8 := ti8
  have l9 := ti9
  have l10 := ti10
  have l16 := ti16
  have l20 := ti20
  have l24 := ti24
  have l31 := ti31
  have l60 := ti60
  have l96 := ti96
  have l100 := ti100
  have l200 := ti200
  have l400 := ti400
  have l600 := ti600
  have l1200 := ti1200
  have l100000 := ti100000
  have lm1 := tim1
  have lB := tiB
  have lN := tiN
  obtain ⟨k, hk, hk2, hk3⟩ := num_of b2 u2
  have ck : (nI k).toNatClampNeg = k := cln hk3
  have tk := tin hk3
  have hkt : (σ 72 2).toInt = (k : Int) := by rw [hk]; exact tk
  have kas' := kas
  rw [hk] at e2 f2 kas'
  refine en_X11_asset ?_
  try simp only [zwr_rne, zwr_req, upd_ne, upd_eq, ne_eq, Nat.reduceEqDiff, not_false_eq_true, e2, hk, ck, nI_1]
  refine c_isFirm (fun g1 g1' => ?_) (fun g1 => ?_)
  · try simp only [zwr_rne, zwr_req, upd_ne, upd_eq, ne_eq, Nat.reduceEqDiff, not_false_eq_true, e2, hk, ck, nI_1] at g1
    try simp only [zwr_rne, zwr_req, upd_ne, upd_eq, ne_eq, Nat.reduceEqDiff, not_false_eq_true, e2, hk, ck, nI_1] at g1'
    try omega
    all_goals
      try simp only [one_ne, zero_eq, if_false, if_true, or_true, true_or, or_false, false_or]
      refine c_isWithin (fun g2 g2' => ?_) (fun g2 => ?_)
      · try simp only [zwr_rne, zwr_req, upd_ne, upd_eq, ne_eq, Nat.reduceEqDiff, not_false_eq_true, e2, hk, ck, nI_1] at g2
        try simp only [zwr_rne, zwr_req, upd_ne, upd_eq, ne_eq, Nat.reduceEqDiff, not_false_eq_true, e2, hk, ck, nI_1] at g2'
        try omega
        all_goals
          try simp only [one_ne, zero_eq, if_false, if_true, or_true, true_or, or_false, false_or]
          refine c_isWithin (fun g3 g3' => ?_) (fun g3 => ?_)
          · try simp only [zwr_rne, zwr_req, upd_ne, upd_eq, ne_eq, Nat.reduceEqDiff, not_false_eq_true, e2, hk, ck, nI_1] at g3
            try simp only [zwr_rne, zwr_req, upd_ne, upd_eq, ne_eq, Nat.reduceEqDiff, not_false_eq_true, e2, hk, ck, nI_1] at g3'
            try omega
            all_goals
              try simp only [one_ne, zero_eq, if_false, if_true, or_true, true_or, or_false, false_or]
              refine c_isWithin (fun g4 g4' => ?_) (fun g4 => ?_)
              · try simp only [zwr_rne, zwr_req, upd_ne, upd_eq, ne_eq, Nat.reduceEqDiff, not_false_eq_true, e2, hk, ck, nI_1] at g4
                try simp only [zwr_rne, zwr_req, upd_ne, upd_eq, ne_eq, Nat.reduceEqDiff, not_false_eq_true, e2, hk, ck, nI_1] at g4'
                try omega
                all_goals
                  try simp only [one_ne, zero_eq, if_false, if_true, or_true, true_or, or_false, false_or]
                  refine zlt (fun g5 => ?_) (fun g5 => ?_)
                  · try simp only [zwr_rne, zwr_req, upd_ne, upd_eq, ne_eq, Nat.reduceEqDiff, not_false_eq_true, e2, hk, ck, nI_1] at g5
                    try omega
                    all_goals
                      refine c_changed ?_
                      try simp only [zwr_rne, zwr_req, upd_ne, upd_eq, ne_eq, Nat.reduceEqDiff, not_false_eq_true, e2, hk, ck, nI_1]
                      refine en_X0_add ?_
                      try simp only [zwr_rne, zwr_req, upd_ne, upd_eq, ne_eq, Nat.reduceEqDiff, not_false_eq_true, e2, hk, ck, nI_1]
                      refine ⟨by first | assumption | exact vin (by omega) | exact vp_in_I.mpr (by omega), ?_⟩
                      rintro _ rfl
                      try simp only [zwr_rne, zwr_req, upd_ne, upd_eq, ne_eq, Nat.reduceEqDiff, not_false_eq_true, e2, hk, ck, nI_1]
                      refine ⟨by first | assumption | exact vin (by omega) | exact vp_in_I.mpr (by omega), ?_⟩
                      rintro _ rfl
                      try simp only [zwr_rne, zwr_req, upd_ne, upd_eq, ne_eq, Nat.reduceEqDiff, not_false_eq_true, e2, hk, ck, nI_1]
                      refine ⟨by first | assumption | exact vin (by omega) | exact vp_in_I.mpr (by omega), ?_⟩
                      rintro _ rfl
                      try simp only [zwr_rne, zwr_req, upd_ne, upd_eq, ne_eq, Nat.reduceEqDiff, not_false_eq_true, e2, hk, ck, nI_1]
                      refine ⟨by first | assumption | exact vin (by omega) | exact vp_in_I.mpr (by omega), ?_⟩
                      rintro _ rfl
                      try simp only [zwr_rne, zwr_req, upd_ne, upd_eq, ne_eq, Nat.reduceEqDiff, not_false_eq_true, e2, hk, ck, nI_1]
                      refine ⟨by first | assumption | exact vin (by omega) | exact vp_in_I.mpr (by omega), ?_⟩
                      rintro _ rfl
                      try simp only [zwr_rne, zwr_req, upd_ne, upd_eq, ne_eq, Nat.reduceEqDiff, not_false_eq_true, e2, hk, ck, nI_1]
                      rintro _ rfl
                      try simp only [zwr_rne, zwr_req, upd_ne, upd_eq, ne_eq, Nat.reduceEqDiff, not_false_eq_true, e2, hk, ck, nI_1]
                      try simp only [zwr_rne, zwr_req, upd_ne, upd_eq, ne_eq, Nat.reduceEqDiff, not_false_eq_true, e2, hk, ck, nI_1]
                      refine en_X12_asset ?_
                      try simp only [zwr_rne, zwr_req, upd_ne, upd_eq, ne_eq, Nat.reduceEqDiff, not_false_eq_true, e2, hk, ck, nI_1]
                      refine m_isFirm (by first | omega | (simp only [zwr_rne, zwr_req, upd_ne, upd_eq, ne_eq, Nat.reduceEqDiff, not_false_eq_true, e2, hk, ck, nI_1]; omega)) (fun g6 g6' => ?_) (fun g6 => ?_)
                      · try simp only [zwr_rne, zwr_req, upd_ne, upd_eq, ne_eq, Nat.reduceEqDiff, not_false_eq_true, e2, hk, ck, nI_1] at g6
                        try simp only [zwr_rne, zwr_req, upd_ne, upd_eq, ne_eq, Nat.reduceEqDiff, not_false_eq_true, e2, hk, ck, nI_1] at g6'
                        try omega
                        all_goals
                          try simp only [one_ne, zero_eq, if_false, if_true, or_true, true_or, or_false, false_or]
                          try simp only [zwr_rne, zwr_req, upd_ne, upd_eq, ne_eq, Nat.reduceEqDiff, not_false_eq_true, e2, hk, ck, nI_1]
                          refine m_isIn (fun g7 g7' => ?_) (fun g7 => ?_)
                          · try simp only [zwr_rne, zwr_req, upd_ne, upd_eq, ne_eq, Nat.reduceEqDiff, not_false_eq_true, e2, hk, ck, nI_1] at g7
                            try simp only [zwr_rne, zwr_req, upd_ne, upd_eq, ne_eq, Nat.reduceEqDiff, not_false_eq_true, e2, hk, ck, nI_1] at g7'
                            try omega
                            all_goals
                              try simp only [one_ne, zero_eq, if_false, if_true, or_true, true_or, or_false, false_or]
                              try simp only [zwr_rne, zwr_req, upd_ne, upd_eq, ne_eq, Nat.reduceEqDiff, not_false_eq_true, e2, hk, ck, nI_1]
                              refine m_isIn (fun g8 g8' => ?_) (fun g8 => ?_)
                              · try simp only [zwr_rne, zwr_req, upd_ne, upd_eq, ne_eq, Nat.reduceEqDiff, not_false_eq_true, e2, hk, ck, nI_1] at g8
                                try simp only [zwr_rne, zwr_req, upd_ne, upd_eq, ne_eq, Nat.reduceEqDiff, not_false_eq_true, e2, hk, ck, nI_1] at g8'
                                try omega
                                all_goals
                                  try simp only [one_ne, zero_eq, if_false, if_true, or_true, true_or, or_false, false_or]
                                  try simp only [zwr_rne, zwr_req, upd_ne, upd_eq, ne_eq, Nat.reduceEqDiff, not_false_eq_true, e2, hk, ck, nI_1]
                                  refine m_isIn (fun g9 g9' => ?_) (fun g9 => ?_)
                                  · try simp only [zwr_rne, zwr_req, upd_ne, upd_eq, ne_eq, Nat.reduceEqDiff, not_false_eq_true, e2, hk, ck, nI_1] at g9
                                    try simp only [zwr_rne, zwr_req, upd_ne, upd_eq, ne_eq, Nat.reduceEqDiff, not_false_eq_true, e2, hk, ck, nI_1] at g9'
                                    try omega
                                    all_goals
                                      try simp only [one_ne, zero_eq, if_false, if_true, or_true, true_or, or_false, false_or]
                                      try simp only [zwr_rne, zwr_req, upd_ne, upd_eq, ne_eq, Nat.reduceEqDiff, not_false_eq_true, e2, hk, ck, nI_1]
                                      refine zeq (fun g10 => ?_) (fun g10 => ?_)
                                      · try simp only [zwr_rne, zwr_req, upd_ne, upd_eq, ne_eq, Nat.reduceEqDiff, not_false_eq_true, e2, hk, ck, nI_1] at g10
                                        try omega
                                        all_goals
                                          try simp only [zwr_rne, zwr_req, upd_ne, upd_eq, ne_eq, Nat.reduceEqDiff, not_false_eq_true, e2, hk, ck, nI_1]
                                          exact ⟨by first | rfl | trivial, hh⟩
                                      · try simp only [zwr_rne, zwr_req, upd_ne, upd_eq, ne_eq, Nat.reduceEqDiff, not_false_eq_true, e2, hk, ck, nI_1] at g10
                                        try omega
                                        all_goals
                                          try simp only [zwr_rne, zwr_req, upd_ne, upd_eq, ne_eq, Nat.reduceEqDiff, not_false_eq_true, e2, hk, ck, nI_1]
                                          refine ⟨by first | assumption | exact vin (by omega) | exact vp_in_I.mpr (by omega), ?_⟩
                                          rintro _ rfl
                                          try simp only [zwr_rne, zwr_req, upd_ne, upd_eq, ne_eq, Nat.reduceEqDiff, not_false_eq_true, e2, hk, ck, nI_1]
                                          refine ⟨by first | assumption | exact vin (by omega) | exact vp_in_I.mpr (by omega), ?_⟩
                                          rintro _ rfl
                                          try simp only [zwr_rne, zwr_req, upd_ne, upd_eq, ne_eq, Nat.reduceEqDiff, not_false_eq_true, e2, hk, ck, nI_1]
                                          refine ⟨by first | assumption | exact vin (by omega) | exact vp_in_I.mpr (by omega), ?_⟩
                                          rintro _ rfl
                                          try simp only [zwr_rne, zwr_req, upd_ne, upd_eq, ne_eq, Nat.reduceEqDiff, not_false_eq_true, e2, hk, ck, nI_1]
                                          refine ⟨by first | assumption | exact vin (by omega) | exact vp_in_I.mpr (by omega), ?_⟩
                                          rintro _ rfl
                                          try simp only [zwr_rne, zwr_req, upd_ne, upd_eq, ne_eq, Nat.reduceEqDiff, not_false_eq_true, e2, hk, ck, nI_1]
                                          refine ⟨by first | assumption | exact vin (by omega) | exact vp_in_I.mpr (by omega), ?_⟩
                                          rintro _ rfl
                                          try simp only [zwr_rne, zwr_req, upd_ne, upd_eq, ne_eq, Nat.reduceEqDiff, not_false_eq_true, e2, hk, ck, nI_1]
                                          rintro _ rfl
                                          try simp only [zwr_rne, zwr_req, upd_ne, upd_eq, ne_eq, Nat.reduceEqDiff, not_false_eq_true, e2, hk, ck, nI_1]
                                          refine ⟨by first | rfl | trivial | (rw [nI_pred]), ?_⟩
                                          unfold Rall
                                          simp only [zwr_rne, zwr_req, upd_ne, upd_eq, ne_eq, Nat.reduceEqDiff, not_false_eq_true]
                                          exact ⟨⟨k1, Rcnt.k (by omega) (by omega), k3, k4, k5, k6, k7, k8, k9⟩, Ras.push (by omega) kas' (by omega) (by omega) (by omega) (by omega) (by omega) (by omega) (by omega) (by omega), kcl, kda, kdh, kpl, kkp, ksh, kwt, ktp, klw, ksd, Rwx_stale, Rwx_stale⟩
                                  · try simp only [zwr_rne, zwr_req, upd_ne, upd_eq, ne_eq, Nat.reduceEqDiff, not_false_eq_true, e2, hk, ck, nI_1] at g9
                                    try omega
                                    all_goals
                                      try simp only [one_ne, zero_eq, if_false, if_true, or_true, true_or, or_false, false_or]
                                      try simp only [zwr_rne, zwr_req, upd_ne, upd_eq, ne_eq, Nat.reduceEqDiff, not_false_eq_true, e2, hk, ck, nI_1]
                                      exact ⟨by first | rfl | trivial, hh⟩
                              · try simp only [zwr_rne, zwr_req, upd_ne, upd_eq, ne_eq, Nat.reduceEqDiff, not_false_eq_true, e2, hk, ck, nI_1] at g8
                                try omega
                                all_goals
                                  try simp only [one_ne, zero_eq, if_false, if_true, or_true, true_or, or_false, false_or]
                                  try simp only [zwr_rne, zwr_req, upd_ne, upd_eq, ne_eq, Nat.reduceEqDiff, not_false_eq_true, e2, hk, ck, nI_1]
                                  exact ⟨by first | rfl | trivial, hh⟩
                          · try simp only [zwr_rne, zwr_req, upd_ne, upd_eq, ne_eq, Nat.reduceEqDiff, not_false_eq_true, e2, hk, ck, nI_1] at g7
                            try omega
                            all_goals
                              try simp only [one_ne, zero_eq, if_false, if_true, or_true, true_or, or_false, false_or]
                              try simp only [zwr_rne, zwr_req, upd_ne, upd_eq, ne_eq, Nat.reduceEqDiff, not_false_eq_true, e2, hk, ck, nI_1]
                              exact ⟨by first | rfl | trivial, hh⟩
                      · try simp only [zwr_rne, zwr_req, upd_ne, upd_eq, ne_eq, Nat.reduceEqDiff, not_false_eq_true, e2, hk, ck, nI_1] at g6
                        try omega
                        all_goals
                          try simp only [one_ne, zero_eq, if_false, if_true, or_true, true_or, or_false, false_or]
                          try simp only [zwr_rne, zwr_req, upd_ne, upd_eq, ne_eq, Nat.reduceEqDiff, not_false_eq_true, e2, hk, ck, nI_1]
                          exact ⟨by first | rfl | trivial, hh⟩
                  · try simp only [zwr_rne, zwr_req, upd_ne, upd_eq, ne_eq, Nat.reduceEqDiff, not_false_eq_true, e2, hk, ck, nI_1] at g5
                    try omega
                    all_goals
                      refine en_X12_asset ?_
                      try simp only [zwr_rne, zwr_req, upd_ne, upd_eq, ne_eq, Nat.reduceEqDiff, not_false_eq_true, e2, hk, ck, nI_1]
                      refine m_isFirm (by first | omega | (simp only [zwr_rne, zwr_req, upd_ne, upd_eq, ne_eq, Nat.reduceEqDiff, not_false_eq_true, e2, hk, ck, nI_1]; omega)) (fun g11 g11' => ?_) (fun g11 => ?_)
                      · try simp only [zwr_rne, zwr_req, upd_ne, upd_eq, ne_eq, Nat.reduceEqDiff, not_false_eq_true, e2, hk, ck, nI_1] at g11
                        try simp only [zwr_rne, zwr_req, upd_ne, upd_eq, ne_eq, Nat.reduceEqDiff, not_false_eq_true, e2, hk, ck, nI_1] at g11'
                        try omega
                        all_goals
                          try simp only [one_ne, zero_eq, if_false, if_true, or_true, true_or, or_false, false_or]
                          try simp only [zwr_rne, zwr_req, upd_ne, upd_eq, ne_eq, Nat.reduceEqDiff, not_false_eq_true, e2, hk, ck, nI_1]
                          refine m_isIn (fun g12 g12' => ?_) (fun g12 => ?_)
                          · try simp only [zwr_rne, zwr_req, upd_ne, upd_eq, ne_eq, Nat.reduceEqDiff, not_false_eq_true, e2, hk, ck, nI_1] at g12
                            try simp only [zwr_rne, zwr_req, upd_ne, upd_eq, ne_eq, Nat.reduceEqDiff, not_false_eq_true, e2, hk, ck, nI_1] at g12'
                            try omega
                            all_goals
                              try simp only [one_ne, zero_eq, if_false, if_true, or_true, true_or, or_false, false_or]
                              try simp only [zwr_rne, zwr_req, upd_ne, upd_eq, ne_eq, Nat.reduceEqDiff, not_false_eq_true, e2, hk, ck, nI_1]
                              refine m_isIn (fun g13 g13' => ?_) (fun g13 => ?_)
                              · try simp only [zwr_rne, zwr_req, upd_ne, upd_eq, ne_eq, Nat.reduceEqDiff, not_false_eq_true, e2, hk, ck, nI_1] at g13
                                try simp only [zwr_rne, zwr_req, upd_ne, upd_eq, ne_eq, Nat.reduceEqDiff, not_false_eq_true, e2, hk, ck, nI_1] at g13'
                                try omega
                                all_goals
                                  try simp only [one_ne, zero_eq, if_false, if_true, or_true, true_or, or_false, false_or]
                                  try simp only [zwr_rne, zwr_req, upd_ne, upd_eq, ne_eq, Nat.reduceEqDiff, not_false_eq_true, e2, hk, ck, nI_1]
                                  refine m_isIn (fun g14 g14' => ?_) (fun g14 => ?_)
                                  · try simp only [zwr_rne, zwr_req, upd_ne, upd_eq, ne_eq, Nat.reduceEqDiff, not_false_eq_true, e2, hk, ck, nI_1] at g14
                                    try simp only [zwr_rne, zwr_req, upd_ne, upd_eq, ne_eq, Nat.reduceEqDiff, not_false_eq_true, e2, hk, ck, nI_1] at g14'
                                    try omega
                                    all_goals
                                      try simp only [one_ne, zero_eq, if_false, if_true, or_true, true_or, or_false, false_or]
                                      try simp only [zwr_rne, zwr_req, upd_ne, upd_eq, ne_eq, Nat.reduceEqDiff, not_false_eq_true, e2, hk, ck, nI_1]
                                      refine zeq (fun g15 => ?_) (fun g15 => ?_)
                                      · try simp only [zwr_rne, zwr_req, upd_ne, upd_eq, ne_eq, Nat.reduceEqDiff, not_false_eq_true, e2, hk, ck, nI_1] at g15
                                        try omega
                                        all_goals
                                          try simp only [zwr_rne, zwr_req, upd_ne, upd_eq, ne_eq, Nat.reduceEqDiff, not_false_eq_true, e2, hk, ck, nI_1]
                                          exact ⟨by first | rfl | trivial, hh⟩
                                      · try simp only [zwr_rne, zwr_req, upd_ne, upd_eq, ne_eq, Nat.reduceEqDiff, not_false_eq_true, e2, hk, ck, nI_1] at g15
                                        try omega
                                        all_goals
                                          try simp only [zwr_rne, zwr_req, upd_ne, upd_eq, ne_eq, Nat.reduceEqDiff, not_false_eq_true, e2, hk, ck, nI_1]
                                          refine ⟨by first | assumption | exact vin (by omega) | exact vp_in_I.mpr (by omega), ?_⟩
                                          rintro _ rfl
                                          try simp only [zwr_rne, zwr_req, upd_ne, upd_eq, ne_eq, Nat.reduceEqDiff, not_false_eq_true, e2, hk, ck, nI_1]
                                          refine ⟨by first | assumption | exact vin (by omega) | exact vp_in_I.mpr (by omega), ?_⟩
                                          rintro _ rfl
                                          try simp only [zwr_rne, zwr_req, upd_ne, upd_eq, ne_eq, Nat.reduceEqDiff, not_false_eq_true, e2, hk, ck, nI_1]
                                          refine ⟨by first | assumption | exact vin (by omega) | exact vp_in_I.mpr (by omega), ?_⟩
                                          rintro _ rfl
                                          try simp only [zwr_rne, zwr_req, upd_ne, upd_eq, ne_eq, Nat.reduceEqDiff, not_false_eq_true, e2, hk, ck, nI_1]
                                          refine ⟨by first | assumption | exact vin (by omega) | exact vp_in_I.mpr (by omega), ?_⟩
                                          rintro _ rfl
                                          try simp only [zwr_rne, zwr_req, upd_ne, upd_eq, ne_eq, Nat.reduceEqDiff, not_false_eq_true, e2, hk, ck, nI_1]
                                          refine ⟨by first | assumption | exact vin (by omega) | exact vp_in_I.mpr (by omega), ?_⟩
                                          rintro _ rfl
                                          try simp only [zwr_rne, zwr_req, upd_ne, upd_eq, ne_eq, Nat.reduceEqDiff, not_false_eq_true, e2, hk, ck, nI_1]
                                          rintro _ rfl
                                          try simp only [zwr_rne, zwr_req, upd_ne, upd_eq, ne_eq, Nat.reduceEqDiff, not_false_eq_true, e2, hk, ck, nI_1]
                                          refine ⟨by first | rfl | trivial | (rw [nI_pred]), ?_⟩
                                          unfold Rall
                                          simp only [zwr_rne, zwr_req, upd_ne, upd_eq, ne_eq, Nat.reduceEqDiff, not_false_eq_true]
                                          exact ⟨⟨k1, Rcnt.k (by omega) (by omega), k3, k4, k5, k6, k7, k8, k9⟩, Ras.push (by omega) kas' (by omega) (by omega) (by omega) (by omega) (by omega) (by omega) (by omega) (by omega), kcl, kda, kdh, kpl, kkp, ksh, kwt, ktp, klw, ksd, Rwx_stale, Rwx_stale⟩
                                  · try simp only [zwr_rne, zwr_req, upd_ne, upd_eq, ne_eq, Nat.reduceEqDiff, not_false_eq_true, e2, hk, ck, nI_1] at g14
                                    try omega
                                    all_goals
                                      try simp only [one_ne, zero_eq, if_false, if_true, or_true, true_or, or_false, false_or]
                                      try simp only [zwr_rne, zwr_req, upd_ne, upd_eq, ne_eq, Nat.reduceEqDiff, not_false_eq_true, e2, hk, ck, nI_1]
                                      exact ⟨by first | rfl | trivial, hh⟩
                              · try simp only [zwr_rne, zwr_req, upd_ne, upd_eq, ne_eq, Nat.reduceEqDiff, not_false_eq_true, e2, hk, ck, nI_1] at g13
                                try omega
                                all_goals
                                  try simp only [one_ne, zero_eq, if_false, if_true, or_true, true_or, or_false, false_or]
                                  try simp only [zwr_rne, zwr_req, upd_ne, upd_eq, ne_eq, Nat.reduceEqDiff, not_false_eq_true, e2, hk, ck, nI_1]
                                  exact ⟨by first | rfl | trivial, hh⟩
                          · try simp only [zwr_rne, zwr_req, upd_ne, upd_eq, ne_eq, Nat.reduceEqDiff, not_false_eq_true, e2, hk, ck, nI_1] at g12
                            try omega
                            all_goals
                              try simp only [one_ne, zero_eq, if_false, if_true, or_true, true_or, or_false, false_or]
                              try simp only [zwr_rne, zwr_req, upd_ne, upd_eq, ne_eq, Nat.reduceEqDiff, not_false_eq_true, e2, hk, ck, nI_1]
                              exact ⟨by first | rfl | trivial, hh⟩
                      · try simp only [zwr_rne, zwr_req, upd_ne, upd_eq, ne_eq, Nat.reduceEqDiff, not_false_eq_true, e2, hk, ck, nI_1] at g11
                        try omega
                        all_goals
                          try simp only [one_ne, zero_eq, if_false, if_true, or_true, true_or, or_false, false_or]
                          try simp only [zwr_rne, zwr_req, upd_ne, upd_eq, ne_eq, Nat.reduceEqDiff, not_false_eq_true, e2, hk, ck, nI_1]
                          exact ⟨by first | rfl | trivial, hh⟩
              · try simp only [zwr_rne, zwr_req, upd_ne, upd_eq, ne_eq, Nat.reduceEqDiff, not_false_eq_true, e2, hk, ck, nI_1] at g4
                try omega
                all_goals
                  try simp only [one_ne, zero_eq, if_false, if_true, or_true, true_or, or_false, false_or]
                  refine en_X12_asset ?_
                  try simp only [zwr_rne, zwr_req, upd_ne, upd_eq, ne_eq, Nat.reduceEqDiff, not_false_eq_true, e2, hk, ck, nI_1]
                  refine m_isFirm (by first | omega | (simp only [zwr_rne, zwr_req, upd_ne, upd_eq, ne_eq, Nat.reduceEqDiff, not_false_eq_true, e2, hk, ck, nI_1]; omega)) (fun g16 g16' => ?_) (fun g16 => ?_)
                  · try simp only [zwr_rne, zwr_req, upd_ne, upd_eq, ne_eq, Nat.reduceEqDiff, not_false_eq_true, e2, hk, ck, nI_1] at g16
                    try simp only [zwr_rne, zwr_req, upd_ne, upd_eq, ne_eq, Nat.reduceEqDiff, not_false_eq_true, e2, hk, ck, nI_1] at g16'
                    try omega
                    all_goals
                      try simp only [one_ne, zero_eq, if_false, if_true, or_true, true_or, or_false, false_or]
                      try simp only [zwr_rne, zwr_req, upd_ne, upd_eq, ne_eq, Nat.reduceEqDiff, not_false_eq_true, e2, hk, ck, nI_1]
                      refine m_isIn (fun g17 g17' => ?_) (fun g17 => ?_)
                      · try simp only [zwr_rne, zwr_req, upd_ne, upd_eq, ne_eq, Nat.reduceEqDiff, not_false_eq_true, e2, hk, ck, nI_1] at g17
                        try simp only [zwr_rne, zwr_req, upd_ne, upd_eq, ne_eq, Nat.reduceEqDiff, not_false_eq_true, e2, hk, ck, nI_1] at g17'
                        try omega
                        all_goals
                          try simp only [one_ne, zero_eq, if_false, if_true, or_true, true_or, or_false, false_or]
                          try simp only [zwr_rne, zwr_req, upd_ne, upd_eq, ne_eq, Nat.reduceEqDiff, not_false_eq_true, e2, hk, ck, nI_1]
                          refine m_isIn (fun g18 g18' => ?_) (fun g18 => ?_)
                          · try simp only [zwr_rne, zwr_req, upd_ne, upd_eq, ne_eq, Nat.reduceEqDiff, not_false_eq_true, e2, hk, ck, nI_1] at g18
                            try simp only [zwr_rne, zwr_req, upd_ne, upd_eq, ne_eq, Nat.reduceEqDiff, not_false_eq_true, e2, hk, ck, nI_1] at g18'
                            try omega
                            all_goals
                              try simp only [one_ne, zero_eq, if_false, if_true, or_true, true_or, or_false, false_or]
                              try simp only [zwr_rne, zwr_req, upd_ne, upd_eq, ne_eq, Nat.reduceEqDiff, not_false_eq_true, e2, hk, ck, nI_1]
                              refine m_isIn (fun g19 g19' => ?_) (fun g19 => ?_)
                              · try simp only [zwr_rne, zwr_req, upd_ne, upd_eq, ne_eq, Nat.reduceEqDiff, not_false_eq_true, e2, hk, ck, nI_1] at g19
                                try simp only [zwr_rne, zwr_req, upd_ne, upd_eq, ne_eq, Nat.reduceEqDiff, not_false_eq_true, e2, hk, ck, nI_1] at g19'
                                try omega
                                all_goals
                                  try simp only [one_ne, zero_eq, if_false, if_true, or_true, true_or, or_false, false_or]
                                  try simp only [zwr_rne, zwr_req, upd_ne, upd_eq, ne_eq, Nat.reduceEqDiff, not_false_eq_true, e2, hk, ck, nI_1]
                                  refine zeq (fun g20 => ?_) (fun g20 => ?_)
                                  · try simp only [zwr_rne, zwr_req, upd_ne, upd_eq, ne_eq, Nat.reduceEqDiff, not_false_eq_true, e2, hk, ck, nI_1] at g20
                                    try omega
                                    all_goals
                                      try simp only [zwr_rne, zwr_req, upd_ne, upd_eq, ne_eq, Nat.reduceEqDiff, not_false_eq_true, e2, hk, ck, nI_1]
                                      exact ⟨by first | rfl | trivial, hh⟩
                                  · try simp only [zwr_rne, zwr_req, upd_ne, upd_eq, ne_eq, Nat.reduceEqDiff, not_false_eq_true, e2, hk, ck, nI_1] at g20
                                    try omega
                                    all_goals
                                      try simp only [zwr_rne, zwr_req, upd_ne, upd_eq, ne_eq, Nat.reduceEqDiff, not_false_eq_true, e2, hk, ck, nI_1]
                                      refine ⟨by first | assumption | exact vin (by omega) | exact vp_in_I.mpr (by omega), ?_⟩
                                      rintro _ rfl
                                      try simp only [zwr_rne, zwr_req, upd_ne, upd_eq, ne_eq, Nat.reduceEqDiff, not_false_eq_true, e2, hk, ck, nI_1]
                                      refine ⟨by first | assumption | exact vin (by omega) | exact vp_in_I.mpr (by omega), ?_⟩
                                      rintro _ rfl
                                      try simp only [zwr_rne, zwr_req, upd_ne, upd_eq, ne_eq, Nat.reduceEqDiff, not_false_eq_true, e2, hk, ck, nI_1]
                                      refine ⟨by first | assumption | exact vin (by omega) | exact vp_in_I.mpr (by omega), ?_⟩
                                      rintro _ rfl
                                      try simp only [zwr_rne, zwr_req, upd_ne, upd_eq, ne_eq, Nat.reduceEqDiff, not_false_eq_true, e2, hk, ck, nI_1]
                                      refine ⟨by first | assumption | exact vin (by omega) | exact vp_in_I.mpr (by omega), ?_⟩
                                      rintro _ rfl
                                      try simp only [zwr_rne, zwr_req, upd_ne, upd_eq, ne_eq, Nat.reduceEqDiff, not_false_eq_true, e2, hk, ck, nI_1]
                                      refine ⟨by first | assumption | exact vin (by omega) | exact vp_in_I.mpr (by omega), ?_⟩
                                      rintro _ rfl
                                      try simp only [zwr_rne, zwr_req, upd_ne, upd_eq, ne_eq, Nat.reduceEqDiff, not_false_eq_true, e2, hk, ck, nI_1]
                                      rintro _ rfl
                                      try simp only [zwr_rne, zwr_req, upd_ne, upd_eq, ne_eq, Nat.reduceEqDiff, not_false_eq_true, e2, hk, ck, nI_1]
                                      refine ⟨by first | rfl | trivial | (rw [nI_pred]), ?_⟩
                                      unfold Rall
                                      simp only [zwr_rne, zwr_req, upd_ne, upd_eq, ne_eq, Nat.reduceEqDiff, not_false_eq_true]
                                      exact ⟨⟨k1, Rcnt.k (by omega) (by omega), k3, k4, k5, k6, k7, k8, k9⟩, Ras.push (by omega) kas' (by omega) (by omega) (by omega) (by omega) (by omega) (by omega) (by omega) (by omega), kcl, kda, kdh, kpl, kkp, ksh, kwt, ktp, klw, ksd, Rwx_stale, Rwx_stale⟩
                              · try simp only [zwr_rne, zwr_req, upd_ne, upd_eq, ne_eq, Nat.reduceEqDiff, not_false_eq_true, e2, hk, ck, nI_1] at g19
                                try omega
                                all_goals
                                  try simp only [one_ne, zero_eq, if_false, if_true, or_true, true_or, or_false, false_or]
                                  try simp only [zwr_rne, zwr_req, upd_ne, upd_eq, ne_eq, Nat.reduceEqDiff, not_false_eq_true, e2, hk, ck, nI_1]
                                  exact ⟨by first | rfl | trivial, hh⟩
                          · try simp only [zwr_rne, zwr_req, upd_ne, upd_eq, ne_eq, Nat.reduceEqDiff, not_false_eq_true, e2, hk, ck, nI_1] at g18
                            try omega
                            all_goals
                              try simp only [one_ne, zero_eq, if_false, if_true, or_true, true_or, or_false, false_or]
                              try simp only [zwr_rne, zwr_req, upd_ne, upd_eq, ne_eq, Nat.reduceEqDiff, not_false_eq_true, e2, hk, ck, nI_1]
                              exact ⟨by first | rfl | trivial, hh⟩
                      · try simp only [zwr_rne, zwr_req, upd_ne, upd_eq, ne_eq, Nat.reduceEqDiff, not_false_eq_true, e2, hk, ck, nI_1] at g17
                        try omega
                        all_goals
                          try simp only [one_ne, zero_eq, if_false, if_true, or_true, true_or, or_false, false_or]
                          try simp only [zwr_rne, zwr_req, upd_ne, upd_eq, ne_eq, Nat.reduceEqDiff, not_false_eq_true, e2, hk, ck, nI_1]
                          exact ⟨by first | rfl | trivial, hh⟩
                  · try simp only [zwr_rne, zwr_req, upd_ne, upd_eq, ne_eq, Nat.reduceEqDiff, not_false_eq_true, e2, hk, ck, nI_1] at g16
                    try omega
                    all_goals
                      try simp only [one_ne, zero_eq, if_false, if_true, or_true, true_or, or_false, false_or]
                      try simp only [zwr_rne, zwr_req, upd_ne, upd_eq, ne_eq, Nat.reduceEqDiff, not_false_eq_true, e2, hk, ck, nI_1]
                      exact ⟨by first | rfl | trivial, hh⟩
          · try simp only [zwr_rne, zwr_req, upd_ne, upd_eq, ne_eq, Nat.reduceEqDiff, not_false_eq_true, e2, hk, ck, nI_1] at g3
            try omega
            all_goals
              try simp only [one_ne, zero_eq, if_false, if_true, or_true, true_or, or_false, false_or]
              refine en_X12_asset ?_
              try simp only [zwr_rne, zwr_req, upd_ne, upd_eq, ne_eq, Nat.reduceEqDiff, not_false_eq_true, e2, hk, ck, nI_1]
              refine m_isFirm (by first | omega | (simp only [zwr_rne, zwr_req, upd_ne, upd_eq, ne_eq, Nat.reduceEqDiff, not_false_eq_true, e2, hk, ck, nI_1]; omega)) (fun g21 g21' => ?_) (fun g21 => ?_)
              · try simp only [zwr_rne, zwr_req, upd_ne, upd_eq, ne_eq, Nat.reduceEqDiff, not_false_eq_true, e2, hk, ck, nI_1] at g21
                try simp only [zwr_rne, zwr_req, upd_ne, upd_eq, ne_eq, Nat.reduceEqDiff, not_false_eq_true, e2, hk, ck, nI_1] at g21'
                try omega
                all_goals
                  try simp only [one_ne, zero_eq, if_false, if_true, or_true, true_or, or_false, false_or]
                  try simp only [zwr_rne, zwr_req, upd_ne, upd_eq, ne_eq, Nat.reduceEqDiff, not_false_eq_true, e2, hk, ck, nI_1]
                  refine m_isIn (fun g22 g22' => ?_) (fun g22 => ?_)
                  · try simp only [zwr_rne, zwr_req, upd_ne, upd_eq, ne_eq, Nat.reduceEqDiff, not_false_eq_true, e2, hk, ck, nI_1] at g22
                    try simp only [zwr_rne, zwr_req, upd_ne, upd_eq, ne_eq, Nat.reduceEqDiff, not_false_eq_true, e2, hk, ck, nI_1] at g22'
                    try omega
                    all_goals
                      try simp only [one_ne, zero_eq, if_false, if_true, or_true, true_or, or_false, false_or]
                      try simp only [zwr_rne, zwr_req, upd_ne, upd_eq, ne_eq, Nat.reduceEqDiff, not_false_eq_true, e2, hk, ck, nI_1]
                      refine m_isIn (fun g23 g23' => ?_) (fun g23 => ?_)
                      · try simp only [zwr_rne, zwr_req, upd_ne, upd_eq, ne_eq, Nat.reduceEqDiff, not_false_eq_true, e2, hk, ck, nI_1] at g23
                        try simp only [zwr_rne, zwr_req, upd_ne, upd_eq, ne_eq, Nat.reduceEqDiff, not_false_eq_true, e2, hk, ck, nI_1] at g23'
                        try omega
                        all_goals
                          try simp only [one_ne, zero_eq, if_false, if_true, or_true, true_or, or_false, false_or]
                          try simp only [zwr_rne, zwr_req, upd_ne, upd_eq, ne_eq, Nat.reduceEqDiff, not_false_eq_true, e2, hk, ck, nI_1]
                          refine m_isIn (fun g24 g24' => ?_) (fun g24 => ?_)
                          · try simp only [zwr_rne, zwr_req, upd_ne, upd_eq, ne_eq, Nat.reduceEqDiff, not_false_eq_true, e2, hk, ck, nI_1] at g24
                            try simp only [zwr_rne, zwr_req, upd_ne, upd_eq, ne_eq, Nat.reduceEqDiff, not_false_eq_true, e2, hk, ck, nI_1] at g24'
                            try omega
                            all_goals
                              try simp only [one_ne, zero_eq, if_false, if_true, or_true, true_or, or_false, false_or]
                              try simp only [zwr_rne, zwr_req, upd_ne, upd_eq, ne_eq, Nat.reduceEqDiff, not_false_eq_true, e2, hk, ck, nI_1]
                              refine zeq (fun g25 => ?_) (fun g25 => ?_)
                              · try simp only [zwr_rne, zwr_req, upd_ne, upd_eq, ne_eq, Nat.reduceEqDiff, not_false_eq_true, e2, hk, ck, nI_1] at g25
                                try omega
                                all_goals
                                  try simp only [zwr_rne, zwr_req, upd_ne, upd_eq, ne_eq, Nat.reduceEqDiff, not_false_eq_true, e2, hk, ck, nI_1]
                                  exact ⟨by first | rfl | trivial, hh⟩
                              · try simp only [zwr_rne, zwr_req, upd_ne, upd_eq, ne_eq, Nat.reduceEqDiff, not_false_eq_true, e2, hk, ck, nI_1] at g25
                                try omega
                                all_goals
                                  try simp only [zwr_rne, zwr_req, upd_ne, upd_eq, ne_eq, Nat.reduceEqDiff, not_false_eq_true, e2, hk, ck, nI_1]
                                  refine ⟨by first | assumption | exact vin (by omega) | exact vp_in_I.mpr (by omega), ?_⟩
                                  rintro _ rfl
                                  try simp only [zwr_rne, zwr_req, upd_ne, upd_eq, ne_eq, Nat.reduceEqDiff, not_false_eq_true, e2, hk, ck, nI_1]
                                  refine ⟨by first | assumption | exact vin (by omega) | exact vp_in_I.mpr (by omega), ?_⟩
                                  rintro _ rfl
                                  try simp only [zwr_rne, zwr_req, upd_ne, upd_eq, ne_eq, Nat.reduceEqDiff, not_false_eq_true, e2, hk, ck, nI_1]
                                  refine ⟨by first | assumption | exact vin (by omega) | exact vp_in_I.mpr (by omega), ?_⟩
                                  rintro _ rfl
                                  try simp only [zwr_rne, zwr_req, upd_ne, upd_eq, ne_eq, Nat.reduceEqDiff, not_false_eq_true, e2, hk, ck, nI_1]
                                  refine ⟨by first | assumption | exact vin (by omega) | exact vp_in_I.mpr (by omega), ?_⟩
                                  rintro _ rfl
                                  try simp only [zwr_rne, zwr_req, upd_ne, upd_eq, ne_eq, Nat.reduceEqDiff, not_false_eq_true, e2, hk, ck, nI_1]
                                  refine ⟨by first | assumption | exact vin (by omega) | exact vp_in_I.mpr (by omega), ?_⟩
                                  rintro _ rfl
                                  try simp only [zwr_rne, zwr_req, upd_ne, upd_eq, ne_eq, Nat.reduceEqDiff, not_false_eq_true, e2, hk, ck, nI_1]
                                  rintro _ rfl
                                  try simp only [zwr_rne, zwr_req, upd_ne, upd_eq, ne_eq, Nat.reduceEqDiff, not_false_eq_true, e2, hk, ck, nI_1]
                                  refine ⟨by first | rfl | trivial | (rw [nI_pred]), ?_⟩
                                  unfold Rall
                                  simp only [zwr_rne, zwr_req, upd_ne, upd_eq, ne_eq, Nat.reduceEqDiff, not_false_eq_true]
                                  exact ⟨⟨k1, Rcnt.k (by omega) (by omega), k3, k4, k5, k6, k7, k8, k9⟩, Ras.push (by omega) kas' (by omega) (by omega) (by omega) (by omega) (by omega) (by omega) (by omega) (by omega), kcl, kda, kdh, kpl, kkp, ksh, kwt, ktp, klw, ksd, Rwx_stale, Rwx_stale⟩
                          · try simp only [zwr_rne, zwr_req, upd_ne, upd_eq, ne_eq, Nat.reduceEqDiff, not_false_eq_true, e2, hk, ck, nI_1] at g24
                            try omega
                            all_goals
                              try simp only [one_ne, zero_eq, if_false, if_true, or_true, true_or, or_false, false_or]
                              try simp only [zwr_rne, zwr_req, upd_ne, upd_eq, ne_eq, Nat.reduceEqDiff, not_false_eq_true, e2, hk, ck, nI_1]
                              exact ⟨by first | rfl | trivial, hh⟩
                      · try simp only [zwr_rne, zwr_req, upd_ne, upd_eq, ne_eq, Nat.reduceEqDiff, not_false_eq_true, e2, hk, ck, nI_1] at g23
                        try omega
                        all_goals
                          try simp only [one_ne, zero_eq, if_false, if_true, or_true, true_or, or_false, false_or]
                          try simp only [zwr_rne, zwr_req, upd_ne, upd_eq, ne_eq, Nat.reduceEqDiff, not_false_eq_true, e2, hk, ck, nI_1]
                          exact ⟨by first | rfl | trivial, hh⟩
                  · try simp only [zwr_rne, zwr_req, upd_ne, upd_eq, ne_eq, Nat.reduceEqDiff, not_false_eq_true, e2, hk, ck, nI_1] at g22
                    try omega
                    all_goals
                      try simp only [one_ne, zero_eq, if_false, if_true, or_true, true_or, or_false, false_or]
                      try simp only [zwr_rne, zwr_req, upd_ne, upd_eq, ne_eq, Nat.reduceEqDiff, not_false_eq_true, e2, hk, ck, nI_1]
                      exact ⟨by first | rfl | trivial, hh⟩
              · try simp only [zwr_rne, zwr_req, upd_ne, upd_eq, ne_eq, Nat.reduceEqDiff, not_false_eq_true, e2, hk, ck, nI_1] at g21
                try omega
                all_goals
                  try simp only [one_ne, zero_eq, if_false, if_true, or_true, true_or, or_false, false_or]
                  try simp only [zwr_rne, zwr_req, upd_ne, upd_eq, ne_eq, Nat.reduceEqDiff, not_false_eq_true, e2, hk, ck, nI_1]
                  exact ⟨by first | rfl | trivial, hh⟩
      · try simp only [zwr_rne, zwr_req, upd_ne, upd_eq, ne_eq, Nat.reduceEqDiff, not_false_eq_true, e2, hk, ck, nI_1] at g2
        try omega
        all_goals
          try simp only [one_ne, zero_eq, if_false, if_true, or_true, true_or, or_false, false_or]
          refine en_X12_asset ?_
          try simp only [zwr_rne, zwr_req, upd_ne, upd_eq, ne_eq, Nat.reduceEqDiff, not_false_eq_true, e2, hk, ck, nI_1]
          refine m_isFirm (by first | omega | (simp only [zwr_rne, zwr_req, upd_ne, upd_eq, ne_eq, Nat.reduceEqDiff, not_false_eq_true, e2, hk, ck, nI_1]; omega)) (fun g26 g26' => ?_) (fun g26 => ?_)
          · try simp only [zwr_rne, zwr_req, upd_ne, upd_eq, ne_eq, Nat.reduceEqDiff, not_false_eq_true, e2, hk, ck, nI_1] at g26
            try simp only [zwr_rne, zwr_req, upd_ne, upd_eq, ne_eq, Nat.reduceEqDiff, not_false_eq_true, e2, hk, ck, nI_1] at g26'
            try omega
            all_goals
              try simp only [one_ne, zero_eq, if_false, if_true, or_true, true_or, or_false, false_or]
              try simp only [zwr_rne, zwr_req, upd_ne, upd_eq, ne_eq, Nat.reduceEqDiff, not_false_eq_true, e2, hk, ck, nI_1]
              refine m_isIn (fun g27 g27' => ?_) (fun g27 => ?_)
              · try simp only [zwr_rne, zwr_req, upd_ne, upd_eq, ne_eq, Nat.reduceEqDiff, not_false_eq_true, e2, hk, ck, nI_1] at g27
                try simp only [zwr_rne, zwr_req, upd_ne, upd_eq, ne_eq, Nat.reduceEqDiff, not_false_eq_true, e2, hk, ck, nI_1] at g27'
                try omega
                all_goals
                  try simp only [one_ne, zero_eq, if_false, if_true, or_true, true_or, or_false, false_or]
                  try simp only [zwr_rne, zwr_req, upd_ne, upd_eq, ne_eq, Nat.reduceEqDiff, not_false_eq_true, e2, hk, ck, nI_1]
                  refine m_isIn (fun g28 g28' => ?_) (fun g28 => ?_)
                  · try simp only [zwr_rne, zwr_req, upd_ne, upd_eq, ne_eq, Nat.reduceEqDiff, not_false_eq_true, e2, hk, ck, nI_1] at g28
                    try simp only [zwr_rne, zwr_req, upd_ne, upd_eq, ne_eq, Nat.reduceEqDiff, not_false_eq_true, e2, hk, ck, nI_1] at g28'
                    try omega
                    all_goals
                      try simp only [one_ne, zero_eq, if_false, if_true, or_true, true_or, or_false, false_or]
                      try simp only [zwr_rne, zwr_req, upd_ne, upd_eq, ne_eq, Nat.reduceEqDiff, not_false_eq_true, e2, hk, ck, nI_1]
                      refine m_isIn (fun g29 g29' => ?_) (fun g29 => ?_)
                      · try simp only [zwr_rne, zwr_req, upd_ne, upd_eq, ne_eq, Nat.reduceEqDiff, not_false_eq_true, e2, hk, ck, nI_1] at g29
                        try simp only [zwr_rne, zwr_req, upd_ne, upd_eq, ne_eq, Nat.reduceEqDiff, not_false_eq_true, e2, hk, ck, nI_1] at g29'
                        try omega
                        all_goals
                          try simp only [one_ne, zero_eq, if_false, if_true, or_true, true_or, or_false, false_or]
                          try simp only [zwr_rne, zwr_req, upd_ne, upd_eq, ne_eq, Nat.reduceEqDiff, not_false_eq_true, e2, hk, ck, nI_1]
                          refine zeq (fun g30 => ?_) (fun g30 => ?_)
                          · try simp only [zwr_rne, zwr_req, upd_ne, upd_eq, ne_eq, Nat.reduceEqDiff, not_false_eq_true, e2, hk, ck, nI_1] at g30
                            try omega
                            all_goals
                              try simp only [zwr_rne, zwr_req, upd_ne, upd_eq, ne_eq, Nat.reduceEqDiff, not_false_eq_true, e2, hk, ck, nI_1]
                              exact ⟨by first | rfl | trivial, hh⟩
                          · try simp only [zwr_rne, zwr_req, upd_ne, upd_eq, ne_eq, Nat.reduceEqDiff, not_false_eq_true, e2, hk, ck, nI_1] at g30
                            try omega
                            all_goals
                              try simp only [zwr_rne, zwr_req, upd_ne, upd_eq, ne_eq, Nat.reduceEqDiff, not_false_eq_true, e2, hk, ck, nI_1]
                              refine ⟨by first | assumption | exact vin (by omega) | exact vp_in_I.mpr (by omega), ?_⟩
                              rintro _ rfl
                              try simp only [zwr_rne, zwr_req, upd_ne, upd_eq, ne_eq, Nat.reduceEqDiff, not_false_eq_true, e2, hk, ck, nI_1]
                              refine ⟨by first | assumption | exact vin (by omega) | exact vp_in_I.mpr (by omega), ?_⟩
                              rintro _ rfl
                              try simp only [zwr_rne, zwr_req, upd_ne, upd_eq, ne_eq, Nat.reduceEqDiff, not_false_eq_true, e2, hk, ck, nI_1]
                              refine ⟨by first | assumption | exact vin (by omega) | exact vp_in_I.mpr (by omega), ?_⟩
                              rintro _ rfl
                              try simp only [zwr_rne, zwr_req, upd_ne, upd_eq, ne_eq, Nat.reduceEqDiff, not_false_eq_true, e2, hk, ck, nI_1]
                              refine ⟨by first | assumption | exact vin (by omega) | exact vp_in_I.mpr (by omega), ?_⟩
                              rintro _ rfl
                              try simp only [zwr_rne, zwr_req, upd_ne, upd_eq, ne_eq, Nat.reduceEqDiff, not_false_eq_true, e2, hk, ck, nI_1]
                              refine ⟨by first | assumption | exact vin (by omega) | exact vp_in_I.mpr (by omega), ?_⟩
                              rintro _ rfl
                              try simp only [zwr_rne, zwr_req, upd_ne, upd_eq, ne_eq, Nat.reduceEqDiff, not_false_eq_true, e2, hk, ck, nI_1]
                              rintro _ rfl
                              try simp only [zwr_rne, zwr_req, upd_ne, upd_eq, ne_eq, Nat.reduceEqDiff, not_false_eq_true, e2, hk, ck, nI_1]
                              refine ⟨by first | rfl | trivial | (rw [nI_pred]), ?_⟩
                              unfold Rall
                              simp only [zwr_rne, zwr_req, upd_ne, upd_eq, ne_eq, Nat.reduceEqDiff, not_false_eq_true]
                              exact ⟨⟨k1, Rcnt.k (by omega) (by omega), k3, k4, k5, k6, k7, k8, k9⟩, Ras.push (by omega) kas' (by omega) (by omega) (by omega) (by omega) (by omega) (by omega) (by omega) (by omega), kcl, kda, kdh, kpl, kkp, ksh, kwt, ktp, klw, ksd, Rwx_stale, Rwx_stale⟩
                      · try simp only [zwr_rne, zwr_req, upd_ne, upd_eq, ne_eq, Nat.reduceEqDiff, not_false_eq_true, e2, hk, ck, nI_1] at g29
                        try omega
                        all_goals
                          try simp only [one_ne, zero_eq, if_false, if_true, or_true, true_or, or_false, false_or]
                          try simp only [zwr_rne, zwr_req, upd_ne, upd_eq, ne_eq, Nat.reduceEqDiff, not_false_eq_true, e2, hk, ck, nI_1]
                          exact ⟨by first | rfl | trivial, hh⟩
                  · try simp only [zwr_rne, zwr_req, upd_ne, upd_eq, ne_eq, Nat.reduceEqDiff, not_false_eq_true, e2, hk, ck, nI_1] at g28
                    try omega
                    all_goals
                      try simp only [one_ne, zero_eq, if_false, if_true, or_true, true_or, or_false, false_or]
                      try simp only [zwr_rne, zwr_req, upd_ne, upd_eq, ne_eq, Nat.reduceEqDiff, not_false_eq_true, e2, hk, ck, nI_1]
                      exact ⟨by first | rfl | trivial, hh⟩
              · try simp only [zwr_rne, zwr_req, upd_ne, upd_eq, ne_eq, Nat.reduceEqDiff, not_false_eq_true, e2, hk, ck, nI_1] at g27
                try omega
                all_goals
                  try simp only [one_ne, zero_eq, if_false, if_true, or_true, true_or, or_false, false_or]
                  try simp only [zwr_rne, zwr_req, upd_ne, upd_eq, ne_eq, Nat.reduceEqDiff, not_false_eq_true, e2, hk, ck, nI_1]
                  exact ⟨by first | rfl | trivial, hh⟩
          · try simp only [zwr_rne, zwr_req, upd_ne, upd_eq, ne_eq, Nat.reduceEqDiff, not_false_eq_true, e2, hk, ck, nI_1] at g26
            try omega
            all_goals
              try simp only [one_ne, zero_eq, if_false, if_true, or_true, true_or, or_false, false_or]
              try simp only [zwr_rne, zwr_req, upd_ne, upd_eq, ne_eq, Nat.reduceEqDiff, not_false_eq_true, e2, hk, ck, nI_1]
              exact ⟨by first | rfl | trivial, hh⟩
  · try simp only [zwr_rne, zwr_req, upd_ne, upd_eq, ne_eq, Nat.reduceEqDiff, not_false_eq_true, e2, hk, ck, nI_1] at g1
    try omega
    all_goals
      try simp only [one_ne, zero_eq, if_false, if_true, or_true, true_or, or_false, false_or]
      refine en_X12_asset ?_
      try simp only [zwr_rne, zwr_req, upd_ne, upd_eq, ne_eq, Nat.reduceEqDiff, not_false_eq_true, e2, hk, ck, nI_1]
      refine m_isFirm (by first | omega | (simp only [zwr_rne, zwr_req, upd_ne, upd_eq, ne_eq, Nat.reduceEqDiff, not_false_eq_true, e2, hk, ck, nI_1]; omega)) (fun g31 g31' => ?_) (fun g31 => ?_)
      · try simp only [zwr_rne, zwr_req, upd_ne, upd_eq, ne_eq, Nat.reduceEqDiff, not_false_eq_true, e2, hk, ck, nI_1] at g31
        try simp only [zwr_rne, zwr_req, upd_ne, upd_eq, ne_eq, Nat.reduceEqDiff, not_false_eq_true, e2, hk, ck, nI_1] at g31'
        try omega
        all_goals
          try simp only [one_ne, zero_eq, if_false, if_true, or_true, true_or, or_false, false_or]
          try simp only [zwr_rne, zwr_req, upd_ne, upd_eq, ne_eq, Nat.reduceEqDiff, not_false_eq_true, e2, hk, ck, nI_1]
          refine m_isIn (fun g32 g32' => ?_) (fun g32 => ?_)
          · try simp only [zwr_rne, zwr_req, upd_ne, upd_eq, ne_eq, Nat.reduceEqDiff, not_false_eq_true, e2, hk, ck, nI_1] at g32
            try simp only [zwr_rne, zwr_req, upd_ne, upd_eq, ne_eq, Nat.reduceEqDiff, not_false_eq_true, e2, hk, ck, nI_1] at g32'
            try omega
            all_goals
              try simp only [one_ne, zero_eq, if_false, if_true, or_true, true_or, or_false, false_or]
              try simp only [zwr_rne, zwr_req, upd_ne, upd_eq, ne_eq, Nat.reduceEqDiff, not_false_eq_true, e2, hk, ck, nI_1]
              refine m_isIn (fun g33 g33' => ?_) (fun g33 => ?_)
              · try simp only [zwr_rne, zwr_req, upd_ne, upd_eq, ne_eq, Nat.reduceEqDiff, not_false_eq_true, e2, hk, ck, nI_1] at g33
                try simp only [zwr_rne, zwr_req, upd_ne, upd_eq, ne_eq, Nat.reduceEqDiff, not_false_eq_true, e2, hk, ck, nI_1] at g33'
                try omega
                all_goals
                  try simp only [one_ne, zero_eq, if_false, if_true, or_true, true_or, or_false, false_or]
                  try simp only [zwr_rne, zwr_req, upd_ne, upd_eq, ne_eq, Nat.reduceEqDiff, not_false_eq_true, e2, hk, ck, nI_1]
                  refine m_isIn (fun g34 g34' => ?_) (fun g34 => ?_)
                  · try simp only [zwr_rne, zwr_req, upd_ne, upd_eq, ne_eq, Nat.reduceEqDiff, not_false_eq_true, e2, hk, ck, nI_1] at g34
                    try simp only [zwr_rne, zwr_req, upd_ne, upd_eq, ne_eq, Nat.reduceEqDiff, not_false_eq_true, e2, hk, ck, nI_1] at g34'
                    try omega
                    all_goals
                      try simp only [one_ne, zero_eq, if_false, if_true, or_true, true_or, or_false, false_or]
                      try simp only [zwr_rne, zwr_req, upd_ne, upd_eq, ne_eq, Nat.reduceEqDiff, not_false_eq_true, e2, hk, ck, nI_1]
                      refine zeq (fun g35 => ?_) (fun g35 => ?_)
                      · try simp only [zwr_rne, zwr_req, upd_ne, upd_eq, ne_eq, Nat.reduceEqDiff, not_false_eq_true, e2, hk, ck, nI_1] at g35
                        try omega
                        all_goals
                          try simp only [zwr_rne, zwr_req, upd_ne, upd_eq, ne_eq, Nat.reduceEqDiff, not_false_eq_true, e2, hk, ck, nI_1]
                          exact ⟨by first | rfl | trivial, hh⟩
                      · try simp only [zwr_rne, zwr_req, upd_ne, upd_eq, ne_eq, Nat.reduceEqDiff, not_false_eq_true, e2, hk, ck, nI_1] at g35
                        try omega
                        all_goals
                          try simp only [zwr_rne, zwr_req, upd_ne, upd_eq, ne_eq, Nat.reduceEqDiff, not_false_eq_true, e2, hk, ck, nI_1]
                          refine ⟨by first | assumption | exact vin (by omega) | exact vp_in_I.mpr (by omega), ?_⟩
                          rintro _ rfl
                          try simp only [zwr_rne, zwr_req, upd_ne, upd_eq, ne_eq, Nat.reduceEqDiff, not_false_eq_true, e2, hk, ck, nI_1]
                          refine ⟨by first | assumption | exact vin (by omega) | exact vp_in_I.mpr (by omega), ?_⟩
                          rintro _ rfl
                          try simp only [zwr_rne, zwr_req, upd_ne, upd_eq, ne_eq, Nat.reduceEqDiff, not_false_eq_true, e2, hk, ck, nI_1]
                          refine ⟨by first | assumption | exact vin (by omega) | exact vp_in_I.mpr (by omega), ?_⟩
                          rintro _ rfl
                          try simp only [zwr_rne, zwr_req, upd_ne, upd_eq, ne_eq, Nat.reduceEqDiff, not_false_eq_true, e2, hk, ck, nI_1]
                          refine ⟨by first | assumption | exact vin (by omega) | exact vp_in_I.mpr (by omega), ?_⟩
                          rintro _ rfl
                          try simp only [zwr_rne, zwr_req, upd_ne, upd_eq, ne_eq, Nat.reduceEqDiff, not_false_eq_true, e2, hk, ck, nI_1]
                          refine ⟨by first | assumption | exact vin (by omega) | exact vp_in_I.mpr (by omega), ?_⟩
                          rintro _ rfl
                          try simp only [zwr_rne, zwr_req, upd_ne, upd_eq, ne_eq, Nat.reduceEqDiff, not_false_eq_true, e2, hk, ck, nI_1]
                          rintro _ rfl
                          try simp only [zwr_rne, zwr_req, upd_ne, upd_eq, ne_eq, Nat.reduceEqDiff, not_false_eq_true, e2, hk, ck, nI_1]
                          refine ⟨by first | rfl | trivial | (rw [nI_pred]), ?_⟩
                          unfold Rall
                          simp only [zwr_rne, zwr_req, upd_ne, upd_eq, ne_eq, Nat.reduceEqDiff, not_false_eq_true]
                          exact ⟨⟨k1, Rcnt.k (by omega) (by omega), k3, k4, k5, k6, k7, k8, k9⟩, Ras.push (by omega) kas' (by omega) (by omega) (by omega) (by omega) (by omega) (by omega) (by omega) (by omega), kcl, kda, kdh, kpl, kkp, ksh, kwt, ktp, klw, ksd, Rwx_stale, Rwx_stale⟩
                  · try simp only [zwr_rne, zwr_req, upd_ne, upd_eq, ne_eq, Nat.reduceEqDiff, not_false_eq_true, e2, hk, ck, nI_1] at g34
                    try omega
                    all_goals
                      try simp only [one_ne, zero_eq, if_false, if_true, or_true, true_or, or_false, false_or]
                      try simp only [zwr_rne, zwr_req, upd_ne, upd_eq, ne_eq, Nat.reduceEqDiff, not_false_eq_true, e2, hk, ck, nI_1]
                      exact ⟨by first | rfl | trivial, hh⟩
              · try simp only [zwr_rne, zwr_req, upd_ne, upd_eq, ne_eq, Nat.reduceEqDiff, not_false_eq_true, e2, hk, ck, nI_1] at g33
                try omega
                all_goals
                  try simp only [one_ne, zero_eq, if_false, if_true, or_true, true_or, or_false, false_or]
                  try simp only [zwr_rne, zwr_req, upd_ne, upd_eq, ne_eq, Nat.reduceEqDiff, not_false_eq_true, e2, hk, ck, nI_1]
                  exact ⟨by first | rfl | trivial, hh⟩
          · try simp only [zwr_rne, zwr_req, upd_ne, upd_eq, ne_eq, Nat.reduceEqDiff, not_false_eq_true, e2, hk, ck, nI_1] at g32
            try omega
            all_goals
              try simp only [one_ne, zero_eq, if_false, if_true, or_true, true_or, or_false, false_or]
              try simp only [zwr_rne, zwr_req, upd_ne, upd_eq, ne_eq, Nat.reduceEqDiff, not_false_eq_true, e2, hk, ck, nI_1]
              exact ⟨by first | rfl | trivial, hh⟩
      · try simp only [zwr_rne, zwr_req, upd_ne, upd_eq, ne_eq, Nat.reduceEqDiff, not_false_eq_true, e2, hk, ck, nI_1] at g31
        try omega
        all_goals
          try simp only [one_ne, zero_eq, if_false, if_true, or_true, true_or, or_false, false_or]
          try simp only [zwr_rne, zwr_req, upd_ne, upd_eq, ne_eq, Nat.reduceEqDiff, not_false_eq_true, e2, hk, ck, nI_1]
          exact ⟨by first | rfl | trivial, hh⟩

theorem P_brings {G : zGT} {d : Nat} {v1 v2 : Int32} : Pair G (d + 6) Y_X11_brings Y_X12_brings [.inl v1, .inl v2] := by
  intro σ h
  have hh := h
  obtain ⟨⟨k1, k2, k3, k4, k5, k6, k7, k8, k9⟩, kas, kcl, kda, kdh, kpl, kkp, ksh, kwt, ktp, klw, ksd, kw0, kw1⟩ := h
  obtain ⟨e1, b1, u1⟩ := id k1
  obtain ⟨e2, b2, u2⟩ := id k2
  obtain ⟨e3, b3, u3⟩ := id k3
  obtain ⟨e4, b4, u4⟩ := id k4
  obtain ⟨e5, b5, u5⟩ := id k5
  obtain ⟨e6, b6, u6⟩ := id k6
  obtain ⟨e7, b7, u7⟩ := id k7
  obtain ⟨e8, b8, u8⟩ := id k8
  obtain ⟨e9, b9, u9⟩ := id k9
  have f1 : (σ 0 15).toInt = (σ 72 1).toInt := by rw [e1]
  have f2 : (σ 14 5).toInt = (σ 72 2).toInt := by rw [e2]
  have f3 : (σ 1 6).toInt = (σ 72 8).toInt := by rw [e3]
  have f4 : (σ 0 16).toInt = (σ 72 0).toInt := by rw [e4]
  have f5 : (σ 55 7).toInt = (σ 72 22).toInt := by rw [e5]
  have f6 : (σ 14 6).toInt = (σ 72 23).toInt := by rw [e6]
  have f7 : (σ 0 17).toInt = (σ 72 24).toInt := by rw [e7]
  have f8 : (σ 0 13).toInt = (σ 72 25).toInt := by rw [e8]
  have f9 : (σ 46 1).toInt = (σ 72 28).toInt := by rw [e9]
  have l0 := ti0
  have l1 := ti1
  have l2 := ti2
  have l3 := ti3
  have l4 := ti4
  have l5 := ti5
  have l6 := ti6
  have l8 := ti8
  have l9 := ti9
  have l10 := ti10
  have l16 := ti16
  have l20 := ti20
  have l24 := ti24
  have l31 := ti31
  have l60 := ti60
  have l96 := ti96
  have l100 := ti100
  have l200 := ti200
  have l400 := ti400
  have l600 := ti600
  have l1200 := ti1200
  have l100000 := ti100000
  have lm1 := tim1
  have lB := tiB
  have lN := tiN
  rcases idx_of v1 (σ 72 2) with hb | ⟨a, rfl, ha, ha2⟩
  · refine en_X11_brings ?_
    try simp only [zwr_rne, zwr_req, upd_ne, upd_eq, ne_eq, Nat.reduceEqDiff, not_false_eq_true]
    refine c_hasA (fun g1 g1' => ?_) (fun g1 => ?_)
    · try simp only [zwr_rne, zwr_req, upd_ne, upd_eq, ne_eq, Nat.reduceEqDiff, not_false_eq_true] at g1
      try simp only [zwr_rne, zwr_req, upd_ne, upd_eq, ne_eq, Nat.reduceEqDiff, not_false_eq_true] at g1'
      try omega
      all_goals
        try simp only [one_ne, zero_eq, if_false, if_true, or_true, true_or, or_false, false_or]
        refine c_isSide (fun g2 g2' => ?_) (fun g2 => ?_)
        · try simp only [zwr_rne, zwr_req, upd_ne, upd_eq, ne_eq, Nat.reduceEqDiff, not_false_eq_true] at g2
          try simp only [zwr_rne, zwr_req, upd_ne, upd_eq, ne_eq, Nat.reduceEqDiff, not_false_eq_true] at g2'
          try omega
          all_goals
            try simp only [one_ne, zero_eq, if_false, if_true, or_true, true_or, or_false, false_or]
            exfalso; omega
            try simp only [zwr_rne, zwr_req, upd_ne, upd_eq, ne_eq, Nat.reduceEqDiff, not_false_eq_true]
            refine en_X12_brings ?_
            try simp only [zwr_rne, zwr_req, upd_ne, upd_eq, ne_eq, Nat.reduceEqDiff, not_false_eq_true]
            refine m_isAsset (by first | omega | (simp only [zwr_rne, zwr_req, upd_ne, upd_eq, ne_eq, Nat.reduceEqDiff, not_false_eq_true]; omega)) (fun g3 g3' => ?_) (fun g3 => ?_)
            · try simp only [zwr_rne, zwr_req, upd_ne, upd_eq, ne_eq, Nat.reduceEqDiff, not_false_eq_true] at g3
              try simp only [zwr_rne, zwr_req, upd_ne, upd_eq, ne_eq, Nat.reduceEqDiff, not_false_eq_true] at g3'
              try omega
              all_goals
                try simp only [one_ne, zero_eq, if_false, if_true, or_true, true_or, or_false, false_or]
                try simp only [zwr_rne, zwr_req, upd_ne, upd_eq, ne_eq, Nat.reduceEqDiff, not_false_eq_true]
                refine m_isSide (fun g4 g4' => ?_) (fun g4 => ?_)
                · try simp only [zwr_rne, zwr_req, upd_ne, upd_eq, ne_eq, Nat.reduceEqDiff, not_false_eq_true] at g4
                  try simp only [zwr_rne, zwr_req, upd_ne, upd_eq, ne_eq, Nat.reduceEqDiff, not_false_eq_true] at g4'
                  try omega
                  all_goals
                    try simp only [one_ne, zero_eq, if_false, if_true, or_true, true_or, or_false, false_or]
                    try simp only [zwr_rne, zwr_req, upd_ne, upd_eq, ne_eq, Nat.reduceEqDiff, not_false_eq_true]
                    exfalso; omega
                    try simp only [zwr_rne, zwr_req, upd_ne, upd_eq, ne_eq, Nat.reduceEqDiff, not_false_eq_true]
                    exact ⟨by first | rfl | trivial, hh⟩
                · try simp only [zwr_rne, zwr_req, upd_ne, upd_eq, ne_eq, Nat.reduceEqDiff, not_false_eq_true] at g4
                  try omega
                  all_goals
                    try simp only [one_ne, zero_eq, if_false, if_true, or_true, true_or, or_false, false_or]
                    try simp only [zwr_rne, zwr_req, upd_ne, upd_eq, ne_eq, Nat.reduceEqDiff, not_false_eq_true]
                    exact ⟨by first | rfl | trivial, hh⟩
            · try simp only [zwr_rne, zwr_req, upd_ne, upd_eq, ne_eq, Nat.reduceEqDiff, not_false_eq_true] at g3
              try omega
              all_goals
                try simp only [one_ne, zero_eq, if_false, if_true, or_true, true_or, or_false, false_or]
                try simp only [zwr_rne, zwr_req, upd_ne, upd_eq, ne_eq, Nat.reduceEqDiff, not_false_eq_true]
                exact ⟨by first | rfl | trivial, hh⟩
        · try simp only [zwr_rne, zwr_req, upd_ne, upd_eq, ne_eq, Nat.reduceEqDiff, not_false_eq_true] at g2
          try omega
          all_goals
            try simp only [one_ne, zero_eq, if_false, if_true, or_true, true_or, or_false, false_or]
            refine en_X12_brings ?_
            try simp only [zwr_rne, zwr_req, upd_ne, upd_eq, ne_eq, Nat.reduceEqDiff, not_false_eq_true]
            refine m_isAsset (by first | omega | (simp only [zwr_rne, zwr_req, upd_ne, upd_eq, ne_eq, Nat.reduceEqDiff, not_false_eq_true]; omega)) (fun g5 g5' => ?_) (fun g5 => ?_)
            · try simp only [zwr_rne, zwr_req, upd_ne, upd_eq, ne_eq, Nat.reduceEqDiff, not_false_eq_true] at g5
              try simp only [zwr_rne, zwr_req, upd_ne, upd_eq, ne_eq, Nat.reduceEqDiff, not_false_eq_true] at g5'
              try omega
              all_goals
                try simp only [one_ne, zero_eq, if_false, if_true, or_true, true_or, or_false, false_or]
                try simp only [zwr_rne, zwr_req, upd_ne, upd_eq, ne_eq, Nat.reduceEqDiff, not_false_eq_true]
                refine m_isSide (fun g6 g6' => ?_) (fun g6 => ?_)
                · try simp only [zwr_rne, zwr_req, upd_ne, upd_eq, ne_eq, Nat.reduceEqDiff, not_false_eq_true] at g6
                  try simp only [zwr_rne, zwr_req, upd_ne, upd_eq, ne_eq, Nat.reduceEqDiff, not_false_eq_true] at g6'
                  try omega
                  all_goals
                    try simp only [one_ne, zero_eq, if_false, if_true, or_true, true_or, or_false, false_or]
                    try simp only [zwr_rne, zwr_req, upd_ne, upd_eq, ne_eq, Nat.reduceEqDiff, not_false_eq_true]
                    exfalso; omega
                    try simp only [zwr_rne, zwr_req, upd_ne, upd_eq, ne_eq, Nat.reduceEqDiff, not_false_eq_true]
                    exact ⟨by first | rfl | trivial, hh⟩
                · try simp only [zwr_rne, zwr_req, upd_ne, upd_eq, ne_eq, Nat.reduceEqDiff, not_false_eq_true] at g6
                  try omega
                  all_goals
                    try simp only [one_ne, zero_eq, if_false, if_true, or_true, true_or, or_false, false_or]
                    try simp only [zwr_rne, zwr_req, upd_ne, upd_eq, ne_eq, Nat.reduceEqDiff, not_false_eq_true]
                    exact ⟨by first | rfl | trivial, hh⟩
            · try simp only [zwr_rne, zwr_req, upd_ne, upd_eq, ne_eq, Nat.reduceEqDiff, not_false_eq_true] at g5
              try omega
              all_goals
                try simp only [one_ne, zero_eq, if_false, if_true, or_true, true_or, or_false, false_or]
                try simp only [zwr_rne, zwr_req, upd_ne, upd_eq, ne_eq, Nat.reduceEqDiff, not_false_eq_true]
                exact ⟨by first | rfl | trivial, hh⟩
    · try simp only [zwr_rne, zwr_req, upd_ne, upd_eq, ne_eq, Nat.reduceEqDiff, not_false_eq_true] at g1
      try omega
      all_goals
        try simp only [one_ne, zero_eq, if_false, if_true, or_true, true_or, or_false, false_or]
        refine en_X12_brings ?_
        try simp only [zwr_rne, zwr_req, upd_ne, upd_eq, ne_eq, Nat.reduceEqDiff, not_false_eq_true]
        refine m_isAsset (by first | omega | (simp only [zwr_rne, zwr_req, upd_ne, upd_eq, ne_eq, Nat.reduceEqDiff, not_false_eq_true]; omega)) (fun g7 g7' => ?_) (fun g7 => ?_)
        · try simp only [zwr_rne, zwr_req, upd_ne, upd_eq, ne_eq, Nat.reduceEqDiff, not_false_eq_true] at g7
          try simp only [zwr_rne, zwr_req, upd_ne, upd_eq, ne_eq, Nat.reduceEqDiff, not_false_eq_true] at g7'
          try omega
          all_goals
            try simp only [one_ne, zero_eq, if_false, if_true, or_true, true_or, or_false, false_or]
            try simp only [zwr_rne, zwr_req, upd_ne, upd_eq, ne_eq, Nat.reduceEqDiff, not_false_eq_true]
            refine m_isSide (fun g8 g8' => ?_) (fun g8 => ?_)
            · try simp only [zwr_rne, zwr_req, upd_ne, upd_eq, ne_eq, Nat.reduceEqDiff, not_false_eq_true] at g8
              try simp only [zwr_rne, zwr_req, upd_ne, upd_eq, ne_eq, Nat.reduceEqDiff, not_false_eq_true] at g8'
              try omega
              all_goals
                try simp only [one_ne, zero_eq, if_false, if_true, or_true, true_or, or_false, false_or]
                try simp only [zwr_rne, zwr_req, upd_ne, upd_eq, ne_eq, Nat.reduceEqDiff, not_false_eq_true]
                exfalso; omega
                try simp only [zwr_rne, zwr_req, upd_ne, upd_eq, ne_eq, Nat.reduceEqDiff, not_false_eq_true]
                exact ⟨by first | rfl | trivial, hh⟩
            · try simp only [zwr_rne, zwr_req, upd_ne, upd_eq, ne_eq, Nat.reduceEqDiff, not_false_eq_true] at g8
              try omega
              all_goals
                try simp only [one_ne, zero_eq, if_false, if_true, or_true, true_or, or_false, false_or]
                try simp only [zwr_rne, zwr_req, upd_ne, upd_eq, ne_eq, Nat.reduceEqDiff, not_false_eq_true]
                exact ⟨by first | rfl | trivial, hh⟩
        · try simp only [zwr_rne, zwr_req, upd_ne, upd_eq, ne_eq, Nat.reduceEqDiff, not_false_eq_true] at g7
          try omega
          all_goals
            try simp only [one_ne, zero_eq, if_false, if_true, or_true, true_or, or_false, false_or]
            try simp only [zwr_rne, zwr_req, upd_ne, upd_eq, ne_eq, Nat.reduceEqDiff, not_false_eq_true]
            exact ⟨by first | rfl | trivial, hh⟩
  · have ta := tin ha2
    have ca : (nI a).toNatClampNeg = a := cln ha2
    have va : vp_in (nI a) 16 := vin (by omega)
    obtain ⟨s1, s2, s3, s4, s5, s6, s7, s8, s9, s10, s11, s12, s13, s14, s15⟩ := kas a ha
    have fs1 : (σ 15 a).toInt = (σ 73 a).toInt := by rw [s1]
    refine en_X11_brings ?_
    try simp only [zwr_rne, zwr_req, upd_ne, upd_eq, ne_eq, Nat.reduceEqDiff, not_false_eq_true, ca]
    refine c_hasA (fun g1 g1' => ?_) (fun g1 => ?_)
    · try simp only [zwr_rne, zwr_req, upd_ne, upd_eq, ne_eq, Nat.reduceEqDiff, not_false_eq_true, ca] at g1
      try simp only [zwr_rne, zwr_req, upd_ne, upd_eq, ne_eq, Nat.reduceEqDiff, not_false_eq_true, ca] at g1'
      try omega
      all_goals
        try simp only [one_ne, zero_eq, if_false, if_true, or_true, true_or, or_false, false_or]
        refine c_isSide (fun g2 g2' => ?_) (fun g2 => ?_)
        · try simp only [zwr_rne, zwr_req, upd_ne, upd_eq, ne_eq, Nat.reduceEqDiff, not_false_eq_true, ca] at g2
          try simp only [zwr_rne, zwr_req, upd_ne, upd_eq, ne_eq, Nat.reduceEqDiff, not_false_eq_true, ca] at g2'
          try omega
          all_goals
            try simp only [one_ne, zero_eq, if_false, if_true, or_true, true_or, or_false, false_or]
            refine en_X0_proceeds ?_
            try simp only [zwr_rne, zwr_req, upd_ne, upd_eq, ne_eq, Nat.reduceEqDiff, not_false_eq_true, ca]
            refine zeq (fun g3 => ?_) (fun g3 => ?_)
            · try simp only [zwr_rne, zwr_req, upd_ne, upd_eq, ne_eq, Nat.reduceEqDiff, not_false_eq_true, ca] at g3
              try omega
              all_goals
                refine ⟨by first | assumption | exact vin (by omega) | exact vp_in_I.mpr (by omega), ?_⟩
                refine ⟨by first | assumption | exact vin (by omega) | exact vp_in_I.mpr (by omega), ?_⟩
                refine ⟨by first | decide | (rw [fa_eq]; omega), ?_⟩
                try simp only [zwr_rne, zwr_req, upd_ne, upd_eq, ne_eq, Nat.reduceEqDiff, not_false_eq_true, ca]
                refine en_X12_brings ?_
                try simp only [zwr_rne, zwr_req, upd_ne, upd_eq, ne_eq, Nat.reduceEqDiff, not_false_eq_true, ca]
                refine m_isAsset (by first | omega | (simp only [zwr_rne, zwr_req, upd_ne, upd_eq, ne_eq, Nat.reduceEqDiff, not_false_eq_true, ca]; omega)) (fun g4 g4' => ?_) (fun g4 => ?_)
                · try simp only [zwr_rne, zwr_req, upd_ne, upd_eq, ne_eq, Nat.reduceEqDiff, not_false_eq_true, ca] at g4
                  try simp only [zwr_rne, zwr_req, upd_ne, upd_eq, ne_eq, Nat.reduceEqDiff, not_false_eq_true, ca] at g4'
                  try omega
                  all_goals
                    try simp only [one_ne, zero_eq, if_false, if_true, or_true, true_or, or_false, false_or]
                    try simp only [zwr_rne, zwr_req, upd_ne, upd_eq, ne_eq, Nat.reduceEqDiff, not_false_eq_true, ca]
                    refine m_isSide (fun g5 g5' => ?_) (fun g5 => ?_)
                    · try simp only [zwr_rne, zwr_req, upd_ne, upd_eq, ne_eq, Nat.reduceEqDiff, not_false_eq_true, ca] at g5
                      try simp only [zwr_rne, zwr_req, upd_ne, upd_eq, ne_eq, Nat.reduceEqDiff, not_false_eq_true, ca] at g5'
                      try omega
                      all_goals
                        try simp only [one_ne, zero_eq, if_false, if_true, or_true, true_or, or_false, false_or]
                        try simp only [zwr_rne, zwr_req, upd_ne, upd_eq, ne_eq, Nat.reduceEqDiff, not_false_eq_true, ca]
                        refine en_X12_bringsOf ?_
                        try simp only [zwr_rne, zwr_req, upd_ne, upd_eq, ne_eq, Nat.reduceEqDiff, not_false_eq_true, ca]
                        refine zeq (fun g6 => ?_) (fun g6 => ?_)
                        · try simp only [zwr_rne, zwr_req, upd_ne, upd_eq, ne_eq, Nat.reduceEqDiff, not_false_eq_true, ca] at g6
                          try omega
                          all_goals
                            try simp only [zwr_rne, zwr_req, upd_ne, upd_eq, ne_eq, Nat.reduceEqDiff, not_false_eq_true, ca]
                            refine ⟨by first | assumption | exact vin (by omega) | exact vp_in_I.mpr (by omega), ?_⟩
                            refine ⟨by first | assumption | exact vin (by omega) | exact vp_in_I.mpr (by omega), ?_⟩
                            refine ⟨by first | decide | (rw [fa_eq]; omega), ?_⟩
                            try simp only [zwr_rne, zwr_req, upd_ne, upd_eq, ne_eq, Nat.reduceEqDiff, not_false_eq_true, ca]
                            first | exact ⟨by rw [s2, s4, e6, Int32.mul_assoc], hh⟩ | exact ⟨by rw [s3, s4, e6, Int32.mul_assoc], hh⟩
                        · try simp only [zwr_rne, zwr_req, upd_ne, upd_eq, ne_eq, Nat.reduceEqDiff, not_false_eq_true, ca] at g6
                          try omega
                          all_goals
                            try simp only [zwr_rne, zwr_req, upd_ne, upd_eq, ne_eq, Nat.reduceEqDiff, not_false_eq_true, ca]
                            refine ⟨by first | assumption | exact vin (by omega) | exact vp_in_I.mpr (by omega), ?_⟩
                            refine ⟨by first | assumption | exact vin (by omega) | exact vp_in_I.mpr (by omega), ?_⟩
                            refine ⟨by first | decide | (rw [fa_eq]; omega), ?_⟩
                            try simp only [zwr_rne, zwr_req, upd_ne, upd_eq, ne_eq, Nat.reduceEqDiff, not_false_eq_true, ca]
                            first | exact ⟨by rw [s2, s4, e6, Int32.mul_assoc], hh⟩ | exact ⟨by rw [s3, s4, e6, Int32.mul_assoc], hh⟩
                    · try simp only [zwr_rne, zwr_req, upd_ne, upd_eq, ne_eq, Nat.reduceEqDiff, not_false_eq_true, ca] at g5
                      try omega
                      all_goals
                        try simp only [one_ne, zero_eq, if_false, if_true, or_true, true_or, or_false, false_or]
                        try simp only [zwr_rne, zwr_req, upd_ne, upd_eq, ne_eq, Nat.reduceEqDiff, not_false_eq_true, ca]
                        exact ⟨by first | rfl | trivial, hh⟩
                · try simp only [zwr_rne, zwr_req, upd_ne, upd_eq, ne_eq, Nat.reduceEqDiff, not_false_eq_true, ca] at g4
                  try omega
                  all_goals
                    try simp only [one_ne, zero_eq, if_false, if_true, or_true, true_or, or_false, false_or]
                    try simp only [zwr_rne, zwr_req, upd_ne, upd_eq, ne_eq, Nat.reduceEqDiff, not_false_eq_true, ca]
                    exact ⟨by first | rfl | trivial, hh⟩
            · try simp only [zwr_rne, zwr_req, upd_ne, upd_eq, ne_eq, Nat.reduceEqDiff, not_false_eq_true, ca] at g3
              try omega
              all_goals
                refine ⟨by first | assumption | exact vin (by omega) | exact vp_in_I.mpr (by omega), ?_⟩
                refine ⟨by first | assumption | exact vin (by omega) | exact vp_in_I.mpr (by omega), ?_⟩
                refine ⟨by first | decide | (rw [fa_eq]; omega), ?_⟩
                try simp only [zwr_rne, zwr_req, upd_ne, upd_eq, ne_eq, Nat.reduceEqDiff, not_false_eq_true, ca]
                refine en_X12_brings ?_
                try simp only [zwr_rne, zwr_req, upd_ne, upd_eq, ne_eq, Nat.reduceEqDiff, not_false_eq_true, ca]
                refine m_isAsset (by first | omega | (simp only [zwr_rne, zwr_req, upd_ne, upd_eq, ne_eq, Nat.reduceEqDiff, not_false_eq_true, ca]; omega)) (fun g7 g7' => ?_) (fun g7 => ?_)
                · try simp only [zwr_rne, zwr_req, upd_ne, upd_eq, ne_eq, Nat.reduceEqDiff, not_false_eq_true, ca] at g7
                  try simp only [zwr_rne, zwr_req, upd_ne, upd_eq, ne_eq, Nat.reduceEqDiff, not_false_eq_true, ca] at g7'
                  try omega
                  all_goals
                    try simp only [one_ne, zero_eq, if_false, if_true, or_true, true_or, or_false, false_or]
                    try simp only [zwr_rne, zwr_req, upd_ne, upd_eq, ne_eq, Nat.reduceEqDiff, not_false_eq_true, ca]
                    refine m_isSide (fun g8 g8' => ?_) (fun g8 => ?_)
                    · try simp only [zwr_rne, zwr_req, upd_ne, upd_eq, ne_eq, Nat.reduceEqDiff, not_false_eq_true, ca] at g8
                      try simp only [zwr_rne, zwr_req, upd_ne, upd_eq, ne_eq, Nat.reduceEqDiff, not_false_eq_true, ca] at g8'
                      try omega
                      all_goals
                        try simp only [one_ne, zero_eq, if_false, if_true, or_true, true_or, or_false, false_or]
                        try simp only [zwr_rne, zwr_req, upd_ne, upd_eq, ne_eq, Nat.reduceEqDiff, not_false_eq_true, ca]
                        refine en_X12_bringsOf ?_
                        try simp only [zwr_rne, zwr_req, upd_ne, upd_eq, ne_eq, Nat.reduceEqDiff, not_false_eq_true, ca]
                        refine zeq (fun g9 => ?_) (fun g9 => ?_)
                        · try simp only [zwr_rne, zwr_req, upd_ne, upd_eq, ne_eq, Nat.reduceEqDiff, not_false_eq_true, ca] at g9
                          try omega
                          all_goals
                            try simp only [zwr_rne, zwr_req, upd_ne, upd_eq, ne_eq, Nat.reduceEqDiff, not_false_eq_true, ca]
                            refine ⟨by first | assumption | exact vin (by omega) | exact vp_in_I.mpr (by omega), ?_⟩
                            refine ⟨by first | assumption | exact vin (by omega) | exact vp_in_I.mpr (by omega), ?_⟩
                            refine ⟨by first | decide | (rw [fa_eq]; omega), ?_⟩
                            try simp only [zwr_rne, zwr_req, upd_ne, upd_eq, ne_eq, Nat.reduceEqDiff, not_false_eq_true, ca]
                            first | exact ⟨by rw [s2, s4, e6, Int32.mul_assoc], hh⟩ | exact ⟨by rw [s3, s4, e6, Int32.mul_assoc], hh⟩
                        · try simp only [zwr_rne, zwr_req, upd_ne, upd_eq, ne_eq, Nat.reduceEqDiff, not_false_eq_true, ca] at g9
                          try omega
                          all_goals
                            try simp only [zwr_rne, zwr_req, upd_ne, upd_eq, ne_eq, Nat.reduceEqDiff, not_false_eq_true, ca]
                            refine ⟨by first | assumption | exact vin (by omega) | exact vp_in_I.mpr (by omega), ?_⟩
                            refine ⟨by first | assumption | exact vin (by omega) | exact vp_in_I.mpr (by omega), ?_⟩
                            refine ⟨by first | decide | (rw [fa_eq]; omega), ?_⟩
                            try simp only [zwr_rne, zwr_req, upd_ne, upd_eq, ne_eq, Nat.reduceEqDiff, not_false_eq_true, ca]
                            first | exact ⟨by rw [s2, s4, e6, Int32.mul_assoc], hh⟩ | exact ⟨by rw [s3, s4, e6, Int32.mul_assoc], hh⟩
                    · try simp only [zwr_rne, zwr_req, upd_ne, upd_eq, ne_eq, Nat.reduceEqDiff, not_false_eq_true, ca] at g8
                      try omega
                      all_goals
                        try simp only [one_ne, zero_eq, if_false, if_true, or_true, true_or, or_false, false_or]
                        try simp only [zwr_rne, zwr_req, upd_ne, upd_eq, ne_eq, Nat.reduceEqDiff, not_false_eq_true, ca]
                        exact ⟨by first | rfl | trivial, hh⟩
                · try simp only [zwr_rne, zwr_req, upd_ne, upd_eq, ne_eq, Nat.reduceEqDiff, not_false_eq_true, ca] at g7
                  try omega
                  all_goals
                    try simp only [one_ne, zero_eq, if_false, if_true, or_true, true_or, or_false, false_or]
                    try simp only [zwr_rne, zwr_req, upd_ne, upd_eq, ne_eq, Nat.reduceEqDiff, not_false_eq_true, ca]
                    exact ⟨by first | rfl | trivial, hh⟩
        · try simp only [zwr_rne, zwr_req, upd_ne, upd_eq, ne_eq, Nat.reduceEqDiff, not_false_eq_true, ca] at g2
          try omega
          all_goals
            try simp only [one_ne, zero_eq, if_false, if_true, or_true, true_or, or_false, false_or]
            refine en_X12_brings ?_
            try simp only [zwr_rne, zwr_req, upd_ne, upd_eq, ne_eq, Nat.reduceEqDiff, not_false_eq_true, ca]
            refine m_isAsset (by first | omega | (simp only [zwr_rne, zwr_req, upd_ne, upd_eq, ne_eq, Nat.reduceEqDiff, not_false_eq_true, ca]; omega)) (fun g10 g10' => ?_) (fun g10 => ?_)
            · try simp only [zwr_rne, zwr_req, upd_ne, upd_eq, ne_eq, Nat.reduceEqDiff, not_false_eq_true, ca] at g10
              try simp only [zwr_rne, zwr_req, upd_ne, upd_eq, ne_eq, Nat.reduceEqDiff, not_false_eq_true, ca] at g10'
              try omega
              all_goals
                try simp only [one_ne, zero_eq, if_false, if_true, or_true, true_or, or_false, false_or]
                try simp only [zwr_rne, zwr_req, upd_ne, upd_eq, ne_eq, Nat.reduceEqDiff, not_false_eq_true, ca]
                refine m_isSide (fun g11 g11' => ?_) (fun g11 => ?_)
                · try simp only [zwr_rne, zwr_req, upd_ne, upd_eq, ne_eq, Nat.reduceEqDiff, not_false_eq_true, ca] at g11
                  try simp only [zwr_rne, zwr_req, upd_ne, upd_eq, ne_eq, Nat.reduceEqDiff, not_false_eq_true, ca] at g11'
                  try omega
                  all_goals
                    try simp only [one_ne, zero_eq, if_false, if_true, or_true, true_or, or_false, false_or]
                    try simp only [zwr_rne, zwr_req, upd_ne, upd_eq, ne_eq, Nat.reduceEqDiff, not_false_eq_true, ca]
                    refine en_X12_bringsOf ?_
                    try simp only [zwr_rne, zwr_req, upd_ne, upd_eq, ne_eq, Nat.reduceEqDiff, not_false_eq_true, ca]
                    refine zeq (fun g12 => ?_) (fun g12 => ?_)
                    · try simp only [zwr_rne, zwr_req, upd_ne, upd_eq, ne_eq, Nat.reduceEqDiff, not_false_eq_true, ca] at g12
                      try omega
                      all_goals
                        try simp only [zwr_rne, zwr_req, upd_ne, upd_eq, ne_eq, Nat.reduceEqDiff, not_false_eq_true, ca]
                        refine ⟨by first | assumption | exact vin (by omega) | exact vp_in_I.mpr (by omega), ?_⟩
                        refine ⟨by first | assumption | exact vin (by omega) | exact vp_in_I.mpr (by omega), ?_⟩
                        refine ⟨by first | decide | (rw [fa_eq]; omega), ?_⟩
                        try simp only [zwr_rne, zwr_req, upd_ne, upd_eq, ne_eq, Nat.reduceEqDiff, not_false_eq_true, ca]
                        first | exact ⟨by rw [s2, s4, e6, Int32.mul_assoc], hh⟩ | exact ⟨by rw [s3, s4, e6, Int32.mul_assoc], hh⟩
                    · try simp only [zwr_rne, zwr_req, upd_ne, upd_eq, ne_eq, Nat.reduceEqDiff, not_false_eq_true, ca] at g12
                      try omega
                      all_goals
                        try simp only [zwr_rne, zwr_req, upd_ne, upd_eq, ne_eq, Nat.reduceEqDiff, not_false_eq_true, ca]
                        refine ⟨by first | assumption | exact vin (by omega) | exact vp_in_I.mpr (by omega), ?_⟩
                        refine ⟨by first | assumption | exact vin (by omega) | exact vp_in_I.mpr (by omega), ?_⟩
                        refine ⟨by first | decide | (rw [fa_eq]; omega), ?_⟩
                        try simp only [zwr_rne, zwr_req, upd_ne, upd_eq, ne_eq, Nat.reduceEqDiff, not_false_eq_true, ca]
                        first | exact ⟨by rw [s2, s4, e6, Int32.mul_assoc], hh⟩ | exact ⟨by rw [s3, s4, e6, Int32.mul_assoc], hh⟩
                · try simp only [zwr_rne, zwr_req, upd_ne, upd_eq, ne_eq, Nat.reduceEqDiff, not_false_eq_true, ca] at g11
                  try omega
                  all_goals
                    try simp only [one_ne, zero_eq, if_false, if_true, or_true, true_or, or_false, false_or]
                    try simp only [zwr_rne, zwr_req, upd_ne, upd_eq, ne_eq, Nat.reduceEqDiff, not_false_eq_true, ca]
                    exact ⟨by first | rfl | trivial, hh⟩
            · try simp only [zwr_rne, zwr_req, upd_ne, upd_eq, ne_eq, Nat.reduceEqDiff, not_false_eq_true, ca] at g10
              try omega
              all_goals
                try simp only [one_ne, zero_eq, if_false, if_true, or_true, true_or, or_false, false_or]
                try simp only [zwr_rne, zwr_req, upd_ne, upd_eq, ne_eq, Nat.reduceEqDiff, not_false_eq_true, ca]
                exact ⟨by first | rfl | trivial, hh⟩
    · try simp only [zwr_rne, zwr_req, upd_ne, upd_eq, ne_eq, Nat.reduceEqDiff, not_false_eq_true, ca] at g1
      try omega
      all_goals
        try simp only [one_ne, zero_eq, if_false, if_true, or_true, true_or, or_false, false_or]
        refine en_X12_brings ?_
        try simp only [zwr_rne, zwr_req, upd_ne, upd_eq, ne_eq, Nat.reduceEqDiff, not_false_eq_true, ca]
        refine m_isAsset (by first | omega | (simp only [zwr_rne, zwr_req, upd_ne, upd_eq, ne_eq, Nat.reduceEqDiff, not_false_eq_true, ca]; omega)) (fun g13 g13' => ?_) (fun g13 => ?_)
        · try simp only [zwr_rne, zwr_req, upd_ne, upd_eq, ne_eq, Nat.reduceEqDiff, not_false_eq_true, ca] at g13
          try simp only [zwr_rne, zwr_req, upd_ne, upd_eq, ne_eq, Nat.reduceEqDiff, not_false_eq_true, ca] at g13'
          try omega
          all_goals
            try simp only [one_ne, zero_eq, if_false, if_true, or_true, true_or, or_false, false_or]
            try simp only [zwr_rne, zwr_req, upd_ne, upd_eq, ne_eq, Nat.reduceEqDiff, not_false_eq_true, ca]
            refine m_isSide (fun g14 g14' => ?_) (fun g14 => ?_)
            · try simp only [zwr_rne, zwr_req, upd_ne, upd_eq, ne_eq, Nat.reduceEqDiff, not_false_eq_true, ca] at g14
              try simp only [zwr_rne, zwr_req, upd_ne, upd_eq, ne_eq, Nat.reduceEqDiff, not_false_eq_true, ca] at g14'
              try omega
              all_goals
                try simp only [one_ne, zero_eq, if_false, if_true, or_true, true_or, or_false, false_or]
                try simp only [zwr_rne, zwr_req, upd_ne, upd_eq, ne_eq, Nat.reduceEqDiff, not_false_eq_true, ca]
                refine en_X12_bringsOf ?_
                try simp only [zwr_rne, zwr_req, upd_ne, upd_eq, ne_eq, Nat.reduceEqDiff, not_false_eq_true, ca]
                refine zeq (fun g15 => ?_) (fun g15 => ?_)
                · try simp only [zwr_rne, zwr_req, upd_ne, upd_eq, ne_eq, Nat.reduceEqDiff, not_false_eq_true, ca] at g15
                  try omega
                  all_goals
                    try simp only [zwr_rne, zwr_req, upd_ne, upd_eq, ne_eq, Nat.reduceEqDiff, not_false_eq_true, ca]
                    refine ⟨by first | assumption | exact vin (by omega) | exact vp_in_I.mpr (by omega), ?_⟩
                    refine ⟨by first | assumption | exact vin (by omega) | exact vp_in_I.mpr (by omega), ?_⟩
                    refine ⟨by first | decide | (rw [fa_eq]; omega), ?_⟩
                    try simp only [zwr_rne, zwr_req, upd_ne, upd_eq, ne_eq, Nat.reduceEqDiff, not_false_eq_true, ca]
                    first | exact ⟨by rw [s2, s4, e6, Int32.mul_assoc], hh⟩ | exact ⟨by rw [s3, s4, e6, Int32.mul_assoc], hh⟩
                · try simp only [zwr_rne, zwr_req, upd_ne, upd_eq, ne_eq, Nat.reduceEqDiff, not_false_eq_true, ca] at g15
                  try omega
                  all_goals
                    try simp only [zwr_rne, zwr_req, upd_ne, upd_eq, ne_eq, Nat.reduceEqDiff, not_false_eq_true, ca]
                    refine ⟨by first | assumption | exact vin (by omega) | exact vp_in_I.mpr (by omega), ?_⟩
                    refine ⟨by first | assumption | exact vin (by omega) | exact vp_in_I.mpr (by omega), ?_⟩
                    refine ⟨by first | decide | (rw [fa_eq]; omega), ?_⟩
                    try simp only [zwr_rne, zwr_req, upd_ne, upd_eq, ne_eq, Nat.reduceEqDiff, not_false_eq_true, ca]
                    first | exact ⟨by rw [s2, s4, e6, Int32.mul_assoc], hh⟩ | exact ⟨by rw [s3, s4, e6, Int32.mul_assoc], hh⟩
            · try simp only [zwr_rne, zwr_req, upd_ne, upd_eq, ne_eq, Nat.reduceEqDiff, not_false_eq_true, ca] at g14
              try omega
              all_goals
                try simp only [one_ne, zero_eq, if_false, if_true, or_true, true_or, or_false, false_or]
                try simp only [zwr_rne, zwr_req, upd_ne, upd_eq, ne_eq, Nat.reduceEqDiff, not_false_eq_true, ca]
                exact ⟨by first | rfl | trivial, hh⟩
        · try simp only [zwr_rne, zwr_req, upd_ne, upd_eq, ne_eq, Nat.reduceEqDiff, not_false_eq_true, ca] at g13
          try omega
          all_goals
            try simp only [one_ne, zero_eq, if_false, if_true, or_true, true_or, or_false, false_or]
            try simp only [zwr_rne, zwr_req, upd_ne, upd_eq, ne_eq, Nat.reduceEqDiff, not_false_eq_true, ca]
            exact ⟨by first | rfl | trivial, hh⟩

theorem P_charge {G : zGT} {d : Nat} {v1 v2 : Int32} : Pair G (d + 6) Y_X11_charge Y_X12_charge [.inl v1, .inl v2] := by
  intro σ h
  have hh := h
  obtain ⟨⟨k1, k2, k3, k4, k5, k6, k7, k8, k9⟩, kas, kcl, kda, kdh, kpl, kkp, ksh, kwt, ktp, klw, ksd, kw0, kw1⟩ := h
  obtain ⟨e1, b1, u1⟩ := id k1
  obtain ⟨e2, b2, u2⟩ := id k2
  obtain ⟨e3, b3, u3⟩ := id k3
  obtain ⟨e4, b4, u4⟩ := id k4
  obtain ⟨e5, b5, u5⟩ := id k5
  obtain ⟨e6, b6, u6⟩ := id k6
  obtain ⟨e7, b7, u7⟩ := id k7
  obtain ⟨e8, b8, u8⟩ := id k8
  obtain ⟨e9, b9, u9⟩ := id k9
  have f1 : (σ 0 15).toInt = (σ 72 1).toInt := by rw [e1]
  have f2 : (σ 14 5).toInt = (σ 72 2).toInt := by rw [e2]
  have f3 : (σ 1 6).toInt = (σ 72 8).toInt := by rw [e3]
  have f4 : (σ 0 16).toInt = (σ 72 0).toInt := by rw [e4]
  have f5 : (σ 55 7).toInt = (σ 72 22).toInt := by rw [e5]
  have f6 : (σ 14 6).toInt = (σ 72 23).toInt := by rw [e6]
  have f7 : (σ 0 17).toInt = (σ 72 24).toInt := by rw [e7]
  have f8 : (σ 0 13).toInt = (σ 72 25).toInt := by rw [e8]
  have f9 : (σ 46 1).toInt = (σ 72 28).toInt := by rw [e9]
  have l0 := ti0
  have l1 := ti1
  have l2 := ti2
  have l3 := ti3
  have l4 := ti4
  have l5 := ti5
  have l6 := ti6
  have l8 := ti8
  have l9 := ti9
  have l10 := ti10
  have l16 := ti16
  have l20 := ti20
  have l24 := ti24
  have l31 := ti31
  have l60 := ti60
  have l96 := ti96
  have l100 := ti100
  have l200 := ti200
  have l400 := ti400
  have l600 := ti600
  have l1200 := ti1200
  have l100000 := ti100000
  have lm1 := tim1
  have lB := tiB
  have lN := tiN
  rcases idx_of v1 (σ 72 2) with hb | ⟨a, rfl, ha, ha2⟩
  · refine en_X11_charge ?_
    try simp only [zwr_rne, zwr_req, upd_ne, upd_eq, ne_eq, Nat.reduceEqDiff, not_false_eq_true]
    refine c_hasA (fun g1 g1' => ?_) (fun g1 => ?_)
    · try simp only [zwr_rne, zwr_req, upd_ne, upd_eq, ne_eq, Nat.reduceEqDiff, not_false_eq_true] at g1
      try simp only [zwr_rne, zwr_req, upd_ne, upd_eq, ne_eq, Nat.reduceEqDiff, not_false_eq_true] at g1'
      try omega
      all_goals
        try simp only [one_ne, zero_eq, if_false, if_true, or_true, true_or, or_false, false_or]
        refine zeq (fun g2 => ?_) (fun g2 => ?_)
        · try simp only [zwr_rne, zwr_req, upd_ne, upd_eq, ne_eq, Nat.reduceEqDiff, not_false_eq_true] at g2
          try omega
          all_goals
            refine zeq (fun g3 => ?_) (fun g3 => ?_)
            · try simp only [zwr_rne, zwr_req, upd_ne, upd_eq, ne_eq, Nat.reduceEqDiff, not_false_eq_true] at g3
              try omega
              all_goals
                refine ⟨by first | assumption | exact vin (by omega) | exact vp_in_I.mpr (by omega), ?_⟩
                refine ⟨by first | assumption | exact vin (by omega) | exact vp_in_I.mpr (by omega), ?_⟩
                rintro _ rfl
                try simp only [zwr_rne, zwr_req, upd_ne, upd_eq, ne_eq, Nat.reduceEqDiff, not_false_eq_true]
                refine c_changed ?_
                try simp only [zwr_rne, zwr_req, upd_ne, upd_eq, ne_eq, Nat.reduceEqDiff, not_false_eq_true]
                refine en_X12_charge ?_
                try simp only [zwr_rne, zwr_req, upd_ne, upd_eq, ne_eq, Nat.reduceEqDiff, not_false_eq_true]
                refine m_isAsset (by first | omega | (simp only [zwr_rne, zwr_req, upd_ne, upd_eq, ne_eq, Nat.reduceEqDiff, not_false_eq_true]; omega)) (fun g4 g4' => ?_) (fun g4 => ?_)
                · try simp only [zwr_rne, zwr_req, upd_ne, upd_eq, ne_eq, Nat.reduceEqDiff, not_false_eq_true] at g4
                  try simp only [zwr_rne, zwr_req, upd_ne, upd_eq, ne_eq, Nat.reduceEqDiff, not_false_eq_true] at g4'
                  try omega
                  all_goals
                    try simp only [one_ne, zero_eq, if_false, if_true, or_true, true_or, or_false, false_or]
                    try simp only [zwr_rne, zwr_req, upd_ne, upd_eq, ne_eq, Nat.reduceEqDiff, not_false_eq_true]
                    refine zeq (fun g5 => ?_) (fun g5 => ?_)
                    · try simp only [zwr_rne, zwr_req, upd_ne, upd_eq, ne_eq, Nat.reduceEqDiff, not_false_eq_true] at g5
                      try omega
                      all_goals
                        try simp only [zwr_rne, zwr_req, upd_ne, upd_eq, ne_eq, Nat.reduceEqDiff, not_false_eq_true]
                        refine zeq (fun g6 => ?_) (fun g6 => ?_)
                        · try simp only [zwr_rne, zwr_req, upd_ne, upd_eq, ne_eq, Nat.reduceEqDiff, not_false_eq_true] at g6
                          try omega
                          all_goals
                            try simp only [zwr_rne, zwr_req, upd_ne, upd_eq, ne_eq, Nat.reduceEqDiff, not_false_eq_true]
                            refine ⟨by first | assumption | exact vin (by omega) | exact vp_in_I.mpr (by omega), ?_⟩
                            refine zeq (fun g7 => ?_) (fun g7 => ?_)
                            · try simp only [zwr_rne, zwr_req, upd_ne, upd_eq, ne_eq, Nat.reduceEqDiff, not_false_eq_true] at g7
                              try omega
                              all_goals
                                try simp only [zwr_rne, zwr_req, upd_ne, upd_eq, ne_eq, Nat.reduceEqDiff, not_false_eq_true]
                                refine ⟨by first | assumption | exact vin (by omega) | exact vp_in_I.mpr (by omega), ?_⟩
                                rintro _ rfl
                                try simp only [zwr_rne, zwr_req, upd_ne, upd_eq, ne_eq, Nat.reduceEqDiff, not_false_eq_true]
                                exfalso; omega
                                try simp only [zwr_rne, zwr_req, upd_ne, upd_eq, ne_eq, Nat.reduceEqDiff, not_false_eq_true]
                                exact ⟨by first | rfl | trivial, hh⟩
                            · try simp only [zwr_rne, zwr_req, upd_ne, upd_eq, ne_eq, Nat.reduceEqDiff, not_false_eq_true] at g7
                              try omega
                              all_goals
                                try simp only [zwr_rne, zwr_req, upd_ne, upd_eq, ne_eq, Nat.reduceEqDiff, not_false_eq_true]
                                refine ⟨by first | assumption | exact vin (by omega) | exact vp_in_I.mpr (by omega), ?_⟩
                                rintro _ rfl
                                try simp only [zwr_rne, zwr_req, upd_ne, upd_eq, ne_eq, Nat.reduceEqDiff, not_false_eq_true]
                                exfalso; omega
                                try simp only [zwr_rne, zwr_req, upd_ne, upd_eq, ne_eq, Nat.reduceEqDiff, not_false_eq_true]
                                exact ⟨by first | rfl | trivial, hh⟩
                        · try simp only [zwr_rne, zwr_req, upd_ne, upd_eq, ne_eq, Nat.reduceEqDiff, not_false_eq_true] at g6
                          try omega
                          all_goals
                            try simp only [zwr_rne, zwr_req, upd_ne, upd_eq, ne_eq, Nat.reduceEqDiff, not_false_eq_true]
                            refine ⟨by first | assumption | exact vin (by omega) | exact vp_in_I.mpr (by omega), ?_⟩
                            refine zeq (fun g8 => ?_) (fun g8 => ?_)
                            · try simp only [zwr_rne, zwr_req, upd_ne, upd_eq, ne_eq, Nat.reduceEqDiff, not_false_eq_true] at g8
                              try omega
                              all_goals
                                try simp only [zwr_rne, zwr_req, upd_ne, upd_eq, ne_eq, Nat.reduceEqDiff, not_false_eq_true]
                                refine ⟨by first | assumption | exact vin (by omega) | exact vp_in_I.mpr (by omega), ?_⟩
                                refine ⟨by first | assumption | exact vin (by omega) | exact vp_in_I.mpr (by omega), ?_⟩
                                refine zeq (fun g9 => ?_) (fun g9 => ?_)
                                · try simp only [zwr_rne, zwr_req, upd_ne, upd_eq, ne_eq, Nat.reduceEqDiff, not_false_eq_true] at g9
                                  try omega
                                  all_goals
                                    try simp only [zwr_rne, zwr_req, upd_ne, upd_eq, ne_eq, Nat.reduceEqDiff, not_false_eq_true]
                                    refine ⟨by first | assumption | exact vin (by omega) | exact vp_in_I.mpr (by omega), ?_⟩
                                    refine zeq (fun g10 => ?_) (fun g10 => ?_)
                                    · try simp only [zwr_rne, zwr_req, upd_ne, upd_eq, ne_eq, Nat.reduceEqDiff, not_false_eq_true] at g10
                                      try omega
                                      all_goals
                                        try simp only [zwr_rne, zwr_req, upd_ne, upd_eq, ne_eq, Nat.reduceEqDiff, not_false_eq_true]
                                        refine ⟨by first | assumption | exact vin (by omega) | exact vp_in_I.mpr (by omega), ?_⟩
                                        rintro _ rfl
                                        try simp only [zwr_rne, zwr_req, upd_ne, upd_eq, ne_eq, Nat.reduceEqDiff, not_false_eq_true]
                                        exfalso; omega
                                        try simp only [zwr_rne, zwr_req, upd_ne, upd_eq, ne_eq, Nat.reduceEqDiff, not_false_eq_true]
                                        exact ⟨by first | rfl | trivial, hh⟩
                                    · try simp only [zwr_rne, zwr_req, upd_ne, upd_eq, ne_eq, Nat.reduceEqDiff, not_false_eq_true] at g10
                                      try omega
                                      all_goals
                                        try simp only [zwr_rne, zwr_req, upd_ne, upd_eq, ne_eq, Nat.reduceEqDiff, not_false_eq_true]
                                        refine ⟨by first | assumption | exact vin (by omega) | exact vp_in_I.mpr (by omega), ?_⟩
                                        rintro _ rfl
                                        try simp only [zwr_rne, zwr_req, upd_ne, upd_eq, ne_eq, Nat.reduceEqDiff, not_false_eq_true]
                                        exfalso; omega
                                        try simp only [zwr_rne, zwr_req, upd_ne, upd_eq, ne_eq, Nat.reduceEqDiff, not_false_eq_true]
                                        exact ⟨by first | rfl | trivial, hh⟩
                                · try simp only [zwr_rne, zwr_req, upd_ne, upd_eq, ne_eq, Nat.reduceEqDiff, not_false_eq_true] at g9
                                  try omega
                                  all_goals
                                    try simp only [zwr_rne, zwr_req, upd_ne, upd_eq, ne_eq, Nat.reduceEqDiff, not_false_eq_true]
                                    exact ⟨by first | rfl | trivial, hh⟩
                            · try simp only [zwr_rne, zwr_req, upd_ne, upd_eq, ne_eq, Nat.reduceEqDiff, not_false_eq_true] at g8
                              try omega
                              all_goals
                                try simp only [zwr_rne, zwr_req, upd_ne, upd_eq, ne_eq, Nat.reduceEqDiff, not_false_eq_true]
                                exact ⟨by first | rfl | trivial, hh⟩
                    · try simp only [zwr_rne, zwr_req, upd_ne, upd_eq, ne_eq, Nat.reduceEqDiff, not_false_eq_true] at g5
                      try omega
                      all_goals
                        try simp only [zwr_rne, zwr_req, upd_ne, upd_eq, ne_eq, Nat.reduceEqDiff, not_false_eq_true]
                        refine m_isClaim (by first | omega | (simp only [zwr_rne, zwr_req, upd_ne, upd_eq, ne_eq, Nat.reduceEqDiff, not_false_eq_true]; omega)) (fun g11 g11' => ?_) (fun g11 => ?_)
                        · try simp only [zwr_rne, zwr_req, upd_ne, upd_eq, ne_eq, Nat.reduceEqDiff, not_false_eq_true] at g11
                          try simp only [zwr_rne, zwr_req, upd_ne, upd_eq, ne_eq, Nat.reduceEqDiff, not_false_eq_true] at g11'
                          try omega
                          all_goals
                            try simp only [one_ne, zero_eq, if_false, if_true, or_true, true_or, or_false, false_or]
                            try simp only [zwr_rne, zwr_req, upd_ne, upd_eq, ne_eq, Nat.reduceEqDiff, not_false_eq_true]
                            refine zeq (fun g12 => ?_) (fun g12 => ?_)
                            · try simp only [zwr_rne, zwr_req, upd_ne, upd_eq, ne_eq, Nat.reduceEqDiff, not_false_eq_true] at g12
                              try omega
                              all_goals
                                try simp only [zwr_rne, zwr_req, upd_ne, upd_eq, ne_eq, Nat.reduceEqDiff, not_false_eq_true]
                                refine ⟨by first | assumption | exact vin (by omega) | exact vp_in_I.mpr (by omega), ?_⟩
                                refine zeq (fun g13 => ?_) (fun g13 => ?_)
                                · try simp only [zwr_rne, zwr_req, upd_ne, upd_eq, ne_eq, Nat.reduceEqDiff, not_false_eq_true] at g13
                                  try omega
                                  all_goals
                                    try simp only [zwr_rne, zwr_req, upd_ne, upd_eq, ne_eq, Nat.reduceEqDiff, not_false_eq_true]
                                    refine ⟨by first | assumption | exact vin (by omega) | exact vp_in_I.mpr (by omega), ?_⟩
                                    rintro _ rfl
                                    try simp only [zwr_rne, zwr_req, upd_ne, upd_eq, ne_eq, Nat.reduceEqDiff, not_false_eq_true]
                                    exfalso; omega
                                    try simp only [zwr_rne, zwr_req, upd_ne, upd_eq, ne_eq, Nat.reduceEqDiff, not_false_eq_true]
                                    exact ⟨by first | rfl | trivial, hh⟩
                                · try simp only [zwr_rne, zwr_req, upd_ne, upd_eq, ne_eq, Nat.reduceEqDiff, not_false_eq_true] at g13
                                  try omega
                                  all_goals
                                    try simp only [zwr_rne, zwr_req, upd_ne, upd_eq, ne_eq, Nat.reduceEqDiff, not_false_eq_true]
                                    refine ⟨by first | assumption | exact vin (by omega) | exact vp_in_I.mpr (by omega), ?_⟩
                                    rintro _ rfl
                                    try simp only [zwr_rne, zwr_req, upd_ne, upd_eq, ne_eq, Nat.reduceEqDiff, not_false_eq_true]
                                    exfalso; omega
                                    try simp only [zwr_rne, zwr_req, upd_ne, upd_eq, ne_eq, Nat.reduceEqDiff, not_false_eq_true]
                                    exact ⟨by first | rfl | trivial, hh⟩
                            · try simp only [zwr_rne, zwr_req, upd_ne, upd_eq, ne_eq, Nat.reduceEqDiff, not_false_eq_true] at g12
                              try omega
                              all_goals
                                try simp only [zwr_rne, zwr_req, upd_ne, upd_eq, ne_eq, Nat.reduceEqDiff, not_false_eq_true]
                                refine ⟨by first | assumption | exact vin (by omega) | exact vp_in_I.mpr (by omega), ?_⟩
                                refine zeq (fun g14 => ?_) (fun g14 => ?_)
                                · try simp only [zwr_rne, zwr_req, upd_ne, upd_eq, ne_eq, Nat.reduceEqDiff, not_false_eq_true] at g14
                                  try omega
                                  all_goals
                                    try simp only [zwr_rne, zwr_req, upd_ne, upd_eq, ne_eq, Nat.reduceEqDiff, not_false_eq_true]
                                    refine ⟨by first | assumption | exact vin (by omega) | exact vp_in_I.mpr (by omega), ?_⟩
                                    refine ⟨by first | assumption | exact vin (by omega) | exact vp_in_I.mpr (by omega), ?_⟩
                                    refine zeq (fun g15 => ?_) (fun g15 => ?_)
                                    · try simp only [zwr_rne, zwr_req, upd_ne, upd_eq, ne_eq, Nat.reduceEqDiff, not_false_eq_true] at g15
                                      try omega
                                      all_goals
                                        try simp only [zwr_rne, zwr_req, upd_ne, upd_eq, ne_eq, Nat.reduceEqDiff, not_false_eq_true]
                                        refine ⟨by first | assumption | exact vin (by omega) | exact vp_in_I.mpr (by omega), ?_⟩
                                        refine zeq (fun g16 => ?_) (fun g16 => ?_)
                                        · try simp only [zwr_rne, zwr_req, upd_ne, upd_eq, ne_eq, Nat.reduceEqDiff, not_false_eq_true] at g16
                                          try omega
                                          all_goals
                                            try simp only [zwr_rne, zwr_req, upd_ne, upd_eq, ne_eq, Nat.reduceEqDiff, not_false_eq_true]
                                            refine ⟨by first | assumption | exact vin (by omega) | exact vp_in_I.mpr (by omega), ?_⟩
                                            rintro _ rfl
                                            try simp only [zwr_rne, zwr_req, upd_ne, upd_eq, ne_eq, Nat.reduceEqDiff, not_false_eq_true]
                                            exfalso; omega
                                            try simp only [zwr_rne, zwr_req, upd_ne, upd_eq, ne_eq, Nat.reduceEqDiff, not_false_eq_true]
                                            exact ⟨by first | rfl | trivial, hh⟩
                                        · try simp only [zwr_rne, zwr_req, upd_ne, upd_eq, ne_eq, Nat.reduceEqDiff, not_false_eq_true] at g16
                                          try omega
                                          all_goals
                                            try simp only [zwr_rne, zwr_req, upd_ne, upd_eq, ne_eq, Nat.reduceEqDiff, not_false_eq_true]
                                            refine ⟨by first | assumption | exact vin (by omega) | exact vp_in_I.mpr (by omega), ?_⟩
                                            rintro _ rfl
                                            try simp only [zwr_rne, zwr_req, upd_ne, upd_eq, ne_eq, Nat.reduceEqDiff, not_false_eq_true]
                                            exfalso; omega
                                            try simp only [zwr_rne, zwr_req, upd_ne, upd_eq, ne_eq, Nat.reduceEqDiff, not_false_eq_true]
                                            exact ⟨by first | rfl | trivial, hh⟩
                                    · try simp only [zwr_rne, zwr_req, upd_ne, upd_eq, ne_eq, Nat.reduceEqDiff, not_false_eq_true] at g15
                                      try omega
                                      all_goals
                                        try simp only [zwr_rne, zwr_req, upd_ne, upd_eq, ne_eq, Nat.reduceEqDiff, not_false_eq_true]
                                        exact ⟨by first | rfl | trivial, hh⟩
                                · try simp only [zwr_rne, zwr_req, upd_ne, upd_eq, ne_eq, Nat.reduceEqDiff, not_false_eq_true] at g14
                                  try omega
                                  all_goals
                                    try simp only [zwr_rne, zwr_req, upd_ne, upd_eq, ne_eq, Nat.reduceEqDiff, not_false_eq_true]
                                    exact ⟨by first | rfl | trivial, hh⟩
                        · try simp only [zwr_rne, zwr_req, upd_ne, upd_eq, ne_eq, Nat.reduceEqDiff, not_false_eq_true] at g11
                          try omega
                          all_goals
                            try simp only [one_ne, zero_eq, if_false, if_true, or_true, true_or, or_false, false_or]
                            try simp only [zwr_rne, zwr_req, upd_ne, upd_eq, ne_eq, Nat.reduceEqDiff, not_false_eq_true]
                            exact ⟨by first | rfl | trivial, hh⟩
                · try simp only [zwr_rne, zwr_req, upd_ne, upd_eq, ne_eq, Nat.reduceEqDiff, not_false_eq_true] at g4
                  try omega
                  all_goals
                    try simp only [one_ne, zero_eq, if_false, if_true, or_true, true_or, or_false, false_or]
                    try simp only [zwr_rne, zwr_req, upd_ne, upd_eq, ne_eq, Nat.reduceEqDiff, not_false_eq_true]
                    exact ⟨by first | rfl | trivial, hh⟩
            · try simp only [zwr_rne, zwr_req, upd_ne, upd_eq, ne_eq, Nat.reduceEqDiff, not_false_eq_true] at g3
              try omega
              all_goals
                refine ⟨by first | assumption | exact vin (by omega) | exact vp_in_I.mpr (by omega), ?_⟩
                refine zeq (fun g17 => ?_) (fun g17 => ?_)
                · try simp only [zwr_rne, zwr_req, upd_ne, upd_eq, ne_eq, Nat.reduceEqDiff, not_false_eq_true] at g17
                  try omega
                  all_goals
                    refine ⟨by first | assumption | exact vin (by omega) | exact vp_in_I.mpr (by omega), ?_⟩
                    refine ⟨by first | assumption | exact vin (by omega) | exact vp_in_I.mpr (by omega), ?_⟩
                    refine zeq (fun g18 => ?_) (fun g18 => ?_)
                    · try simp only [zwr_rne, zwr_req, upd_ne, upd_eq, ne_eq, Nat.reduceEqDiff, not_false_eq_true] at g18
                      try omega
                      all_goals
                        refine ⟨by first | assumption | exact vin (by omega) | exact vp_in_I.mpr (by omega), ?_⟩
                        refine ⟨by first | assumption | exact vin (by omega) | exact vp_in_I.mpr (by omega), ?_⟩
                        rintro _ rfl
                        try simp only [zwr_rne, zwr_req, upd_ne, upd_eq, ne_eq, Nat.reduceEqDiff, not_false_eq_true]
                        refine c_changed ?_
                        try simp only [zwr_rne, zwr_req, upd_ne, upd_eq, ne_eq, Nat.reduceEqDiff, not_false_eq_true]
                        refine en_X12_charge ?_
                        try simp only [zwr_rne, zwr_req, upd_ne, upd_eq, ne_eq, Nat.reduceEqDiff, not_false_eq_true]
                        refine m_isAsset (by first | omega | (simp only [zwr_rne, zwr_req, upd_ne, upd_eq, ne_eq, Nat.reduceEqDiff, not_false_eq_true]; omega)) (fun g19 g19' => ?_) (fun g19 => ?_)
                        · try simp only [zwr_rne, zwr_req, upd_ne, upd_eq, ne_eq, Nat.reduceEqDiff, not_false_eq_true] at g19
                          try simp only [zwr_rne, zwr_req, upd_ne, upd_eq, ne_eq, Nat.reduceEqDiff, not_false_eq_true] at g19'
                          try omega
                          all_goals
                            try simp only [one_ne, zero_eq, if_false, if_true, or_true, true_or, or_false, false_or]
                            try simp only [zwr_rne, zwr_req, upd_ne, upd_eq, ne_eq, Nat.reduceEqDiff, not_false_eq_true]
                            refine zeq (fun g20 => ?_) (fun g20 => ?_)
                            · try simp only [zwr_rne, zwr_req, upd_ne, upd_eq, ne_eq, Nat.reduceEqDiff, not_false_eq_true] at g20
                              try omega
                              all_goals
                                try simp only [zwr_rne, zwr_req, upd_ne, upd_eq, ne_eq, Nat.reduceEqDiff, not_false_eq_true]
                                refine zeq (fun g21 => ?_) (fun g21 => ?_)
                                · try simp only [zwr_rne, zwr_req, upd_ne, upd_eq, ne_eq, Nat.reduceEqDiff, not_false_eq_true] at g21
                                  try omega
                                  all_goals
                                    try simp only [zwr_rne, zwr_req, upd_ne, upd_eq, ne_eq, Nat.reduceEqDiff, not_false_eq_true]
                                    refine ⟨by first | assumption | exact vin (by omega) | exact vp_in_I.mpr (by omega), ?_⟩
                                    refine zeq (fun g22 => ?_) (fun g22 => ?_)
                                    · try simp only [zwr_rne, zwr_req, upd_ne, upd_eq, ne_eq, Nat.reduceEqDiff, not_false_eq_true] at g22
                                      try omega
                                      all_goals
                                        try simp only [zwr_rne, zwr_req, upd_ne, upd_eq, ne_eq, Nat.reduceEqDiff, not_false_eq_true]
                                        refine ⟨by first | assumption | exact vin (by omega) | exact vp_in_I.mpr (by omega), ?_⟩
                                        rintro _ rfl
                                        try simp only [zwr_rne, zwr_req, upd_ne, upd_eq, ne_eq, Nat.reduceEqDiff, not_false_eq_true]
                                        exfalso; omega
                                        try simp only [zwr_rne, zwr_req, upd_ne, upd_eq, ne_eq, Nat.reduceEqDiff, not_false_eq_true]
                                        exact ⟨by first | rfl | trivial, hh⟩
                                    · try simp only [zwr_rne, zwr_req, upd_ne, upd_eq, ne_eq, Nat.reduceEqDiff, not_false_eq_true] at g22
                                      try omega
                                      all_goals
                                        try simp only [zwr_rne, zwr_req, upd_ne, upd_eq, ne_eq, Nat.reduceEqDiff, not_false_eq_true]
                                        refine ⟨by first | assumption | exact vin (by omega) | exact vp_in_I.mpr (by omega), ?_⟩
                                        rintro _ rfl
                                        try simp only [zwr_rne, zwr_req, upd_ne, upd_eq, ne_eq, Nat.reduceEqDiff, not_false_eq_true]
                                        exfalso; omega
                                        try simp only [zwr_rne, zwr_req, upd_ne, upd_eq, ne_eq, Nat.reduceEqDiff, not_false_eq_true]
                                        exact ⟨by first | rfl | trivial, hh⟩
                                · try simp only [zwr_rne, zwr_req, upd_ne, upd_eq, ne_eq, Nat.reduceEqDiff, not_false_eq_true] at g21
                                  try omega
                                  all_goals
                                    try simp only [zwr_rne, zwr_req, upd_ne, upd_eq, ne_eq, Nat.reduceEqDiff, not_false_eq_true]
                                    refine ⟨by first | assumption | exact vin (by omega) | exact vp_in_I.mpr (by omega), ?_⟩
                                    refine zeq (fun g23 => ?_) (fun g23 => ?_)
                                    · try simp only [zwr_rne, zwr_req, upd_ne, upd_eq, ne_eq, Nat.reduceEqDiff, not_false_eq_true] at g23
                                      try omega
                                      all_goals
                                        try simp only [zwr_rne, zwr_req, upd_ne, upd_eq, ne_eq, Nat.reduceEqDiff, not_false_eq_true]
                                        refine ⟨by first | assumption | exact vin (by omega) | exact vp_in_I.mpr (by omega), ?_⟩
                                        refine ⟨by first | assumption | exact vin (by omega) | exact vp_in_I.mpr (by omega), ?_⟩
                                        refine zeq (fun g24 => ?_) (fun g24 => ?_)
                                        · try simp only [zwr_rne, zwr_req, upd_ne, upd_eq, ne_eq, Nat.reduceEqDiff, not_false_eq_true] at g24
                                          try omega
                                          all_goals
                                            try simp only [zwr_rne, zwr_req, upd_ne, upd_eq, ne_eq, Nat.reduceEqDiff, not_false_eq_true]
                                            refine ⟨by first | assumption | exact vin (by omega) | exact vp_in_I.mpr (by omega), ?_⟩
                                            refine zeq (fun g25 => ?_) (fun g25 => ?_)
                                            · try simp only [zwr_rne, zwr_req, upd_ne, upd_eq, ne_eq, Nat.reduceEqDiff, not_false_eq_true] at g25
                                              try omega
                                              all_goals
                                                try simp only [zwr_rne, zwr_req, upd_ne, upd_eq, ne_eq, Nat.reduceEqDiff, not_false_eq_true]
                                                refine ⟨by first | assumption | exact vin (by omega) | exact vp_in_I.mpr (by omega), ?_⟩
                                                rintro _ rfl
                                                try simp only [zwr_rne, zwr_req, upd_ne, upd_eq, ne_eq, Nat.reduceEqDiff, not_false_eq_true]
                                                exfalso; omega
                                                try simp only [zwr_rne, zwr_req, upd_ne, upd_eq, ne_eq, Nat.reduceEqDiff, not_false_eq_true]
                                                exact ⟨by first | rfl | trivial, hh⟩
                                            · try simp only [zwr_rne, zwr_req, upd_ne, upd_eq, ne_eq, Nat.reduceEqDiff, not_false_eq_true] at g25
                                              try omega
                                              all_goals
                                                try simp only [zwr_rne, zwr_req, upd_ne, upd_eq, ne_eq, Nat.reduceEqDiff, not_false_eq_true]
                                                refine ⟨by first | assumption | exact vin (by omega) | exact vp_in_I.mpr (by omega), ?_⟩
                                                rintro _ rfl
                                                try simp only [zwr_rne, zwr_req, upd_ne, upd_eq, ne_eq, Nat.reduceEqDiff, not_false_eq_true]
                                                exfalso; omega
                                                try simp only [zwr_rne, zwr_req, upd_ne, upd_eq, ne_eq, Nat.reduceEqDiff, not_false_eq_true]
                                                exact ⟨by first | rfl | trivial, hh⟩
                                        · try simp only [zwr_rne, zwr_req, upd_ne, upd_eq, ne_eq, Nat.reduceEqDiff, not_false_eq_true] at g24
                                          try omega
                                          all_goals
                                            try simp only [zwr_rne, zwr_req, upd_ne, upd_eq, ne_eq, Nat.reduceEqDiff, not_false_eq_true]
                                            exact ⟨by first | rfl | trivial, hh⟩
                                    · try simp only [zwr_rne, zwr_req, upd_ne, upd_eq, ne_eq, Nat.reduceEqDiff, not_false_eq_true] at g23
                                      try omega
                                      all_goals
                                        try simp only [zwr_rne, zwr_req, upd_ne, upd_eq, ne_eq, Nat.reduceEqDiff, not_false_eq_true]
                                        exact ⟨by first | rfl | trivial, hh⟩
                            · try simp only [zwr_rne, zwr_req, upd_ne, upd_eq, ne_eq, Nat.reduceEqDiff, not_false_eq_true] at g20
                              try omega
                              all_goals
                                try simp only [zwr_rne, zwr_req, upd_ne, upd_eq, ne_eq, Nat.reduceEqDiff, not_false_eq_true]
                                refine m_isClaim (by first | omega | (simp only [zwr_rne, zwr_req, upd_ne, upd_eq, ne_eq, Nat.reduceEqDiff, not_false_eq_true]; omega)) (fun g26 g26' => ?_) (fun g26 => ?_)
                                · try simp only [zwr_rne, zwr_req, upd_ne, upd_eq, ne_eq, Nat.reduceEqDiff, not_false_eq_true] at g26
                                  try simp only [zwr_rne, zwr_req, upd_ne, upd_eq, ne_eq, Nat.reduceEqDiff, not_false_eq_true] at g26'
                                  try omega
                                  all_goals
                                    try simp only [one_ne, zero_eq, if_false, if_true, or_true, true_or, or_false, false_or]
                                    try simp only [zwr_rne, zwr_req, upd_ne, upd_eq, ne_eq, Nat.reduceEqDiff, not_false_eq_true]
                                    refine zeq (fun g27 => ?_) (fun g27 => ?_)
                                    · try simp only [zwr_rne, zwr_req, upd_ne, upd_eq, ne_eq, Nat.reduceEqDiff, not_false_eq_true] at g27
                                      try omega
                                      all_goals
                                        try simp only [zwr_rne, zwr_req, upd_ne, upd_eq, ne_eq, Nat.reduceEqDiff, not_false_eq_true]
                                        refine ⟨by first | assumption | exact vin (by omega) | exact vp_in_I.mpr (by omega), ?_⟩
                                        refine zeq (fun g28 => ?_) (fun g28 => ?_)
                                        · try simp only [zwr_rne, zwr_req, upd_ne, upd_eq, ne_eq, Nat.reduceEqDiff, not_false_eq_true] at g28
                                          try omega
                                          all_goals
                                            try simp only [zwr_rne, zwr_req, upd_ne, upd_eq, ne_eq, Nat.reduceEqDiff, not_false_eq_true]
                                            refine ⟨by first | assumption | exact vin (by omega) | exact vp_in_I.mpr (by omega), ?_⟩
                                            rintro _ rfl
                                            try simp only [zwr_rne, zwr_req, upd_ne, upd_eq, ne_eq, Nat.reduceEqDiff, not_false_eq_true]
                                            exfalso; omega
                                            try simp only [zwr_rne, zwr_req, upd_ne, upd_eq, ne_eq, Nat.reduceEqDiff, not_false_eq_true]
                                            exact ⟨by first | rfl | trivial, hh⟩
                                        · try simp only [zwr_rne, zwr_req, upd_ne, upd_eq, ne_eq, Nat.reduceEqDiff, not_false_eq_true] at g28
                                          try omega
                                          all_goals
                                            try simp only [zwr_rne, zwr_req, upd_ne, upd_eq, ne_eq, Nat.reduceEqDiff, not_false_eq_true]
                                            refine ⟨by first | assumption | exact vin (by omega) | exact vp_in_I.mpr (by omega), ?_⟩
                                            rintro _ rfl
                                            try simp only [zwr_rne, zwr_req, upd_ne, upd_eq, ne_eq, Nat.reduceEqDiff, not_false_eq_true]
                                            exfalso; omega
                                            try simp only [zwr_rne, zwr_req, upd_ne, upd_eq, ne_eq, Nat.reduceEqDiff, not_false_eq_true]
                                            exact ⟨by first | rfl | trivial, hh⟩
                                    · try simp only [zwr_rne, zwr_req, upd_ne, upd_eq, ne_eq, Nat.reduceEqDiff, not_false_eq_true] at g27
                                      try omega
                                      all_goals
                                        try simp only [zwr_rne, zwr_req, upd_ne, upd_eq, ne_eq, Nat.reduceEqDiff, not_false_eq_true]
                                        refine ⟨by first | assumption | exact vin (by omega) | exact vp_in_I.mpr (by omega), ?_⟩
                                        refine zeq (fun g29 => ?_) (fun g29 => ?_)
                                        · try simp only [zwr_rne, zwr_req, upd_ne, upd_eq, ne_eq, Nat.reduceEqDiff, not_false_eq_true] at g29
                                          try omega
                                          all_goals
                                            try simp only [zwr_rne, zwr_req, upd_ne, upd_eq, ne_eq, Nat.reduceEqDiff, not_false_eq_true]
                                            refine ⟨by first | assumption | exact vin (by omega) | exact vp_in_I.mpr (by omega), ?_⟩
                                            refine ⟨by first | assumption | exact vin (by omega) | exact vp_in_I.mpr (by omega), ?_⟩
                                            refine zeq (fun g30 => ?_) (fun g30 => ?_)
                                            · try simp only [zwr_rne, zwr_req, upd_ne, upd_eq, ne_eq, Nat.reduceEqDiff, not_false_eq_true] at g30
                                              try omega
                                              all_goals
                                                try simp only [zwr_rne, zwr_req, upd_ne, upd_eq, ne_eq, Nat.reduceEqDiff, not_false_eq_true]
                                                refine ⟨by first | assumption | exact vin (by omega) | exact vp_in_I.mpr (by omega), ?_⟩
                                                refine zeq (fun g31 => ?_) (fun g31 => ?_)
                                                · try simp only [zwr_rne, zwr_req, upd_ne, upd_eq, ne_eq, Nat.reduceEqDiff, not_false_eq_true] at g31
                                                  try omega
                                                  all_goals
                                                    try simp only [zwr_rne, zwr_req, upd_ne, upd_eq, ne_eq, Nat.reduceEqDiff, not_false_eq_true]
                                                    refine ⟨by first | assumption | exact vin (by omega) | exact vp_in_I.mpr (by omega), ?_⟩
                                                    rintro _ rfl
                                                    try simp only [zwr_rne, zwr_req, upd_ne, upd_eq, ne_eq, Nat.reduceEqDiff, not_false_eq_true]
                                                    exfalso; omega
                                                    try simp only [zwr_rne, zwr_req, upd_ne, upd_eq, ne_eq, Nat.reduceEqDiff, not_false_eq_true]
                                                    exact ⟨by first | rfl | trivial, hh⟩
                                                · try simp only [zwr_rne, zwr_req, upd_ne, upd_eq, ne_eq, Nat.reduceEqDiff, not_false_eq_true] at g31
                                                  try omega
                                                  all_goals
                                                    try simp only [zwr_rne, zwr_req, upd_ne, upd_eq, ne_eq, Nat.reduceEqDiff, not_false_eq_true]
                                                    refine ⟨by first | assumption | exact vin (by omega) | exact vp_in_I.mpr (by omega), ?_⟩
                                                    rintro _ rfl
                                                    try simp only [zwr_rne, zwr_req, upd_ne, upd_eq, ne_eq, Nat.reduceEqDiff, not_false_eq_true]
                                                    exfalso; omega
                                                    try simp only [zwr_rne, zwr_req, upd_ne, upd_eq, ne_eq, Nat.reduceEqDiff, not_false_eq_true]
                                                    exact ⟨by first | rfl | trivial, hh⟩
                                            · try simp only [zwr_rne, zwr_req, upd_ne, upd_eq, ne_eq, Nat.reduceEqDiff, not_false_eq_true] at g30
                                              try omega
                                              all_goals
                                                try simp only [zwr_rne, zwr_req, upd_ne, upd_eq, ne_eq, Nat.reduceEqDiff, not_false_eq_true]
                                                exact ⟨by first | rfl | trivial, hh⟩
                                        · try simp only [zwr_rne, zwr_req, upd_ne, upd_eq, ne_eq, Nat.reduceEqDiff, not_false_eq_true] at g29
                                          try omega
                                          all_goals
                                            try simp only [zwr_rne, zwr_req, upd_ne, upd_eq, ne_eq, Nat.reduceEqDiff, not_false_eq_true]
                                            exact ⟨by first | rfl | trivial, hh⟩
                                · try simp only [zwr_rne, zwr_req, upd_ne, upd_eq, ne_eq, Nat.reduceEqDiff, not_false_eq_true] at g26
                                  try omega
                                  all_goals
                                    try simp only [one_ne, zero_eq, if_false, if_true, or_true, true_or, or_false, false_or]
                                    try simp only [zwr_rne, zwr_req, upd_ne, upd_eq, ne_eq, Nat.reduceEqDiff, not_false_eq_true]
                                    exact ⟨by first | rfl | trivial, hh⟩
                        · try simp only [zwr_rne, zwr_req, upd_ne, upd_eq, ne_eq, Nat.reduceEqDiff, not_false_eq_true] at g19
                          try omega
                          all_goals
                            try simp only [one_ne, zero_eq, if_false, if_true, or_true, true_or, or_false, false_or]
                            try simp only [zwr_rne, zwr_req, upd_ne, upd_eq, ne_eq, Nat.reduceEqDiff, not_false_eq_true]
                            exact ⟨by first | rfl | trivial, hh⟩
                    · try simp only [zwr_rne, zwr_req, upd_ne, upd_eq, ne_eq, Nat.reduceEqDiff, not_false_eq_true] at g18
                      try omega
                      all_goals
                        refine en_X12_charge ?_
                        try simp only [zwr_rne, zwr_req, upd_ne, upd_eq, ne_eq, Nat.reduceEqDiff, not_false_eq_true]
                        refine m_isAsset (by first | omega | (simp only [zwr_rne, zwr_req, upd_ne, upd_eq, ne_eq, Nat.reduceEqDiff, not_false_eq_true]; omega)) (fun g32 g32' => ?_) (fun g32 => ?_)
                        · try simp only [zwr_rne, zwr_req, upd_ne, upd_eq, ne_eq, Nat.reduceEqDiff, not_false_eq_true] at g32
                          try simp only [zwr_rne, zwr_req, upd_ne, upd_eq, ne_eq, Nat.reduceEqDiff, not_false_eq_true] at g32'
                          try omega
                          all_goals
                            try simp only [one_ne, zero_eq, if_false, if_true, or_true, true_or, or_false, false_or]
                            try simp only [zwr_rne, zwr_req, upd_ne, upd_eq, ne_eq, Nat.reduceEqDiff, not_false_eq_true]
                            refine zeq (fun g33 => ?_) (fun g33 => ?_)
                            · try simp only [zwr_rne, zwr_req, upd_ne, upd_eq, ne_eq, Nat.reduceEqDiff, not_false_eq_true] at g33
                              try omega
                              all_goals
                                try simp only [zwr_rne, zwr_req, upd_ne, upd_eq, ne_eq, Nat.reduceEqDiff, not_false_eq_true]
                                refine zeq (fun g34 => ?_) (fun g34 => ?_)
                                · try simp only [zwr_rne, zwr_req, upd_ne, upd_eq, ne_eq, Nat.reduceEqDiff, not_false_eq_true] at g34
                                  try omega
                                  all_goals
                                    try simp only [zwr_rne, zwr_req, upd_ne, upd_eq, ne_eq, Nat.reduceEqDiff, not_false_eq_true]
                                    refine ⟨by first | assumption | exact vin (by omega) | exact vp_in_I.mpr (by omega), ?_⟩
                                    refine zeq (fun g35 => ?_) (fun g35 => ?_)
                                    · try simp only [zwr_rne, zwr_req, upd_ne, upd_eq, ne_eq, Nat.reduceEqDiff, not_false_eq_true] at g35
                                      try omega
                                      all_goals
                                        try simp only [zwr_rne, zwr_req, upd_ne, upd_eq, ne_eq, Nat.reduceEqDiff, not_false_eq_true]
                                        refine ⟨by first | assumption | exact vin (by omega) | exact vp_in_I.mpr (by omega), ?_⟩
                                        rintro _ rfl
                                        try simp only [zwr_rne, zwr_req, upd_ne, upd_eq, ne_eq, Nat.reduceEqDiff, not_false_eq_true]
                                        exfalso; omega
                                        try simp only [zwr_rne, zwr_req, upd_ne, upd_eq, ne_eq, Nat.reduceEqDiff, not_false_eq_true]
                                        exact ⟨by first | rfl | trivial, hh⟩
                                    · try simp only [zwr_rne, zwr_req, upd_ne, upd_eq, ne_eq, Nat.reduceEqDiff, not_false_eq_true] at g35
                                      try omega
                                      all_goals
                                        try simp only [zwr_rne, zwr_req, upd_ne, upd_eq, ne_eq, Nat.reduceEqDiff, not_false_eq_true]
                                        refine ⟨by first | assumption | exact vin (by omega) | exact vp_in_I.mpr (by omega), ?_⟩
                                        rintro _ rfl
                                        try simp only [zwr_rne, zwr_req, upd_ne, upd_eq, ne_eq, Nat.reduceEqDiff, not_false_eq_true]
                                        exfalso; omega
                                        try simp only [zwr_rne, zwr_req, upd_ne, upd_eq, ne_eq, Nat.reduceEqDiff, not_false_eq_true]
                                        exact ⟨by first | rfl | trivial, hh⟩
                                · try simp only [zwr_rne, zwr_req, upd_ne, upd_eq, ne_eq, Nat.reduceEqDiff, not_false_eq_true] at g34
                                  try omega
                                  all_goals
                                    try simp only [zwr_rne, zwr_req, upd_ne, upd_eq, ne_eq, Nat.reduceEqDiff, not_false_eq_true]
                                    refine ⟨by first | assumption | exact vin (by omega) | exact vp_in_I.mpr (by omega), ?_⟩
                                    refine zeq (fun g36 => ?_) (fun g36 => ?_)
                                    · try simp only [zwr_rne, zwr_req, upd_ne, upd_eq, ne_eq, Nat.reduceEqDiff, not_false_eq_true] at g36
                                      try omega
                                      all_goals
                                        try simp only [zwr_rne, zwr_req, upd_ne, upd_eq, ne_eq, Nat.reduceEqDiff, not_false_eq_true]
                                        refine ⟨by first | assumption | exact vin (by omega) | exact vp_in_I.mpr (by omega), ?_⟩
                                        refine ⟨by first | assumption | exact vin (by omega) | exact vp_in_I.mpr (by omega), ?_⟩
                                        refine zeq (fun g37 => ?_) (fun g37 => ?_)
                                        · try simp only [zwr_rne, zwr_req, upd_ne, upd_eq, ne_eq, Nat.reduceEqDiff, not_false_eq_true] at g37
                                          try omega
                                          all_goals
                                            try simp only [zwr_rne, zwr_req, upd_ne, upd_eq, ne_eq, Nat.reduceEqDiff, not_false_eq_true]
                                            refine ⟨by first | assumption | exact vin (by omega) | exact vp_in_I.mpr (by omega), ?_⟩
                                            refine zeq (fun g38 => ?_) (fun g38 => ?_)
                                            · try simp only [zwr_rne, zwr_req, upd_ne, upd_eq, ne_eq, Nat.reduceEqDiff, not_false_eq_true] at g38
                                              try omega
                                              all_goals
                                                try simp only [zwr_rne, zwr_req, upd_ne, upd_eq, ne_eq, Nat.reduceEqDiff, not_false_eq_true]
                                                refine ⟨by first | assumption | exact vin (by omega) | exact vp_in_I.mpr (by omega), ?_⟩
                                                rintro _ rfl
                                                try simp only [zwr_rne, zwr_req, upd_ne, upd_eq, ne_eq, Nat.reduceEqDiff, not_false_eq_true]
                                                exfalso; omega
                                                try simp only [zwr_rne, zwr_req, upd_ne, upd_eq, ne_eq, Nat.reduceEqDiff, not_false_eq_true]
                                                exact ⟨by first | rfl | trivial, hh⟩
                                            · try simp only [zwr_rne, zwr_req, upd_ne, upd_eq, ne_eq, Nat.reduceEqDiff, not_false_eq_true] at g38
                                              try omega
                                              all_goals
                                                try simp only [zwr_rne, zwr_req, upd_ne, upd_eq, ne_eq, Nat.reduceEqDiff, not_false_eq_true]
                                                refine ⟨by first | assumption | exact vin (by omega) | exact vp_in_I.mpr (by omega), ?_⟩
                                                rintro _ rfl
                                                try simp only [zwr_rne, zwr_req, upd_ne, upd_eq, ne_eq, Nat.reduceEqDiff, not_false_eq_true]
                                                exfalso; omega
                                                try simp only [zwr_rne, zwr_req, upd_ne, upd_eq, ne_eq, Nat.reduceEqDiff, not_false_eq_true]
                                                exact ⟨by first | rfl | trivial, hh⟩
                                        · try simp only [zwr_rne, zwr_req, upd_ne, upd_eq, ne_eq, Nat.reduceEqDiff, not_false_eq_true] at g37
                                          try omega
                                          all_goals
                                            try simp only [zwr_rne, zwr_req, upd_ne, upd_eq, ne_eq, Nat.reduceEqDiff, not_false_eq_true]
                                            exact ⟨by first | rfl | trivial, hh⟩
                                    · try simp only [zwr_rne, zwr_req, upd_ne, upd_eq, ne_eq, Nat.reduceEqDiff, not_false_eq_true] at g36
                                      try omega
                                      all_goals
                                        try simp only [zwr_rne, zwr_req, upd_ne, upd_eq, ne_eq, Nat.reduceEqDiff, not_false_eq_true]
                                        exact ⟨by first | rfl | trivial, hh⟩
                            · try simp only [zwr_rne, zwr_req, upd_ne, upd_eq, ne_eq, Nat.reduceEqDiff, not_false_eq_true] at g33
                              try omega
                              all_goals
                                try simp only [zwr_rne, zwr_req, upd_ne, upd_eq, ne_eq, Nat.reduceEqDiff, not_false_eq_true]
                                refine m_isClaim (by first | omega | (simp only [zwr_rne, zwr_req, upd_ne, upd_eq, ne_eq, Nat.reduceEqDiff, not_false_eq_true]; omega)) (fun g39 g39' => ?_) (fun g39 => ?_)
                                · try simp only [zwr_rne, zwr_req, upd_ne, upd_eq, ne_eq, Nat.reduceEqDiff, not_false_eq_true] at g39
                                  try simp only [zwr_rne, zwr_req, upd_ne, upd_eq, ne_eq, Nat.reduceEqDiff, not_false_eq_true] at g39'
                                  try omega
                                  all_goals
                                    try simp only [one_ne, zero_eq, if_false, if_true, or_true, true_or, or_false, false_or]
                                    try simp only [zwr_rne, zwr_req, upd_ne, upd_eq, ne_eq, Nat.reduceEqDiff, not_false_eq_true]
                                    refine zeq (fun g40 => ?_) (fun g40 => ?_)
                                    · try simp only [zwr_rne, zwr_req, upd_ne, upd_eq, ne_eq, Nat.reduceEqDiff, not_false_eq_true] at g40
                                      try omega
                                      all_goals
                                        try simp only [zwr_rne, zwr_req, upd_ne, upd_eq, ne_eq, Nat.reduceEqDiff, not_false_eq_true]
                                        refine ⟨by first | assumption | exact vin (by omega) | exact vp_in_I.mpr (by omega), ?_⟩
                                        refine zeq (fun g41 => ?_) (fun g41 => ?_)
                                        · try simp only [zwr_rne, zwr_req, upd_ne, upd_eq, ne_eq, Nat.reduceEqDiff, not_false_eq_true] at g41
                                          try omega
                                          all_goals
                                            try simp only [zwr_rne, zwr_req, upd_ne, upd_eq, ne_eq, Nat.reduceEqDiff, not_false_eq_true]
                                            refine ⟨by first | assumption | exact vin (by omega) | exact vp_in_I.mpr (by omega), ?_⟩
                                            rintro _ rfl
                                            try simp only [zwr_rne, zwr_req, upd_ne, upd_eq, ne_eq, Nat.reduceEqDiff, not_false_eq_true]
                                            exfalso; omega
                                            try simp only [zwr_rne, zwr_req, upd_ne, upd_eq, ne_eq, Nat.reduceEqDiff, not_false_eq_true]
                                            exact ⟨by first | rfl | trivial, hh⟩
                                        · try simp only [zwr_rne, zwr_req, upd_ne, upd_eq, ne_eq, Nat.reduceEqDiff, not_false_eq_true] at g41
                                          try omega
                                          all_goals
                                            try simp only [zwr_rne, zwr_req, upd_ne, upd_eq, ne_eq, Nat.reduceEqDiff, not_false_eq_true]
                                            refine ⟨by first | assumption | exact vin (by omega) | exact vp_in_I.mpr (by omega), ?_⟩
                                            rintro _ rfl
                                            try simp only [zwr_rne, zwr_req, upd_ne, upd_eq, ne_eq, Nat.reduceEqDiff, not_false_eq_true]
                                            exfalso; omega
                                            try simp only [zwr_rne, zwr_req, upd_ne, upd_eq, ne_eq, Nat.reduceEqDiff, not_false_eq_true]
                                            exact ⟨by first | rfl | trivial, hh⟩
                                    · try simp only [zwr_rne, zwr_req, upd_ne, upd_eq, ne_eq, Nat.reduceEqDiff, not_false_eq_true] at g40
                                      try omega
                                      all_goals
                                        try simp only [zwr_rne, zwr_req, upd_ne, upd_eq, ne_eq, Nat.reduceEqDiff, not_false_eq_true]
                                        refine ⟨by first | assumption | exact vin (by omega) | exact vp_in_I.mpr (by omega), ?_⟩
                                        refine zeq (fun g42 => ?_) (fun g42 => ?_)
                                        · try simp only [zwr_rne, zwr_req, upd_ne, upd_eq, ne_eq, Nat.reduceEqDiff, not_false_eq_true] at g42
                                          try omega
                                          all_goals
                                            try simp only [zwr_rne, zwr_req, upd_ne, upd_eq, ne_eq, Nat.reduceEqDiff, not_false_eq_true]
                                            refine ⟨by first | assumption | exact vin (by omega) | exact vp_in_I.mpr (by omega), ?_⟩
                                            refine ⟨by first | assumption | exact vin (by omega) | exact vp_in_I.mpr (by omega), ?_⟩
                                            refine zeq (fun g43 => ?_) (fun g43 => ?_)
                                            · try simp only [zwr_rne, zwr_req, upd_ne, upd_eq, ne_eq, Nat.reduceEqDiff, not_false_eq_true] at g43
                                              try omega
                                              all_goals
                                                try simp only [zwr_rne, zwr_req, upd_ne, upd_eq, ne_eq, Nat.reduceEqDiff, not_false_eq_true]
                                                refine ⟨by first | assumption | exact vin (by omega) | exact vp_in_I.mpr (by omega), ?_⟩
                                                refine zeq (fun g44 => ?_) (fun g44 => ?_)
                                                · try simp only [zwr_rne, zwr_req, upd_ne, upd_eq, ne_eq, Nat.reduceEqDiff, not_false_eq_true] at g44
                                                  try omega
                                                  all_goals
                                                    try simp only [zwr_rne, zwr_req, upd_ne, upd_eq, ne_eq, Nat.reduceEqDiff, not_false_eq_true]
                                                    refine ⟨by first | assumption | exact vin (by omega) | exact vp_in_I.mpr (by omega), ?_⟩
                                                    rintro _ rfl
                                                    try simp only [zwr_rne, zwr_req, upd_ne, upd_eq, ne_eq, Nat.reduceEqDiff, not_false_eq_true]
                                                    exfalso; omega
                                                    try simp only [zwr_rne, zwr_req, upd_ne, upd_eq, ne_eq, Nat.reduceEqDiff, not_false_eq_true]
                                                    exact ⟨by first | rfl | trivial, hh⟩
                                                · try simp only [zwr_rne, zwr_req, upd_ne, upd_eq, ne_eq, Nat.reduceEqDiff, not_false_eq_true] at g44
                                                  try omega
                                                  all_goals
                                                    try simp only [zwr_rne, zwr_req, upd_ne, upd_eq, ne_eq, Nat.reduceEqDiff, not_false_eq_true]
                                                    refine ⟨by first | assumption | exact vin (by omega) | exact vp_in_I.mpr (by omega), ?_⟩
                                                    rintro _ rfl
                                                    try simp only [zwr_rne, zwr_req, upd_ne, upd_eq, ne_eq, Nat.reduceEqDiff, not_false_eq_true]
                                                    exfalso; omega
                                                    try simp only [zwr_rne, zwr_req, upd_ne, upd_eq, ne_eq, Nat.reduceEqDiff, not_false_eq_true]
                                                    exact ⟨by first | rfl | trivial, hh⟩
                                            · try simp only [zwr_rne, zwr_req, upd_ne, upd_eq, ne_eq, Nat.reduceEqDiff, not_false_eq_true] at g43
                                              try omega
                                              all_goals
                                                try simp only [zwr_rne, zwr_req, upd_ne, upd_eq, ne_eq, Nat.reduceEqDiff, not_false_eq_true]
                                                exact ⟨by first | rfl | trivial, hh⟩
                                        · try simp only [zwr_rne, zwr_req, upd_ne, upd_eq, ne_eq, Nat.reduceEqDiff, not_false_eq_true] at g42
                                          try omega
                                          all_goals
                                            try simp only [zwr_rne, zwr_req, upd_ne, upd_eq, ne_eq, Nat.reduceEqDiff, not_false_eq_true]
                                            exact ⟨by first | rfl | trivial, hh⟩
                                · try simp only [zwr_rne, zwr_req, upd_ne, upd_eq, ne_eq, Nat.reduceEqDiff, not_false_eq_true] at g39
                                  try omega
                                  all_goals
                                    try simp only [one_ne, zero_eq, if_false, if_true, or_true, true_or, or_false, false_or]
                                    try simp only [zwr_rne, zwr_req, upd_ne, upd_eq, ne_eq, Nat.reduceEqDiff, not_false_eq_true]
                                    exact ⟨by first | rfl | trivial, hh⟩
                        · try simp only [zwr_rne, zwr_req, upd_ne, upd_eq, ne_eq, Nat.reduceEqDiff, not_false_eq_true] at g32
                          try omega
                          all_goals
                            try simp only [one_ne, zero_eq, if_false, if_true, or_true, true_or, or_false, false_or]
                            try simp only [zwr_rne, zwr_req, upd_ne, upd_eq, ne_eq, Nat.reduceEqDiff, not_false_eq_true]
                            exact ⟨by first | rfl | trivial, hh⟩
                · try simp only [zwr_rne, zwr_req, upd_ne, upd_eq, ne_eq, Nat.reduceEqDiff, not_false_eq_true] at g17
                  try omega
                  all_goals
                    refine en_X12_charge ?_
                    try simp only [zwr_rne, zwr_req, upd_ne, upd_eq, ne_eq, Nat.reduceEqDiff, not_false_eq_true]
                    refine m_isAsset (by first | omega | (simp only [zwr_rne, zwr_req, upd_ne, upd_eq, ne_eq, Nat.reduceEqDiff, not_false_eq_true]; omega)) (fun g45 g45' => ?_) (fun g45 => ?_)
                    · try simp only [zwr_rne, zwr_req, upd_ne, upd_eq, ne_eq, Nat.reduceEqDiff, not_false_eq_true] at g45
                      try simp only [zwr_rne, zwr_req, upd_ne, upd_eq, ne_eq, Nat.reduceEqDiff, not_false_eq_true] at g45'
                      try omega
                      all_goals
                        try simp only [one_ne, zero_eq, if_false, if_true, or_true, true_or, or_false, false_or]
                        try simp only [zwr_rne, zwr_req, upd_ne, upd_eq, ne_eq, Nat.reduceEqDiff, not_false_eq_true]
                        refine zeq (fun g46 => ?_) (fun g46 => ?_)
                        · try simp only [zwr_rne, zwr_req, upd_ne, upd_eq, ne_eq, Nat.reduceEqDiff, not_false_eq_true] at g46
                          try omega
                          all_goals
                            try simp only [zwr_rne, zwr_req, upd_ne, upd_eq, ne_eq, Nat.reduceEqDiff, not_false_eq_true]
                            refine zeq (fun g47 => ?_) (fun g47 => ?_)
                            · try simp only [zwr_rne, zwr_req, upd_ne, upd_eq, ne_eq, Nat.reduceEqDiff, not_false_eq_true] at g47
                              try omega
                              all_goals
                                try simp only [zwr_rne, zwr_req, upd_ne, upd_eq, ne_eq, Nat.reduceEqDiff, not_false_eq_true]
                                refine ⟨by first | assumption | exact vin (by omega) | exact vp_in_I.mpr (by omega), ?_⟩
                                refine zeq (fun g48 => ?_) (fun g48 => ?_)
                                · try simp only [zwr_rne, zwr_req, upd_ne, upd_eq, ne_eq, Nat.reduceEqDiff, not_false_eq_true] at g48
                                  try omega
                                  all_goals
                                    try simp only [zwr_rne, zwr_req, upd_ne, upd_eq, ne_eq, Nat.reduceEqDiff, not_false_eq_true]
                                    refine ⟨by first | assumption | exact vin (by omega) | exact vp_in_I.mpr (by omega), ?_⟩
                                    rintro _ rfl
                                    try simp only [zwr_rne, zwr_req, upd_ne, upd_eq, ne_eq, Nat.reduceEqDiff, not_false_eq_true]
                                    exfalso; omega
                                    try simp only [zwr_rne, zwr_req, upd_ne, upd_eq, ne_eq, Nat.reduceEqDiff, not_false_eq_true]
                                    exact ⟨by first | rfl | trivial, hh⟩
                                · try simp only [zwr_rne, zwr_req, upd_ne, upd_eq, ne_eq, Nat.reduceEqDiff, not_false_eq_true] at g48
                                  try omega
                                  all_goals
                                    try simp only [zwr_rne, zwr_req, upd_ne, upd_eq, ne_eq, Nat.reduceEqDiff, not_false_eq_true]
                                    refine ⟨by first | assumption | exact vin (by omega) | exact vp_in_I.mpr (by omega), ?_⟩
                                    rintro _ rfl
                                    try simp only [zwr_rne, zwr_req, upd_ne, upd_eq, ne_eq, Nat.reduceEqDiff, not_false_eq_true]
                                    exfalso; omega
                                    try simp only [zwr_rne, zwr_req, upd_ne, upd_eq, ne_eq, Nat.reduceEqDiff, not_false_eq_true]
                                    exact ⟨by first | rfl | trivial, hh⟩
                            · try simp only [zwr_rne, zwr_req, upd_ne, upd_eq, ne_eq, Nat.reduceEqDiff, not_false_eq_true] at g47
                              try omega
                              all_goals
                                try simp only [zwr_rne, zwr_req, upd_ne, upd_eq, ne_eq, Nat.reduceEqDiff, not_false_eq_true]
                                refine ⟨by first | assumption | exact vin (by omega) | exact vp_in_I.mpr (by omega), ?_⟩
                                refine zeq (fun g49 => ?_) (fun g49 => ?_)
                                · try simp only [zwr_rne, zwr_req, upd_ne, upd_eq, ne_eq, Nat.reduceEqDiff, not_false_eq_true] at g49
                                  try omega
                                  all_goals
                                    try simp only [zwr_rne, zwr_req, upd_ne, upd_eq, ne_eq, Nat.reduceEqDiff, not_false_eq_true]
                                    refine ⟨by first | assumption | exact vin (by omega) | exact vp_in_I.mpr (by omega), ?_⟩
                                    refine ⟨by first | assumption | exact vin (by omega) | exact vp_in_I.mpr (by omega), ?_⟩
                                    refine zeq (fun g50 => ?_) (fun g50 => ?_)
                                    · try simp only [zwr_rne, zwr_req, upd_ne, upd_eq, ne_eq, Nat.reduceEqDiff, not_false_eq_true] at g50
                                      try omega
                                      all_goals
                                        try simp only [zwr_rne, zwr_req, upd_ne, upd_eq, ne_eq, Nat.reduceEqDiff, not_false_eq_true]
                                        refine ⟨by first | assumption | exact vin (by omega) | exact vp_in_I.mpr (by omega), ?_⟩
                                        refine zeq (fun g51 => ?_) (fun g51 => ?_)
                                        · try simp only [zwr_rne, zwr_req, upd_ne, upd_eq, ne_eq, Nat.reduceEqDiff, not_false_eq_true] at g51
                                          try omega
                                          all_goals
                                            try simp only [zwr_rne, zwr_req, upd_ne, upd_eq, ne_eq, Nat.reduceEqDiff, not_false_eq_true]
                                            refine ⟨by first | assumption | exact vin (by omega) | exact vp_in_I.mpr (by omega), ?_⟩
                                            rintro _ rfl
                                            try simp only [zwr_rne, zwr_req, upd_ne, upd_eq, ne_eq, Nat.reduceEqDiff, not_false_eq_true]
                                            exfalso; omega
                                            try simp only [zwr_rne, zwr_req, upd_ne, upd_eq, ne_eq, Nat.reduceEqDiff, not_false_eq_true]
                                            exact ⟨by first | rfl | trivial, hh⟩
                                        · try simp only [zwr_rne, zwr_req, upd_ne, upd_eq, ne_eq, Nat.reduceEqDiff, not_false_eq_true] at g51
                                          try omega
                                          all_goals
                                            try simp only [zwr_rne, zwr_req, upd_ne, upd_eq, ne_eq, Nat.reduceEqDiff, not_false_eq_true]
                                            refine ⟨by first | assumption | exact vin (by omega) | exact vp_in_I.mpr (by omega), ?_⟩
                                            rintro _ rfl
                                            try simp only [zwr_rne, zwr_req, upd_ne, upd_eq, ne_eq, Nat.reduceEqDiff, not_false_eq_true]
                                            exfalso; omega
                                            try simp only [zwr_rne, zwr_req, upd_ne, upd_eq, ne_eq, Nat.reduceEqDiff, not_false_eq_true]
                                            exact ⟨by first | rfl | trivial, hh⟩
                                    · try simp only [zwr_rne, zwr_req, upd_ne, upd_eq, ne_eq, Nat.reduceEqDiff, not_false_eq_true] at g50
                                      try omega
                                      all_goals
                                        try simp only [zwr_rne, zwr_req, upd_ne, upd_eq, ne_eq, Nat.reduceEqDiff, not_false_eq_true]
                                        exact ⟨by first | rfl | trivial, hh⟩
                                · try simp only [zwr_rne, zwr_req, upd_ne, upd_eq, ne_eq, Nat.reduceEqDiff, not_false_eq_true] at g49
                                  try omega
                                  all_goals
                                    try simp only [zwr_rne, zwr_req, upd_ne, upd_eq, ne_eq, Nat.reduceEqDiff, not_false_eq_true]
                                    exact ⟨by first | rfl | trivial, hh⟩
                        · try simp only [zwr_rne, zwr_req, upd_ne, upd_eq, ne_eq, Nat.reduceEqDiff, not_false_eq_true] at g46
                          try omega
                          all_goals
                            try simp only [zwr_rne, zwr_req, upd_ne, upd_eq, ne_eq, Nat.reduceEqDiff, not_false_eq_true]
                            refine m_isClaim (by first | omega | (simp only [zwr_rne, zwr_req, upd_ne, upd_eq, ne_eq, Nat.reduceEqDiff, not_false_eq_true]; omega)) (fun g52 g52' => ?_) (fun g52 => ?_)
                            · try simp only [zwr_rne, zwr_req, upd_ne, upd_eq, ne_eq, Nat.reduceEqDiff, not_false_eq_true] at g52
                              try simp only [zwr_rne, zwr_req, upd_ne, upd_eq, ne_eq, Nat.reduceEqDiff, not_false_eq_true] at g52'
                              try omega
                              all_goals
                                try simp only [one_ne, zero_eq, if_false, if_true, or_true, true_or, or_false, false_or]
                                try simp only [zwr_rne, zwr_req, upd_ne, upd_eq, ne_eq, Nat.reduceEqDiff, not_false_eq_true]
                                refine zeq (fun g53 => ?_) (fun g53 => ?_)
                                · try simp only [zwr_rne, zwr_req, upd_ne, upd_eq, ne_eq, Nat.reduceEqDiff, not_false_eq_true] at g53
                                  try omega
                                  all_goals
                                    try simp only [zwr_rne, zwr_req, upd_ne, upd_eq, ne_eq, Nat.reduceEqDiff, not_false_eq_true]
                                    refine ⟨by first | assumption | exact vin (by omega) | exact vp_in_I.mpr (by omega), ?_⟩
                                    refine zeq (fun g54 => ?_) (fun g54 => ?_)
                                    · try simp only [zwr_rne, zwr_req, upd_ne, upd_eq, ne_eq, Nat.reduceEqDiff, not_false_eq_true] at g54
                                      try omega
                                      all_goals
                                        try simp only [zwr_rne, zwr_req, upd_ne, upd_eq, ne_eq, Nat.reduceEqDiff, not_false_eq_true]
                                        refine ⟨by first | assumption | exact vin (by omega) | exact vp_in_I.mpr (by omega), ?_⟩
                                        rintro _ rfl
                                        try simp only [zwr_rne, zwr_req, upd_ne, upd_eq, ne_eq, Nat.reduceEqDiff, not_false_eq_true]
                                        exfalso; omega
                                        try simp only [zwr_rne, zwr_req, upd_ne, upd_eq, ne_eq, Nat.reduceEqDiff, not_false_eq_true]
                                        exact ⟨by first | rfl | trivial, hh⟩
                                    · try simp only [zwr_rne, zwr_req, upd_ne, upd_eq, ne_eq, Nat.reduceEqDiff, not_false_eq_true] at g54
                                      try omega
                                      all_goals
                                        try simp only [zwr_rne, zwr_req, upd_ne, upd_eq, ne_eq, Nat.reduceEqDiff, not_false_eq_true]
                                        refine ⟨by first | assumption | exact vin (by omega) | exact vp_in_I.mpr (by omega), ?_⟩
                                        rintro _ rfl
                                        try simp only [zwr_rne, zwr_req, upd_ne, upd_eq, ne_eq, Nat.reduceEqDiff, not_false_eq_true]
                                        exfalso; omega
                                        try simp only [zwr_rne, zwr_req, upd_ne, upd_eq, ne_eq, Nat.reduceEqDiff, not_false_eq_true]
                                        exact ⟨by first | rfl | trivial, hh⟩
                                · try simp only [zwr_rne, zwr_req, upd_ne, upd_eq, ne_eq, Nat.reduceEqDiff, not_false_eq_true] at g53
                                  try omega
                                  all_goals
                                    try simp only [zwr_rne, zwr_req, upd_ne, upd_eq, ne_eq, Nat.reduceEqDiff, not_false_eq_true]
                                    refine ⟨by first | assumption | exact vin (by omega) | exact vp_in_I.mpr (by omega), ?_⟩
                                    refine zeq (fun g55 => ?_) (fun g55 => ?_)
                                    · try simp only [zwr_rne, zwr_req, upd_ne, upd_eq, ne_eq, Nat.reduceEqDiff, not_false_eq_true] at g55
                                      try omega
                                      all_goals
                                        try simp only [zwr_rne, zwr_req, upd_ne, upd_eq, ne_eq, Nat.reduceEqDiff, not_false_eq_true]
                                        refine ⟨by first | assumption | exact vin (by omega) | exact vp_in_I.mpr (by omega), ?_⟩
                                        refine ⟨by first | assumption | exact vin (by omega) | exact vp_in_I.mpr (by omega), ?_⟩
                                        refine zeq (fun g56 => ?_) (fun g56 => ?_)
                                        · try simp only [zwr_rne, zwr_req, upd_ne, upd_eq, ne_eq, Nat.reduceEqDiff, not_false_eq_true] at g56
                                          try omega
                                          all_goals
                                            try simp only [zwr_rne, zwr_req, upd_ne, upd_eq, ne_eq, Nat.reduceEqDiff, not_false_eq_true]
                                            refine ⟨by first | assumption | exact vin (by omega) | exact vp_in_I.mpr (by omega), ?_⟩
                                            refine zeq (fun g57 => ?_) (fun g57 => ?_)
                                            · try simp only [zwr_rne, zwr_req, upd_ne, upd_eq, ne_eq, Nat.reduceEqDiff, not_false_eq_true] at g57
                                              try omega
                                              all_goals
                                                try simp only [zwr_rne, zwr_req, upd_ne, upd_eq, ne_eq, Nat.reduceEqDiff, not_false_eq_true]
                                                refine ⟨by first | assumption | exact vin (by omega) | exact vp_in_I.mpr (by omega), ?_⟩
                                                rintro _ rfl
                                                try simp only [zwr_rne, zwr_req, upd_ne, upd_eq, ne_eq, Nat.reduceEqDiff, not_false_eq_true]
                                                exfalso; omega
                                                try simp only [zwr_rne, zwr_req, upd_ne, upd_eq, ne_eq, Nat.reduceEqDiff, not_false_eq_true]
                                                exact ⟨by first | rfl | trivial, hh⟩
                                            · try simp only [zwr_rne, zwr_req, upd_ne, upd_eq, ne_eq, Nat.reduceEqDiff, not_false_eq_true] at g57
                                              try omega
                                              all_goals
                                                try simp only [zwr_rne, zwr_req, upd_ne, upd_eq, ne_eq, Nat.reduceEqDiff, not_false_eq_true]
                                                refine ⟨by first | assumption | exact vin (by omega) | exact vp_in_I.mpr (by omega), ?_⟩
                                                rintro _ rfl
                                                try simp only [zwr_rne, zwr_req, upd_ne, upd_eq, ne_eq, Nat.reduceEqDiff, not_false_eq_true]
                                                exfalso; omega
                                                try simp only [zwr_rne, zwr_req, upd_ne, upd_eq, ne_eq, Nat.reduceEqDiff, not_false_eq_true]
                                                exact ⟨by first | rfl | trivial, hh⟩
                                        · try simp only [zwr_rne, zwr_req, upd_ne, upd_eq, ne_eq, Nat.reduceEqDiff, not_false_eq_true] at g56
                                          try omega
                                          all_goals
                                            try simp only [zwr_rne, zwr_req, upd_ne, upd_eq, ne_eq, Nat.reduceEqDiff, not_false_eq_true]
                                            exact ⟨by first | rfl | trivial, hh⟩
                                    · try simp only [zwr_rne, zwr_req, upd_ne, upd_eq, ne_eq, Nat.reduceEqDiff, not_false_eq_true] at g55
                                      try omega
                                      all_goals
                                        try simp only [zwr_rne, zwr_req, upd_ne, upd_eq, ne_eq, Nat.reduceEqDiff, not_false_eq_true]
                                        exact ⟨by first | rfl | trivial, hh⟩
                            · try simp only [zwr_rne, zwr_req, upd_ne, upd_eq, ne_eq, Nat.reduceEqDiff, not_false_eq_true] at g52
                              try omega
                              all_goals
                                try simp only [one_ne, zero_eq, if_false, if_true, or_true, true_or, or_false, false_or]
                                try simp only [zwr_rne, zwr_req, upd_ne, upd_eq, ne_eq, Nat.reduceEqDiff, not_false_eq_true]
                                exact ⟨by first | rfl | trivial, hh⟩
                    · try simp only [zwr_rne, zwr_req, upd_ne, upd_eq, ne_eq, Nat.reduceEqDiff, not_false_eq_true] at g45
                      try omega
                      all_goals
                        try simp only [one_ne, zero_eq, if_false, if_true, or_true, true_or, or_false, false_or]
                        try simp only [zwr_rne, zwr_req, upd_ne, upd_eq, ne_eq, Nat.reduceEqDiff, not_false_eq_true]
                        exact ⟨by first | rfl | trivial, hh⟩
        · try simp only [zwr_rne, zwr_req, upd_ne, upd_eq, ne_eq, Nat.reduceEqDiff, not_false_eq_true] at g2
          try omega
          all_goals
            refine c_hasC (fun g58 g58' => ?_) (fun g58 => ?_)
            · try simp only [zwr_rne, zwr_req, upd_ne, upd_eq, ne_eq, Nat.reduceEqDiff, not_false_eq_true] at g58
              try simp only [zwr_rne, zwr_req, upd_ne, upd_eq, ne_eq, Nat.reduceEqDiff, not_false_eq_true] at g58'
              try omega
              all_goals
                try simp only [one_ne, zero_eq, if_false, if_true, or_true, true_or, or_false, false_or]
                refine zeq (fun g59 => ?_) (fun g59 => ?_)
                · try simp only [zwr_rne, zwr_req, upd_ne, upd_eq, ne_eq, Nat.reduceEqDiff, not_false_eq_true] at g59
                  try omega
                  all_goals
                    refine ⟨by first | assumption | exact vin (by omega) | exact vp_in_I.mpr (by omega), ?_⟩
                    refine ⟨by first | assumption | exact vin (by omega) | exact vp_in_I.mpr (by omega), ?_⟩
                    rintro _ rfl
                    try simp only [zwr_rne, zwr_req, upd_ne, upd_eq, ne_eq, Nat.reduceEqDiff, not_false_eq_true]
                    refine c_changed ?_
                    try simp only [zwr_rne, zwr_req, upd_ne, upd_eq, ne_eq, Nat.reduceEqDiff, not_false_eq_true]
                    refine en_X12_charge ?_
                    try simp only [zwr_rne, zwr_req, upd_ne, upd_eq, ne_eq, Nat.reduceEqDiff, not_false_eq_true]
                    refine m_isAsset (by first | omega | (simp only [zwr_rne, zwr_req, upd_ne, upd_eq, ne_eq, Nat.reduceEqDiff, not_false_eq_true]; omega)) (fun g60 g60' => ?_) (fun g60 => ?_)
                    · try simp only [zwr_rne, zwr_req, upd_ne, upd_eq, ne_eq, Nat.reduceEqDiff, not_false_eq_true] at g60
                      try simp only [zwr_rne, zwr_req, upd_ne, upd_eq, ne_eq, Nat.reduceEqDiff, not_false_eq_true] at g60'
                      try omega
                      all_goals
                        try simp only [one_ne, zero_eq, if_false, if_true, or_true, true_or, or_false, false_or]
                        try simp only [zwr_rne, zwr_req, upd_ne, upd_eq, ne_eq, Nat.reduceEqDiff, not_false_eq_true]
                        refine zeq (fun g61 => ?_) (fun g61 => ?_)
                        · try simp only [zwr_rne, zwr_req, upd_ne, upd_eq, ne_eq, Nat.reduceEqDiff, not_false_eq_true] at g61
                          try omega
                          all_goals
                            try simp only [zwr_rne, zwr_req, upd_ne, upd_eq, ne_eq, Nat.reduceEqDiff, not_false_eq_true]
                            refine zeq (fun g62 => ?_) (fun g62 => ?_)
                            · try simp only [zwr_rne, zwr_req, upd_ne, upd_eq, ne_eq, Nat.reduceEqDiff, not_false_eq_true] at g62
                              try omega
                              all_goals
                                try simp only [zwr_rne, zwr_req, upd_ne, upd_eq, ne_eq, Nat.reduceEqDiff, not_false_eq_true]
                                refine ⟨by first | assumption | exact vin (by omega) | exact vp_in_I.mpr (by omega), ?_⟩
                                refine zeq (fun g63 => ?_) (fun g63 => ?_)
                                · try simp only [zwr_rne, zwr_req, upd_ne, upd_eq, ne_eq, Nat.reduceEqDiff, not_false_eq_true] at g63
                                  try omega
                                  all_goals
                                    try simp only [zwr_rne, zwr_req, upd_ne, upd_eq, ne_eq, Nat.reduceEqDiff, not_false_eq_true]
                                    refine ⟨by first | assumption | exact vin (by omega) | exact vp_in_I.mpr (by omega), ?_⟩
                                    rintro _ rfl
                                    try simp only [zwr_rne, zwr_req, upd_ne, upd_eq, ne_eq, Nat.reduceEqDiff, not_false_eq_true]
                                    exfalso; omega
                                    try simp only [zwr_rne, zwr_req, upd_ne, upd_eq, ne_eq, Nat.reduceEqDiff, not_false_eq_true]
                                    exact ⟨by first | rfl | trivial, hh⟩
                                · try simp only [zwr_rne, zwr_req, upd_ne, upd_eq, ne_eq, Nat.reduceEqDiff, not_false_eq_true] at g63
                                  try omega
                                  all_goals
                                    try simp only [zwr_rne, zwr_req, upd_ne, upd_eq, ne_eq, Nat.reduceEqDiff, not_false_eq_true]
                                    refine ⟨by first | assumption | exact vin (by omega) | exact vp_in_I.mpr (by omega), ?_⟩
                                    rintro _ rfl
                                    try simp only [zwr_rne, zwr_req, upd_ne, upd_eq, ne_eq, Nat.reduceEqDiff, not_false_eq_true]
                                    exfalso; omega
                                    try simp only [zwr_rne, zwr_req, upd_ne, upd_eq, ne_eq, Nat.reduceEqDiff, not_false_eq_true]
                                    exact ⟨by first | rfl | trivial, hh⟩
                            · try simp only [zwr_rne, zwr_req, upd_ne, upd_eq, ne_eq, Nat.reduceEqDiff, not_false_eq_true] at g62
                              try omega
                              all_goals
                                try simp only [zwr_rne, zwr_req, upd_ne, upd_eq, ne_eq, Nat.reduceEqDiff, not_false_eq_true]
                                refine ⟨by first | assumption | exact vin (by omega) | exact vp_in_I.mpr (by omega), ?_⟩
                                refine zeq (fun g64 => ?_) (fun g64 => ?_)
                                · try simp only [zwr_rne, zwr_req, upd_ne, upd_eq, ne_eq, Nat.reduceEqDiff, not_false_eq_true] at g64
                                  try omega
                                  all_goals
                                    try simp only [zwr_rne, zwr_req, upd_ne, upd_eq, ne_eq, Nat.reduceEqDiff, not_false_eq_true]
                                    refine ⟨by first | assumption | exact vin (by omega) | exact vp_in_I.mpr (by omega), ?_⟩
                                    refine ⟨by first | assumption | exact vin (by omega) | exact vp_in_I.mpr (by omega), ?_⟩
                                    refine zeq (fun g65 => ?_) (fun g65 => ?_)
                                    · try simp only [zwr_rne, zwr_req, upd_ne, upd_eq, ne_eq, Nat.reduceEqDiff, not_false_eq_true] at g65
                                      try omega
                                      all_goals
                                        try simp only [zwr_rne, zwr_req, upd_ne, upd_eq, ne_eq, Nat.reduceEqDiff, not_false_eq_true]
                                        refine ⟨by first | assumption | exact vin (by omega) | exact vp_in_I.mpr (by omega), ?_⟩
                                        refine zeq (fun g66 => ?_) (fun g66 => ?_)
                                        · try simp only [zwr_rne, zwr_req, upd_ne, upd_eq, ne_eq, Nat.reduceEqDiff, not_false_eq_true] at g66
                                          try omega
                                          all_goals
                                            try simp only [zwr_rne, zwr_req, upd_ne, upd_eq, ne_eq, Nat.reduceEqDiff, not_false_eq_true]
                                            refine ⟨by first | assumption | exact vin (by omega) | exact vp_in_I.mpr (by omega), ?_⟩
                                            rintro _ rfl
                                            try simp only [zwr_rne, zwr_req, upd_ne, upd_eq, ne_eq, Nat.reduceEqDiff, not_false_eq_true]
                                            exfalso; omega
                                            try simp only [zwr_rne, zwr_req, upd_ne, upd_eq, ne_eq, Nat.reduceEqDiff, not_false_eq_true]
                                            exact ⟨by first | rfl | trivial, hh⟩
                                        · try simp only [zwr_rne, zwr_req, upd_ne, upd_eq, ne_eq, Nat.reduceEqDiff, not_false_eq_true] at g66
                                          try omega
                                          all_goals
                                            try simp only [zwr_rne, zwr_req, upd_ne, upd_eq, ne_eq, Nat.reduceEqDiff, not_false_eq_true]
                                            refine ⟨by first | assumption | exact vin (by omega) | exact vp_in_I.mpr (by omega), ?_⟩
                                            rintro _ rfl
                                            try simp only [zwr_rne, zwr_req, upd_ne, upd_eq, ne_eq, Nat.reduceEqDiff, not_false_eq_true]
                                            exfalso; omega
                                            try simp only [zwr_rne, zwr_req, upd_ne, upd_eq, ne_eq, Nat.reduceEqDiff, not_false_eq_true]
                                            exact ⟨by first | rfl | trivial, hh⟩
                                    · try simp only [zwr_rne, zwr_req, upd_ne, upd_eq, ne_eq, Nat.reduceEqDiff, not_false_eq_true] at g65
                                      try omega
                                      all_goals
                                        try simp only [zwr_rne, zwr_req, upd_ne, upd_eq, ne_eq, Nat.reduceEqDiff, not_false_eq_true]
                                        exact ⟨by first | rfl | trivial, hh⟩
                                · try simp only [zwr_rne, zwr_req, upd_ne, upd_eq, ne_eq, Nat.reduceEqDiff, not_false_eq_true] at g64
                                  try omega
                                  all_goals
                                    try simp only [zwr_rne, zwr_req, upd_ne, upd_eq, ne_eq, Nat.reduceEqDiff, not_false_eq_true]
                                    exact ⟨by first | rfl | trivial, hh⟩
                        · try simp only [zwr_rne, zwr_req, upd_ne, upd_eq, ne_eq, Nat.reduceEqDiff, not_false_eq_true] at g61
                          try omega
                          all_goals
                            try simp only [zwr_rne, zwr_req, upd_ne, upd_eq, ne_eq, Nat.reduceEqDiff, not_false_eq_true]
                            refine m_isClaim (by first | omega | (simp only [zwr_rne, zwr_req, upd_ne, upd_eq, ne_eq, Nat.reduceEqDiff, not_false_eq_true]; omega)) (fun g67 g67' => ?_) (fun g67 => ?_)
                            · try simp only [zwr_rne, zwr_req, upd_ne, upd_eq, ne_eq, Nat.reduceEqDiff, not_false_eq_true] at g67
                              try simp only [zwr_rne, zwr_req, upd_ne, upd_eq, ne_eq, Nat.reduceEqDiff, not_false_eq_true] at g67'
                              try omega
                              all_goals
                                try simp only [one_ne, zero_eq, if_false, if_true, or_true, true_or, or_false, false_or]
                                try simp only [zwr_rne, zwr_req, upd_ne, upd_eq, ne_eq, Nat.reduceEqDiff, not_false_eq_true]
                                refine zeq (fun g68 => ?_) (fun g68 => ?_)
                                · try simp only [zwr_rne, zwr_req, upd_ne, upd_eq, ne_eq, Nat.reduceEqDiff, not_false_eq_true] at g68
                                  try omega
                                  all_goals
                                    try simp only [zwr_rne, zwr_req, upd_ne, upd_eq, ne_eq, Nat.reduceEqDiff, not_false_eq_true]
                                    refine ⟨by first | assumption | exact vin (by omega) | exact vp_in_I.mpr (by omega), ?_⟩
                                    refine zeq (fun g69 => ?_) (fun g69 => ?_)
                                    · try simp only [zwr_rne, zwr_req, upd_ne, upd_eq, ne_eq, Nat.reduceEqDiff, not_false_eq_true] at g69
                                      try omega
                                      all_goals
                                        try simp only [zwr_rne, zwr_req, upd_ne, upd_eq, ne_eq, Nat.reduceEqDiff, not_false_eq_true]
                                        refine ⟨by first | assumption | exact vin (by omega) | exact vp_in_I.mpr (by omega), ?_⟩
                                        rintro _ rfl
                                        try simp only [zwr_rne, zwr_req, upd_ne, upd_eq, ne_eq, Nat.reduceEqDiff, not_false_eq_true]
                                        exfalso; omega
                                        try simp only [zwr_rne, zwr_req, upd_ne, upd_eq, ne_eq, Nat.reduceEqDiff, not_false_eq_true]
                                        exact ⟨by first | rfl | trivial, hh⟩
                                    · try simp only [zwr_rne, zwr_req, upd_ne, upd_eq, ne_eq, Nat.reduceEqDiff, not_false_eq_true] at g69
                                      try omega
                                      all_goals
                                        try simp only [zwr_rne, zwr_req, upd_ne, upd_eq, ne_eq, Nat.reduceEqDiff, not_false_eq_true]
                                        refine ⟨by first | assumption | exact vin (by omega) | exact vp_in_I.mpr (by omega), ?_⟩
                                        rintro _ rfl
                                        try simp only [zwr_rne, zwr_req, upd_ne, upd_eq, ne_eq, Nat.reduceEqDiff, not_false_eq_true]
                                        exfalso; omega
                                        try simp only [zwr_rne, zwr_req, upd_ne, upd_eq, ne_eq, Nat.reduceEqDiff, not_false_eq_true]
                                        exact ⟨by first | rfl | trivial, hh⟩
                                · try simp only [zwr_rne, zwr_req, upd_ne, upd_eq, ne_eq, Nat.reduceEqDiff, not_false_eq_true] at g68
                                  try omega
                                  all_goals
                                    try simp only [zwr_rne, zwr_req, upd_ne, upd_eq, ne_eq, Nat.reduceEqDiff, not_false_eq_true]
                                    refine ⟨by first | assumption | exact vin (by omega) | exact vp_in_I.mpr (by omega), ?_⟩
                                    refine zeq (fun g70 => ?_) (fun g70 => ?_)
                                    · try simp only [zwr_rne, zwr_req, upd_ne, upd_eq, ne_eq, Nat.reduceEqDiff, not_false_eq_true] at g70
                                      try omega
                                      all_goals
                                        try simp only [zwr_rne, zwr_req, upd_ne, upd_eq, ne_eq, Nat.reduceEqDiff, not_false_eq_true]
                                        refine ⟨by first | assumption | exact vin (by omega) | exact vp_in_I.mpr (by omega), ?_⟩
                                        refine ⟨by first | assumption | exact vin (by omega) | exact vp_in_I.mpr (by omega), ?_⟩
                                        refine zeq (fun g71 => ?_) (fun g71 => ?_)
                                        · try simp only [zwr_rne, zwr_req, upd_ne, upd_eq, ne_eq, Nat.reduceEqDiff, not_false_eq_true] at g71
                                          try omega
                                          all_goals
                                            try simp only [zwr_rne, zwr_req, upd_ne, upd_eq, ne_eq, Nat.reduceEqDiff, not_false_eq_true]
                                            refine ⟨by first | assumption | exact vin (by omega) | exact vp_in_I.mpr (by omega), ?_⟩
                                            refine zeq (fun g72 => ?_) (fun g72 => ?_)
                                            · try simp only [zwr_rne, zwr_req, upd_ne, upd_eq, ne_eq, Nat.reduceEqDiff, not_false_eq_true] at g72
                                              try omega
                                              all_goals
                                                try simp only [zwr_rne, zwr_req, upd_ne, upd_eq, ne_eq, Nat.reduceEqDiff, not_false_eq_true]
                                                refine ⟨by first | assumption | exact vin (by omega) | exact vp_in_I.mpr (by omega), ?_⟩
                                                rintro _ rfl
                                                try simp only [zwr_rne, zwr_req, upd_ne, upd_eq, ne_eq, Nat.reduceEqDiff, not_false_eq_true]
                                                exfalso; omega
                                                try simp only [zwr_rne, zwr_req, upd_ne, upd_eq, ne_eq, Nat.reduceEqDiff, not_false_eq_true]
                                                exact ⟨by first | rfl | trivial, hh⟩
                                            · try simp only [zwr_rne, zwr_req, upd_ne, upd_eq, ne_eq, Nat.reduceEqDiff, not_false_eq_true] at g72
                                              try omega
                                              all_goals
                                                try simp only [zwr_rne, zwr_req, upd_ne, upd_eq, ne_eq, Nat.reduceEqDiff, not_false_eq_true]
                                                refine ⟨by first | assumption | exact vin (by omega) | exact vp_in_I.mpr (by omega), ?_⟩
                                                rintro _ rfl
                                                try simp only [zwr_rne, zwr_req, upd_ne, upd_eq, ne_eq, Nat.reduceEqDiff, not_false_eq_true]
                                                exfalso; omega
                                                try simp only [zwr_rne, zwr_req, upd_ne, upd_eq, ne_eq, Nat.reduceEqDiff, not_false_eq_true]
                                                exact ⟨by first | rfl | trivial, hh⟩
                                        · try simp only [zwr_rne, zwr_req, upd_ne, upd_eq, ne_eq, Nat.reduceEqDiff, not_false_eq_true] at g71
                                          try omega
                                          all_goals
                                            try simp only [zwr_rne, zwr_req, upd_ne, upd_eq, ne_eq, Nat.reduceEqDiff, not_false_eq_true]
                                            exact ⟨by first | rfl | trivial, hh⟩
                                    · try simp only [zwr_rne, zwr_req, upd_ne, upd_eq, ne_eq, Nat.reduceEqDiff, not_false_eq_true] at g70
                                      try omega
                                      all_goals
                                        try simp only [zwr_rne, zwr_req, upd_ne, upd_eq, ne_eq, Nat.reduceEqDiff, not_false_eq_true]
                                        exact ⟨by first | rfl | trivial, hh⟩
                            · try simp only [zwr_rne, zwr_req, upd_ne, upd_eq, ne_eq, Nat.reduceEqDiff, not_false_eq_true] at g67
                              try omega
                              all_goals
                                try simp only [one_ne, zero_eq, if_false, if_true, or_true, true_or, or_false, false_or]
                                try simp only [zwr_rne, zwr_req, upd_ne, upd_eq, ne_eq, Nat.reduceEqDiff, not_false_eq_true]
                                exact ⟨by first | rfl | trivial, hh⟩
                    · try simp only [zwr_rne, zwr_req, upd_ne, upd_eq, ne_eq, Nat.reduceEqDiff, not_false_eq_true] at g60
                      try omega
                      all_goals
                        try simp only [one_ne, zero_eq, if_false, if_true, or_true, true_or, or_false, false_or]
                        try simp only [zwr_rne, zwr_req, upd_ne, upd_eq, ne_eq, Nat.reduceEqDiff, not_false_eq_true]
                        exact ⟨by first | rfl | trivial, hh⟩
                · try simp only [zwr_rne, zwr_req, upd_ne, upd_eq, ne_eq, Nat.reduceEqDiff, not_false_eq_true] at g59
                  try omega
                  all_goals
                    refine ⟨by first | assumption | exact vin (by omega) | exact vp_in_I.mpr (by omega), ?_⟩
                    refine zeq (fun g73 => ?_) (fun g73 => ?_)
                    · try simp only [zwr_rne, zwr_req, upd_ne, upd_eq, ne_eq, Nat.reduceEqDiff, not_false_eq_true] at g73
                      try omega
                      all_goals
                        refine ⟨by first | assumption | exact vin (by omega) | exact vp_in_I.mpr (by omega), ?_⟩
                        refine ⟨by first | assumption | exact vin (by omega) | exact vp_in_I.mpr (by omega), ?_⟩
                        refine zeq (fun g74 => ?_) (fun g74 => ?_)
                        · try simp only [zwr_rne, zwr_req, upd_ne, upd_eq, ne_eq, Nat.reduceEqDiff, not_false_eq_true] at g74
                          try omega
                          all_goals
                            refine ⟨by first | assumption | exact vin (by omega) | exact vp_in_I.mpr (by omega), ?_⟩
                            refine ⟨by first | assumption | exact vin (by omega) | exact vp_in_I.mpr (by omega), ?_⟩
                            rintro _ rfl
                            try simp only [zwr_rne, zwr_req, upd_ne, upd_eq, ne_eq, Nat.reduceEqDiff, not_false_eq_true]
                            refine c_changed ?_
                            try simp only [zwr_rne, zwr_req, upd_ne, upd_eq, ne_eq, Nat.reduceEqDiff, not_false_eq_true]
                            refine en_X12_charge ?_
                            try simp only [zwr_rne, zwr_req, upd_ne, upd_eq, ne_eq, Nat.reduceEqDiff, not_false_eq_true]
                            refine m_isAsset (by first | omega | (simp only [zwr_rne, zwr_req, upd_ne, upd_eq, ne_eq, Nat.reduceEqDiff, not_false_eq_true]; omega)) (fun g75 g75' => ?_) (fun g75 => ?_)
                            · try simp only [zwr_rne, zwr_req, upd_ne, upd_eq, ne_eq, Nat.reduceEqDiff, not_false_eq_true] at g75
                              try simp only [zwr_rne, zwr_req, upd_ne, upd_eq, ne_eq, Nat.reduceEqDiff, not_false_eq_true] at g75'
                              try omega
                              all_goals
                                try simp only [one_ne, zero_eq, if_false, if_true, or_true, true_or, or_false, false_or]
                                try simp only [zwr_rne, zwr_req, upd_ne, upd_eq, ne_eq, Nat.reduceEqDiff, not_false_eq_true]
                                refine zeq (fun g76 => ?_) (fun g76 => ?_)
                                · try simp only [zwr_rne, zwr_req, upd_ne, upd_eq, ne_eq, Nat.reduceEqDiff, not_false_eq_true] at g76
                                  try omega
                                  all_goals
                                    try simp only [zwr_rne, zwr_req, upd_ne, upd_eq, ne_eq, Nat.reduceEqDiff, not_false_eq_true]
                                    refine zeq (fun g77 => ?_) (fun g77 => ?_)
                                    · try simp only [zwr_rne, zwr_req, upd_ne, upd_eq, ne_eq, Nat.reduceEqDiff, not_false_eq_true] at g77
                                      try omega
                                      all_goals
                                        try simp only [zwr_rne, zwr_req, upd_ne, upd_eq, ne_eq, Nat.reduceEqDiff, not_false_eq_true]
                                        refine ⟨by first | assumption | exact vin (by omega) | exact vp_in_I.mpr (by omega), ?_⟩
                                        refine zeq (fun g78 => ?_) (fun g78 => ?_)
                                        · try simp only [zwr_rne, zwr_req, upd_ne, upd_eq, ne_eq, Nat.reduceEqDiff, not_false_eq_true] at g78
                                          try omega
                                          all_goals
                                            try simp only [zwr_rne, zwr_req, upd_ne, upd_eq, ne_eq, Nat.reduceEqDiff, not_false_eq_true]
                                            refine ⟨by first | assumption | exact vin (by omega) | exact vp_in_I.mpr (by omega), ?_⟩
                                            rintro _ rfl
                                            try simp only [zwr_rne, zwr_req, upd_ne, upd_eq, ne_eq, Nat.reduceEqDiff, not_false_eq_true]
                                            exfalso; omega
                                            try simp only [zwr_rne, zwr_req, upd_ne, upd_eq, ne_eq, Nat.reduceEqDiff, not_false_eq_true]
                                            exact ⟨by first | rfl | trivial, hh⟩
                                        · try simp only [zwr_rne, zwr_req, upd_ne, upd_eq, ne_eq, Nat.reduceEqDiff, not_false_eq_true] at g78
                                          try omega
                                          all_goals
                                            try simp only [zwr_rne, zwr_req, upd_ne, upd_eq, ne_eq, Nat.reduceEqDiff, not_false_eq_true]
                                            refine ⟨by first | assumption | exact vin (by omega) | exact vp_in_I.mpr (by omega), ?_⟩
                                            rintro _ rfl
                                            try simp only [zwr_rne, zwr_req, upd_ne, upd_eq, ne_eq, Nat.reduceEqDiff, not_false_eq_true]
                                            exfalso; omega
                                            try simp only [zwr_rne, zwr_req, upd_ne, upd_eq, ne_eq, Nat.reduceEqDiff, not_false_eq_true]
                                            exact ⟨by first | rfl | trivial, hh⟩
                                    · try simp only [zwr_rne, zwr_req, upd_ne, upd_eq, ne_eq, Nat.reduceEqDiff, not_false_eq_true] at g77
                                      try omega
                                      all_goals
                                        try simp only [zwr_rne, zwr_req, upd_ne, upd_eq, ne_eq, Nat.reduceEqDiff, not_false_eq_true]
                                        refine ⟨by first | assumption | exact vin (by omega) | exact vp_in_I.mpr (by omega), ?_⟩
                                        refine zeq (fun g79 => ?_) (fun g79 => ?_)
                                        · try simp only [zwr_rne, zwr_req, upd_ne, upd_eq, ne_eq, Nat.reduceEqDiff, not_false_eq_true] at g79
                                          try omega
                                          all_goals
                                            try simp only [zwr_rne, zwr_req, upd_ne, upd_eq, ne_eq, Nat.reduceEqDiff, not_false_eq_true]
                                            refine ⟨by first | assumption | exact vin (by omega) | exact vp_in_I.mpr (by omega), ?_⟩
                                            refine ⟨by first | assumption | exact vin (by omega) | exact vp_in_I.mpr (by omega), ?_⟩
                                            refine zeq (fun g80 => ?_) (fun g80 => ?_)
                                            · try simp only [zwr_rne, zwr_req, upd_ne, upd_eq, ne_eq, Nat.reduceEqDiff, not_false_eq_true] at g80
                                              try omega
                                              all_goals
                                                try simp only [zwr_rne, zwr_req, upd_ne, upd_eq, ne_eq, Nat.reduceEqDiff, not_false_eq_true]
                                                refine ⟨by first | assumption | exact vin (by omega) | exact vp_in_I.mpr (by omega), ?_⟩
                                                refine zeq (fun g81 => ?_) (fun g81 => ?_)
                                                · try simp only [zwr_rne, zwr_req, upd_ne, upd_eq, ne_eq, Nat.reduceEqDiff, not_false_eq_true] at g81
                                                  try omega
                                                  all_goals
                                                    try simp only [zwr_rne, zwr_req, upd_ne, upd_eq, ne_eq, Nat.reduceEqDiff, not_false_eq_true]
                                                    refine ⟨by first | assumption | exact vin (by omega) | exact vp_in_I.mpr (by omega), ?_⟩
                                                    rintro _ rfl
                                                    try simp only [zwr_rne, zwr_req, upd_ne, upd_eq, ne_eq, Nat.reduceEqDiff, not_false_eq_true]
                                                    exfalso; omega
                                                    try simp only [zwr_rne, zwr_req, upd_ne, upd_eq, ne_eq, Nat.reduceEqDiff, not_false_eq_true]
                                                    exact ⟨by first | rfl | trivial, hh⟩
                                                · try simp only [zwr_rne, zwr_req, upd_ne, upd_eq, ne_eq, Nat.reduceEqDiff, not_false_eq_true] at g81
                                                  try omega
                                                  all_goals
                                                    try simp only [zwr_rne, zwr_req, upd_ne, upd_eq, ne_eq, Nat.reduceEqDiff, not_false_eq_true]
                                                    refine ⟨by first | assumption | exact vin (by omega) | exact vp_in_I.mpr (by omega), ?_⟩
                                                    rintro _ rfl
                                                    try simp only [zwr_rne, zwr_req, upd_ne, upd_eq, ne_eq, Nat.reduceEqDiff, not_false_eq_true]
                                                    exfalso; omega
                                                    try simp only [zwr_rne, zwr_req, upd_ne, upd_eq, ne_eq, Nat.reduceEqDiff, not_false_eq_true]
                                                    exact ⟨by first | rfl | trivial, hh⟩
                                            · try simp only [zwr_rne, zwr_req, upd_ne, upd_eq, ne_eq, Nat.reduceEqDiff, not_false_eq_true] at g80
                                              try omega
                                              all_goals
                                                try simp only [zwr_rne, zwr_req, upd_ne, upd_eq, ne_eq, Nat.reduceEqDiff, not_false_eq_true]
                                                exact ⟨by first | rfl | trivial, hh⟩
                                        · try simp only [zwr_rne, zwr_req, upd_ne, upd_eq, ne_eq, Nat.reduceEqDiff, not_false_eq_true] at g79
                                          try omega
                                          all_goals
                                            try simp only [zwr_rne, zwr_req, upd_ne, upd_eq, ne_eq, Nat.reduceEqDiff, not_false_eq_true]
                                            exact ⟨by first | rfl | trivial, hh⟩
                                · try simp only [zwr_rne, zwr_req, upd_ne, upd_eq, ne_eq, Nat.reduceEqDiff, not_false_eq_true] at g76
                                  try omega
                                  all_goals
                                    try simp only [zwr_rne, zwr_req, upd_ne, upd_eq, ne_eq, Nat.reduceEqDiff, not_false_eq_true]
                                    refine m_isClaim (by first | omega | (simp only [zwr_rne, zwr_req, upd_ne, upd_eq, ne_eq, Nat.reduceEqDiff, not_false_eq_true]; omega)) (fun g82 g82' => ?_) (fun g82 => ?_)
                                    · try simp only [zwr_rne, zwr_req, upd_ne, upd_eq, ne_eq, Nat.reduceEqDiff, not_false_eq_true] at g82
                                      try simp only [zwr_rne, zwr_req, upd_ne, upd_eq, ne_eq, Nat.reduceEqDiff, not_false_eq_true] at g82'
                                      try omega
                                      all_goals
                                        try simp only [one_ne, zero_eq, if_false, if_true, or_true, true_or, or_false, false_or]
                                        try simp only [zwr_rne, zwr_req, upd_ne, upd_eq, ne_eq, Nat.reduceEqDiff, not_false_eq_true]
                                        refine zeq (fun g83 => ?_) (fun g83 => ?_)
                                        · try simp only [zwr_rne, zwr_req, upd_ne, upd_eq, ne_eq, Nat.reduceEqDiff, not_false_eq_true] at g83
                                          try omega
                                          all_goals
                                            try simp only [zwr_rne, zwr_req, upd_ne, upd_eq, ne_eq, Nat.reduceEqDiff, not_false_eq_true]
                                            refine ⟨by first | assumption | exact vin (by omega) | exact vp_in_I.mpr (by omega), ?_⟩
                                            refine zeq (fun g84 => ?_) (fun g84 => ?_)
                                            · try simp only [zwr_rne, zwr_req, upd_ne, upd_eq, ne_eq, Nat.reduceEqDiff, not_false_eq_true] at g84
                                              try omega
                                              all_goals
                                                try simp only [zwr_rne, zwr_req, upd_ne, upd_eq, ne_eq, Nat.reduceEqDiff, not_false_eq_true]
                                                refine ⟨by first | assumption | exact vin (by omega) | exact vp_in_I.mpr (by omega), ?_⟩
                                                rintro _ rfl
                                                try simp only [zwr_rne, zwr_req, upd_ne, upd_eq, ne_eq, Nat.reduceEqDiff, not_false_eq_true]
                                                exfalso; omega
                                                try simp only [zwr_rne, zwr_req, upd_ne, upd_eq, ne_eq, Nat.reduceEqDiff, not_false_eq_true]
                                                exact ⟨by first | rfl | trivial, hh⟩
                                            · try simp only [zwr_rne, zwr_req, upd_ne, upd_eq, ne_eq, Nat.reduceEqDiff, not_false_eq_true] at g84
                                              try omega
                                              all_goals
                                                try simp only [zwr_rne, zwr_req, upd_ne, upd_eq, ne_eq, Nat.reduceEqDiff, not_false_eq_true]
                                                refine ⟨by first | assumption | exact vin (by omega) | exact vp_in_I.mpr (by omega), ?_⟩
                                                rintro _ rfl
                                                try simp only [zwr_rne, zwr_req, upd_ne, upd_eq, ne_eq, Nat.reduceEqDiff, not_false_eq_true]
                                                exfalso; omega
                                                try simp only [zwr_rne, zwr_req, upd_ne, upd_eq, ne_eq, Nat.reduceEqDiff, not_false_eq_true]
                                                exact ⟨by first | rfl | trivial, hh⟩
                                        · try simp only [zwr_rne, zwr_req, upd_ne, upd_eq, ne_eq, Nat.reduceEqDiff, not_false_eq_true] at g83
                                          try omega
                                          all_goals
                                            try simp only [zwr_rne, zwr_req, upd_ne, upd_eq, ne_eq, Nat.reduceEqDiff, not_false_eq_true]
                                            refine ⟨by first | assumption | exact vin (by omega) | exact vp_in_I.mpr (by omega), ?_⟩
                                            refine zeq (fun g85 => ?_) (fun g85 => ?_)
                                            · try simp only [zwr_rne, zwr_req, upd_ne, upd_eq, ne_eq, Nat.reduceEqDiff, not_false_eq_true] at g85
                                              try omega
                                              all_goals
                                                try simp only [zwr_rne, zwr_req, upd_ne, upd_eq, ne_eq, Nat.reduceEqDiff, not_false_eq_true]
                                                refine ⟨by first | assumption | exact vin (by omega) | exact vp_in_I.mpr (by omega), ?_⟩
                                                refine ⟨by first | assumption | exact vin (by omega) | exact vp_in_I.mpr (by omega), ?_⟩
                                                refine zeq (fun g86 => ?_) (fun g86 => ?_)
                                                · try simp only [zwr_rne, zwr_req, upd_ne, upd_eq, ne_eq, Nat.reduceEqDiff, not_false_eq_true] at g86
                                                  try omega
                                                  all_goals
                                                    try simp only [zwr_rne, zwr_req, upd_ne, upd_eq, ne_eq, Nat.reduceEqDiff, not_false_eq_true]
                                                    refine ⟨by first | assumption | exact vin (by omega) | exact vp_in_I.mpr (by omega), ?_⟩
                                                    refine zeq (fun g87 => ?_) (fun g87 => ?_)
                                                    · try simp only [zwr_rne, zwr_req, upd_ne, upd_eq, ne_eq, Nat.reduceEqDiff, not_false_eq_true] at g87
                                                      try omega
                                                      all_goals
                                                        try simp only [zwr_rne, zwr_req, upd_ne, upd_eq, ne_eq, Nat.reduceEqDiff, not_false_eq_true]
                                                        refine ⟨by first | assumption | exact vin (by omega) | exact vp_in_I.mpr (by omega), ?_⟩
                                                        rintro _ rfl
                                                        try simp only [zwr_rne, zwr_req, upd_ne, upd_eq, ne_eq, Nat.reduceEqDiff, not_false_eq_true]
                                                        exfalso; omega
                                                        try simp only [zwr_rne, zwr_req, upd_ne, upd_eq, ne_eq, Nat.reduceEqDiff, not_false_eq_true]
                                                        exact ⟨by first | rfl | trivial, hh⟩
                                                    · try simp only [zwr_rne, zwr_req, upd_ne, upd_eq, ne_eq, Nat.reduceEqDiff, not_false_eq_true] at g87
                                                      try omega
                                                      all_goals
                                                        try simp only [zwr_rne, zwr_req, upd_ne, upd_eq, ne_eq, Nat.reduceEqDiff, not_false_eq_true]
                                                        refine ⟨by first | assumption | exact vin (by omega) | exact vp_in_I.mpr (by omega), ?_⟩
                                                        rintro _ rfl
                                                        try simp only [zwr_rne, zwr_req, upd_ne, upd_eq, ne_eq, Nat.reduceEqDiff, not_false_eq_true]
                                                        exfalso; omega
                                                        try simp only [zwr_rne, zwr_req, upd_ne, upd_eq, ne_eq, Nat.reduceEqDiff, not_false_eq_true]
                                                        exact ⟨by first | rfl | trivial, hh⟩
                                                · try simp only [zwr_rne, zwr_req, upd_ne, upd_eq, ne_eq, Nat.reduceEqDiff, not_false_eq_true] at g86
                                                  try omega
                                                  all_goals
                                                    try simp only [zwr_rne, zwr_req, upd_ne, upd_eq, ne_eq, Nat.reduceEqDiff, not_false_eq_true]
                                                    exact ⟨by first | rfl | trivial, hh⟩
                                            · try simp only [zwr_rne, zwr_req, upd_ne, upd_eq, ne_eq, Nat.reduceEqDiff, not_false_eq_true] at g85
                                              try omega
                                              all_goals
                                                try simp only [zwr_rne, zwr_req, upd_ne, upd_eq, ne_eq, Nat.reduceEqDiff, not_false_eq_true]
                                                exact ⟨by first | rfl | trivial, hh⟩
                                    · try simp only [zwr_rne, zwr_req, upd_ne, upd_eq, ne_eq, Nat.reduceEqDiff, not_false_eq_true] at g82
                                      try omega
                                      all_goals
                                        try simp only [one_ne, zero_eq, if_false, if_true, or_true, true_or, or_false, false_or]
                                        try simp only [zwr_rne, zwr_req, upd_ne, upd_eq, ne_eq, Nat.reduceEqDiff, not_false_eq_true]
                                        exact ⟨by first | rfl | trivial, hh⟩
                            · try simp only [zwr_rne, zwr_req, upd_ne, upd_eq, ne_eq, Nat.reduceEqDiff, not_false_eq_true] at g75
                              try omega
                              all_goals
                                try simp only [one_ne, zero_eq, if_false, if_true, or_true, true_or, or_false, false_or]
                                try simp only [zwr_rne, zwr_req, upd_ne, upd_eq, ne_eq, Nat.reduceEqDiff, not_false_eq_true]
                                exact ⟨by first | rfl | trivial, hh⟩
                        · try simp only [zwr_rne, zwr_req, upd_ne, upd_eq, ne_eq, Nat.reduceEqDiff, not_false_eq_true] at g74
                          try omega
                          all_goals
                            refine en_X12_charge ?_
                            try simp only [zwr_rne, zwr_req, upd_ne, upd_eq, ne_eq, Nat.reduceEqDiff, not_false_eq_true]
                            refine m_isAsset (by first | omega | (simp only [zwr_rne, zwr_req, upd_ne, upd_eq, ne_eq, Nat.reduceEqDiff, not_false_eq_true]; omega)) (fun g88 g88' => ?_) (fun g88 => ?_)
                            · try simp only [zwr_rne, zwr_req, upd_ne, upd_eq, ne_eq, Nat.reduceEqDiff, not_false_eq_true] at g88
                              try simp only [zwr_rne, zwr_req, upd_ne, upd_eq, ne_eq, Nat.reduceEqDiff, not_false_eq_true] at g88'
                              try omega
                              all_goals
                                try simp only [one_ne, zero_eq, if_false, if_true, or_true, true_or, or_false, false_or]
                                try simp only [zwr_rne, zwr_req, upd_ne, upd_eq, ne_eq, Nat.reduceEqDiff, not_false_eq_true]
                                refine zeq (fun g89 => ?_) (fun g89 => ?_)
                                · try simp only [zwr_rne, zwr_req, upd_ne, upd_eq, ne_eq, Nat.reduceEqDiff, not_false_eq_true] at g89
                                  try omega
                                  all_goals
                                    try simp only [zwr_rne, zwr_req, upd_ne, upd_eq, ne_eq, Nat.reduceEqDiff, not_false_eq_true]
                                    refine zeq (fun g90 => ?_) (fun g90 => ?_)
                                    · try simp only [zwr_rne, zwr_req, upd_ne, upd_eq, ne_eq, Nat.reduceEqDiff, not_false_eq_true] at g90
                                      try omega
                                      all_goals
                                        try simp only [zwr_rne, zwr_req, upd_ne, upd_eq, ne_eq, Nat.reduceEqDiff, not_false_eq_true]
                                        refine ⟨by first | assumption | exact vin (by omega) | exact vp_in_I.mpr (by omega), ?_⟩
                                        refine zeq (fun g91 => ?_) (fun g91 => ?_)
                                        · try simp only [zwr_rne, zwr_req, upd_ne, upd_eq, ne_eq, Nat.reduceEqDiff, not_false_eq_true] at g91
                                          try omega
                                          all_goals
                                            try simp only [zwr_rne, zwr_req, upd_ne, upd_eq, ne_eq, Nat.reduceEqDiff, not_false_eq_true]
                                            refine ⟨by first | assumption | exact vin (by omega) | exact vp_in_I.mpr (by omega), ?_⟩
                                            rintro _ rfl
                                            try simp only [zwr_rne, zwr_req, upd_ne, upd_eq, ne_eq, Nat.reduceEqDiff, not_false_eq_true]
                                            exfalso; omega
                                            try simp only [zwr_rne, zwr_req, upd_ne, upd_eq, ne_eq, Nat.reduceEqDiff, not_false_eq_true]
                                            exact ⟨by first | rfl | trivial, hh⟩
                                        · try simp only [zwr_rne, zwr_req, upd_ne, upd_eq, ne_eq, Nat.reduceEqDiff, not_false_eq_true] at g91
                                          try omega
                                          all_goals
                                            try simp only [zwr_rne, zwr_req, upd_ne, upd_eq, ne_eq, Nat.reduceEqDiff, not_false_eq_true]
                                            refine ⟨by first | assumption | exact vin (by omega) | exact vp_in_I.mpr (by omega), ?_⟩
                                            rintro _ rfl
                                            try simp only [zwr_rne, zwr_req, upd_ne, upd_eq, ne_eq, Nat.reduceEqDiff, not_false_eq_true]
                                            exfalso; omega
                                            try simp only [zwr_rne, zwr_req, upd_ne, upd_eq, ne_eq, Nat.reduceEqDiff, not_false_eq_true]
                                            exact ⟨by first | rfl | trivial, hh⟩
                                    · try simp only [zwr_rne, zwr_req, upd_ne, upd_eq, ne_eq, Nat.reduceEqDiff, not_false_eq_true] at g90
                                      try omega
                                      all_goals
                                        try simp only [zwr_rne, zwr_req, upd_ne, upd_eq, ne_eq, Nat.reduceEqDiff, not_false_eq_true]
                                        refine ⟨by first | assumption | exact vin (by omega) | exact vp_in_I.mpr (by omega), ?_⟩
                                        refine zeq (fun g92 => ?_) (fun g92 => ?_)
                                        · try simp only [zwr_rne, zwr_req, upd_ne, upd_eq, ne_eq, Nat.reduceEqDiff, not_false_eq_true] at g92
                                          try omega
                                          all_goals
                                            try simp only [zwr_rne, zwr_req, upd_ne, upd_eq, ne_eq, Nat.reduceEqDiff, not_false_eq_true]
                                            refine ⟨by first | assumption | exact vin (by omega) | exact vp_in_I.mpr (by omega), ?_⟩
                                            refine ⟨by first | assumption | exact vin (by omega) | exact vp_in_I.mpr (by omega), ?_⟩
                                            refine zeq (fun g93 => ?_) (fun g93 => ?_)
                                            · try simp only [zwr_rne, zwr_req, upd_ne, upd_eq, ne_eq, Nat.reduceEqDiff, not_false_eq_true] at g93
                                              try omega
                                              all_goals
                                                try simp only [zwr_rne, zwr_req, upd_ne, upd_eq, ne_eq, Nat.reduceEqDiff, not_false_eq_true]
                                                refine ⟨by first | assumption | exact vin (by omega) | exact vp_in_I.mpr (by omega), ?_⟩
                                                refine zeq (fun g94 => ?_) (fun g94 => ?_)
                                                · try simp only [zwr_rne, zwr_req, upd_ne, upd_eq, ne_eq, Nat.reduceEqDiff, not_false_eq_true] at g94
                                                  try omega
                                                  all_goals
                                                    try simp only [zwr_rne, zwr_req, upd_ne, upd_eq, ne_eq, Nat.reduceEqDiff, not_false_eq_true]
                                                    refine ⟨by first | assumption | exact vin (by omega) | exact vp_in_I.mpr (by omega), ?_⟩
                                                    rintro _ rfl
                                                    try simp only [zwr_rne, zwr_req, upd_ne, upd_eq, ne_eq, Nat.reduceEqDiff, not_false_eq_true]
                                                    exfalso; omega
                                                    try simp only [zwr_rne, zwr_req, upd_ne, upd_eq, ne_eq, Nat.reduceEqDiff, not_false_eq_true]
                                                    exact ⟨by first | rfl | trivial, hh⟩
                                                · try simp only [zwr_rne, zwr_req, upd_ne, upd_eq, ne_eq, Nat.reduceEqDiff, not_false_eq_true] at g94
                                                  try omega
                                                  all_goals
                                                    try simp only [zwr_rne, zwr_req, upd_ne, upd_eq, ne_eq, Nat.reduceEqDiff, not_false_eq_true]
                                                    refine ⟨by first | assumption | exact vin (by omega) | exact vp_in_I.mpr (by omega), ?_⟩
                                                    rintro _ rfl
                                                    try simp only [zwr_rne, zwr_req, upd_ne, upd_eq, ne_eq, Nat.reduceEqDiff, not_false_eq_true]
                                                    exfalso; omega
                                                    try simp only [zwr_rne, zwr_req, upd_ne, upd_eq, ne_eq, Nat.reduceEqDiff, not_false_eq_true]
                                                    exact ⟨by first | rfl | trivial, hh⟩
                                            · try simp only [zwr_rne, zwr_req, upd_ne, upd_eq, ne_eq, Nat.reduceEqDiff, not_false_eq_true] at g93
                                              try omega
                                              all_goals
                                                try simp only [zwr_rne, zwr_req, upd_ne, upd_eq, ne_eq, Nat.reduceEqDiff, not_false_eq_true]
                                                exact ⟨by first | rfl | trivial, hh⟩
                                        · try simp only [zwr_rne, zwr_req, upd_ne, upd_eq, ne_eq, Nat.reduceEqDiff, not_false_eq_true] at g92
                                          try omega
                                          all_goals
                                            try simp only [zwr_rne, zwr_req, upd_ne, upd_eq, ne_eq, Nat.reduceEqDiff, not_false_eq_true]
                                            exact ⟨by first | rfl | trivial, hh⟩
                                · try simp only [zwr_rne, zwr_req, upd_ne, upd_eq, ne_eq, Nat.reduceEqDiff, not_false_eq_true] at g89
                                  try omega
                                  all_goals
                                    try simp only [zwr_rne, zwr_req, upd_ne, upd_eq, ne_eq, Nat.reduceEqDiff, not_false_eq_true]
                                    refine m_isClaim (by first | omega | (simp only [zwr_rne, zwr_req, upd_ne, upd_eq, ne_eq, Nat.reduceEqDiff, not_false_eq_true]; omega)) (fun g95 g95' => ?_) (fun g95 => ?_)
                                    · try simp only [zwr_rne, zwr_req, upd_ne, upd_eq, ne_eq, Nat.reduceEqDiff, not_false_eq_true] at g95
                                      try simp only [zwr_rne, zwr_req, upd_ne, upd_eq, ne_eq, Nat.reduceEqDiff, not_false_eq_true] at g95'
                                      try omega
                                      all_goals
                                        try simp only [one_ne, zero_eq, if_false, if_true, or_true, true_or, or_false, false_or]
                                        try simp only [zwr_rne, zwr_req, upd_ne, upd_eq, ne_eq, Nat.reduceEqDiff, not_false_eq_true]
                                        refine zeq (fun g96 => ?_) (fun g96 => ?_)
                                        · try simp only [zwr_rne, zwr_req, upd_ne, upd_eq, ne_eq, Nat.reduceEqDiff, not_false_eq_true] at g96
                                          try omega
                                          all_goals
                                            try simp only [zwr_rne, zwr_req, upd_ne, upd_eq, ne_eq, Nat.reduceEqDiff, not_false_eq_true]
                                            refine ⟨by first | assumption | exact vin (by omega) | exact vp_in_I.mpr (by omega), ?_⟩
                                            refine zeq (fun g97 => ?_) (fun g97 => ?_)
                                            · try simp only [zwr_rne, zwr_req, upd_ne, upd_eq, ne_eq, Nat.reduceEqDiff, not_false_eq_true] at g97
                                              try omega
                                              all_goals
                                                try simp only [zwr_rne, zwr_req, upd_ne, upd_eq, ne_eq, Nat.reduceEqDiff, not_false_eq_true]
                                                refine ⟨by first | assumption | exact vin (by omega) | exact vp_in_I.mpr (by omega), ?_⟩
                                                rintro _ rfl
                                                try simp only [zwr_rne, zwr_req, upd_ne, upd_eq, ne_eq, Nat.reduceEqDiff, not_false_eq_true]
                                                exfalso; omega
                                                try simp only [zwr_rne, zwr_req, upd_ne, upd_eq, ne_eq, Nat.reduceEqDiff, not_false_eq_true]
                                                exact ⟨by first | rfl | trivial, hh⟩
                                            · try simp only [zwr_rne, zwr_req, upd_ne, upd_eq, ne_eq, Nat.reduceEqDiff, not_false_eq_true] at g97
                                              try omega
                                              all_goals
                                                try simp only [zwr_rne, zwr_req, upd_ne, upd_eq, ne_eq, Nat.reduceEqDiff, not_false_eq_true]
                                                refine ⟨by first | assumption | exact vin (by omega) | exact vp_in_I.mpr (by omega), ?_⟩
                                                rintro _ rfl
                                                try simp only [zwr_rne, zwr_req, upd_ne, upd_eq, ne_eq, Nat.reduceEqDiff, not_false_eq_true]
                                                exfalso; omega
                                                try simp only [zwr_rne, zwr_req, upd_ne, upd_eq, ne_eq, Nat.reduceEqDiff, not_false_eq_true]
                                                exact ⟨by first | rfl | trivial, hh⟩
                                        · try simp only [zwr_rne, zwr_req, upd_ne, upd_eq, ne_eq, Nat.reduceEqDiff, not_false_eq_true] at g96
                                          try omega
                                          all_goals
                                            try simp only [zwr_rne, zwr_req, upd_ne, upd_eq, ne_eq, Nat.reduceEqDiff, not_false_eq_true]
                                            refine ⟨by first | assumption | exact vin (by omega) | exact vp_in_I.mpr (by omega), ?_⟩
                                            refine zeq (fun g98 => ?_) (fun g98 => ?_)
                                            · try simp only [zwr_rne, zwr_req, upd_ne, upd_eq, ne_eq, Nat.reduceEqDiff, not_false_eq_true] at g98
                                              try omega
                                              all_goals
                                                try simp only [zwr_rne, zwr_req, upd_ne, upd_eq, ne_eq, Nat.reduceEqDiff, not_false_eq_true]
                                                refine ⟨by first | assumption | exact vin (by omega) | exact vp_in_I.mpr (by omega), ?_⟩
                                                refine ⟨by first | assumption | exact vin (by omega) | exact vp_in_I.mpr (by omega), ?_⟩
                                                refine zeq (fun g99 => ?_) (fun g99 => ?_)
                                                · try simp only [zwr_rne, zwr_req, upd_ne, upd_eq, ne_eq, Nat.reduceEqDiff, not_false_eq_true] at g99
                                                  try omega
                                                  all_goals
                                                    try simp only [zwr_rne, zwr_req, upd_ne, upd_eq, ne_eq, Nat.reduceEqDiff, not_false_eq_true]
                                                    refine ⟨by first | assumption | exact vin (by omega) | exact vp_in_I.mpr (by omega), ?_⟩
                                                    refine zeq (fun g100 => ?_) (fun g100 => ?_)
                                                    · try simp only [zwr_rne, zwr_req, upd_ne, upd_eq, ne_eq, Nat.reduceEqDiff, not_false_eq_true] at g100
                                                      try omega
                                                      all_goals
                                                        try simp only [zwr_rne, zwr_req, upd_ne, upd_eq, ne_eq, Nat.reduceEqDiff, not_false_eq_true]
                                                        refine ⟨by first | assumption | exact vin (by omega) | exact vp_in_I.mpr (by omega), ?_⟩
                                                        rintro _ rfl
                                                        try simp only [zwr_rne, zwr_req, upd_ne, upd_eq, ne_eq, Nat.reduceEqDiff, not_false_eq_true]
                                                        exfalso; omega
                                                        try simp only [zwr_rne, zwr_req, upd_ne, upd_eq, ne_eq, Nat.reduceEqDiff, not_false_eq_true]
                                                        exact ⟨by first | rfl | trivial, hh⟩
                                                    · try simp only [zwr_rne, zwr_req, upd_ne, upd_eq, ne_eq, Nat.reduceEqDiff, not_false_eq_true] at g100
                                                      try omega
                                                      all_goals
                                                        try simp only [zwr_rne, zwr_req, upd_ne, upd_eq, ne_eq, Nat.reduceEqDiff, not_false_eq_true]
                                                        refine ⟨by first | assumption | exact vin (by omega) | exact vp_in_I.mpr (by omega), ?_⟩
                                                        rintro _ rfl
                                                        try simp only [zwr_rne, zwr_req, upd_ne, upd_eq, ne_eq, Nat.reduceEqDiff, not_false_eq_true]
                                                        exfalso; omega
                                                        try simp only [zwr_rne, zwr_req, upd_ne, upd_eq, ne_eq, Nat.reduceEqDiff, not_false_eq_true]
                                                        exact ⟨by first | rfl | trivial, hh⟩
                                                · try simp only [zwr_rne, zwr_req, upd_ne, upd_eq, ne_eq, Nat.reduceEqDiff, not_false_eq_true] at g99
                                                  try omega
                                                  all_goals
                                                    try simp only [zwr_rne, zwr_req, upd_ne, upd_eq, ne_eq, Nat.reduceEqDiff, not_false_eq_true]
                                                    exact ⟨by first | rfl | trivial, hh⟩
                                            · try simp only [zwr_rne, zwr_req, upd_ne, upd_eq, ne_eq, Nat.reduceEqDiff, not_false_eq_true] at g98
                                              try omega
                                              all_goals
                                                try simp only [zwr_rne, zwr_req, upd_ne, upd_eq, ne_eq, Nat.reduceEqDiff, not_false_eq_true]
                                                exact ⟨by first | rfl | trivial, hh⟩
                                    · try simp only [zwr_rne, zwr_req, upd_ne, upd_eq, ne_eq, Nat.reduceEqDiff, not_false_eq_true] at g95
                                      try omega
                                      all_goals
                                        try simp only [one_ne, zero_eq, if_false, if_true, or_true, true_or, or_false, false_or]
                                        try simp only [zwr_rne, zwr_req, upd_ne, upd_eq, ne_eq, Nat.reduceEqDiff, not_false_eq_true]
                                        exact ⟨by first | rfl | trivial, hh⟩
                            · try simp only [zwr_rne, zwr_req, upd_ne, upd_eq, ne_eq, Nat.reduceEqDiff, not_false_eq_true] at g88
                              try omega
                              all_goals
                                try simp only [one_ne, zero_eq, if_false, if_true, or_true, true_or, or_false, false_or]
                                try simp only [zwr_rne, zwr_req, upd_ne, upd_eq, ne_eq, Nat.reduceEqDiff, not_false_eq_true]
                                exact ⟨by first | rfl | trivial, hh⟩
                    · try simp only [zwr_rne, zwr_req, upd_ne, upd_eq, ne_eq, Nat.reduceEqDiff, not_false_eq_true] at g73
                      try omega
                      all_goals
                        refine en_X12_charge ?_
                        try simp only [zwr_rne, zwr_req, upd_ne, upd_eq, ne_eq, Nat.reduceEqDiff, not_false_eq_true]
                        refine m_isAsset (by first | omega | (simp only [zwr_rne, zwr_req, upd_ne, upd_eq, ne_eq, Nat.reduceEqDiff, not_false_eq_true]; omega)) (fun g101 g101' => ?_) (fun g101 => ?_)
                        · try simp only [zwr_rne, zwr_req, upd_ne, upd_eq, ne_eq, Nat.reduceEqDiff, not_false_eq_true] at g101
                          try simp only [zwr_rne, zwr_req, upd_ne, upd_eq, ne_eq, Nat.reduceEqDiff, not_false_eq_true] at g101'
                          try omega
                          all_goals
                            try simp only [one_ne, zero_eq, if_false, if_true, or_true, true_or, or_false, false_or]
                            try simp only [zwr_rne, zwr_req, upd_ne, upd_eq, ne_eq, Nat.reduceEqDiff, not_false_eq_true]
                            refine zeq (fun g102 => ?_) (fun g102 => ?_)
                            · try simp only [zwr_rne, zwr_req, upd_ne, upd_eq, ne_eq, Nat.reduceEqDiff, not_false_eq_true] at g102
                              try omega
                              all_goals
                                try simp only [zwr_rne, zwr_req, upd_ne, upd_eq, ne_eq, Nat.reduceEqDiff, not_false_eq_true]
                                refine zeq (fun g103 => ?_) (fun g103 => ?_)
                                · try simp only [zwr_rne, zwr_req, upd_ne, upd_eq, ne_eq, Nat.reduceEqDiff, not_false_eq_true] at g103
                                  try omega
                                  all_goals
                                    try simp only [zwr_rne, zwr_req, upd_ne, upd_eq, ne_eq, Nat.reduceEqDiff, not_false_eq_true]
                                    refine ⟨by first | assumption | exact vin (by omega) | exact vp_in_I.mpr (by omega), ?_⟩
                                    refine zeq (fun g104 => ?_) (fun g104 => ?_)
                                    · try simp only [zwr_rne, zwr_req, upd_ne, upd_eq, ne_eq, Nat.reduceEqDiff, not_false_eq_true] at g104
                                      try omega
                                      all_goals
                                        try simp only [zwr_rne, zwr_req, upd_ne, upd_eq, ne_eq, Nat.reduceEqDiff, not_false_eq_true]
                                        refine ⟨by first | assumption | exact vin (by omega) | exact vp_in_I.mpr (by omega), ?_⟩
                                        rintro _ rfl
                                        try simp only [zwr_rne, zwr_req, upd_ne, upd_eq, ne_eq, Nat.reduceEqDiff, not_false_eq_true]
                                        exfalso; omega
                                        try simp only [zwr_rne, zwr_req, upd_ne, upd_eq, ne_eq, Nat.reduceEqDiff, not_false_eq_true]
                                        exact ⟨by first | rfl | trivial, hh⟩
                                    · try simp only [zwr_rne, zwr_req, upd_ne, upd_eq, ne_eq, Nat.reduceEqDiff, not_false_eq_true] at g104
                                      try omega
                                      all_goals
                                        try simp only [zwr_rne, zwr_req, upd_ne, upd_eq, ne_eq, Nat.reduceEqDiff, not_false_eq_true]
                                        refine ⟨by first | assumption | exact vin (by omega) | exact vp_in_I.mpr (by omega), ?_⟩
                                        rintro _ rfl
                                        try simp only [zwr_rne, zwr_req, upd_ne, upd_eq, ne_eq, Nat.reduceEqDiff, not_false_eq_true]
                                        exfalso; omega
                                        try simp only [zwr_rne, zwr_req, upd_ne, upd_eq, ne_eq, Nat.reduceEqDiff, not_false_eq_true]
                                        exact ⟨by first | rfl | trivial, hh⟩
                                · try simp only [zwr_rne, zwr_req, upd_ne, upd_eq, ne_eq, Nat.reduceEqDiff, not_false_eq_true] at g103
                                  try omega
                                  all_goals
                                    try simp only [zwr_rne, zwr_req, upd_ne, upd_eq, ne_eq, Nat.reduceEqDiff, not_false_eq_true]
                                    refine ⟨by first | assumption | exact vin (by omega) | exact vp_in_I.mpr (by omega), ?_⟩
                                    refine zeq (fun g105 => ?_) (fun g105 => ?_)
                                    · try simp only [zwr_rne, zwr_req, upd_ne, upd_eq, ne_eq, Nat.reduceEqDiff, not_false_eq_true] at g105
                                      try omega
                                      all_goals
                                        try simp only [zwr_rne, zwr_req, upd_ne, upd_eq, ne_eq, Nat.reduceEqDiff, not_false_eq_true]
                                        refine ⟨by first | assumption | exact vin (by omega) | exact vp_in_I.mpr (by omega), ?_⟩
                                        refine ⟨by first | assumption | exact vin (by omega) | exact vp_in_I.mpr (by omega), ?_⟩
                                        refine zeq (fun g106 => ?_) (fun g106 => ?_)
                                        · try simp only [zwr_rne, zwr_req, upd_ne, upd_eq, ne_eq, Nat.reduceEqDiff, not_false_eq_true] at g106
                                          try omega
                                          all_goals
                                            try simp only [zwr_rne, zwr_req, upd_ne, upd_eq, ne_eq, Nat.reduceEqDiff, not_false_eq_true]
                                            refine ⟨by first | assumption | exact vin (by omega) | exact vp_in_I.mpr (by omega), ?_⟩
                                            refine zeq (fun g107 => ?_) (fun g107 => ?_)
                                            · try simp only [zwr_rne, zwr_req, upd_ne, upd_eq, ne_eq, Nat.reduceEqDiff, not_false_eq_true] at g107
                                              try omega
                                              all_goals
                                                try simp only [zwr_rne, zwr_req, upd_ne, upd_eq, ne_eq, Nat.reduceEqDiff, not_false_eq_true]
                                                refine ⟨by first | assumption | exact vin (by omega) | exact vp_in_I.mpr (by omega), ?_⟩
                                                rintro _ rfl
                                                try simp only [zwr_rne, zwr_req, upd_ne, upd_eq, ne_eq, Nat.reduceEqDiff, not_false_eq_true]
                                                exfalso; omega
                                                try simp only [zwr_rne, zwr_req, upd_ne, upd_eq, ne_eq, Nat.reduceEqDiff, not_false_eq_true]
                                                exact ⟨by first | rfl | trivial, hh⟩
                                            · try simp only [zwr_rne, zwr_req, upd_ne, upd_eq, ne_eq, Nat.reduceEqDiff, not_false_eq_true] at g107
                                              try omega
                                              all_goals
                                                try simp only [zwr_rne, zwr_req, upd_ne, upd_eq, ne_eq, Nat.reduceEqDiff, not_false_eq_true]
                                                refine ⟨by first | assumption | exact vin (by omega) | exact vp_in_I.mpr (by omega), ?_⟩
                                                rintro _ rfl
                                                try simp only [zwr_rne, zwr_req, upd_ne, upd_eq, ne_eq, Nat.reduceEqDiff, not_false_eq_true]
                                                exfalso; omega
                                                try simp only [zwr_rne, zwr_req, upd_ne, upd_eq, ne_eq, Nat.reduceEqDiff, not_false_eq_true]
                                                exact ⟨by first | rfl | trivial, hh⟩
                                        · try simp only [zwr_rne, zwr_req, upd_ne, upd_eq, ne_eq, Nat.reduceEqDiff, not_false_eq_true] at g106
                                          try omega
                                          all_goals
                                            try simp only [zwr_rne, zwr_req, upd_ne, upd_eq, ne_eq, Nat.reduceEqDiff, not_false_eq_true]
                                            exact ⟨by first | rfl | trivial, hh⟩
                                    · try simp only [zwr_rne, zwr_req, upd_ne, upd_eq, ne_eq, Nat.reduceEqDiff, not_false_eq_true] at g105
                                      try omega
                                      all_goals
                                        try simp only [zwr_rne, zwr_req, upd_ne, upd_eq, ne_eq, Nat.reduceEqDiff, not_false_eq_true]
                                        exact ⟨by first | rfl | trivial, hh⟩
                            · try simp only [zwr_rne, zwr_req, upd_ne, upd_eq, ne_eq, Nat.reduceEqDiff, not_false_eq_true] at g102
                              try omega
                              all_goals
                                try simp only [zwr_rne, zwr_req, upd_ne, upd_eq, ne_eq, Nat.reduceEqDiff, not_false_eq_true]
                                refine m_isClaim (by first | omega | (simp only [zwr_rne, zwr_req, upd_ne, upd_eq, ne_eq, Nat.reduceEqDiff, not_false_eq_true]; omega)) (fun g108 g108' => ?_) (fun g108 => ?_)
                                · try simp only [zwr_rne, zwr_req, upd_ne, upd_eq, ne_eq, Nat.reduceEqDiff, not_false_eq_true] at g108
                                  try simp only [zwr_rne, zwr_req, upd_ne, upd_eq, ne_eq, Nat.reduceEqDiff, not_false_eq_true] at g108'
                                  try omega
                                  all_goals
                                    try simp only [one_ne, zero_eq, if_false, if_true, or_true, true_or, or_false, false_or]
                                    try simp only [zwr_rne, zwr_req, upd_ne, upd_eq, ne_eq, Nat.reduceEqDiff, not_false_eq_true]
                                    refine zeq (fun g109 => ?_) (fun g109 => ?_)
                                    · try simp only [zwr_rne, zwr_req, upd_ne, upd_eq, ne_eq, Nat.reduceEqDiff, not_false_eq_true] at g109
                                      try omega
                                      all_goals
                                        try simp only [zwr_rne, zwr_req, upd_ne, upd_eq, ne_eq, Nat.reduceEqDiff, not_false_eq_true]
                                        refine ⟨by first | assumption | exact vin (by omega) | exact vp_in_I.mpr (by omega), ?_⟩
                                        refine zeq (fun g110 => ?_) (fun g110 => ?_)
                                        · try simp only [zwr_rne, zwr_req, upd_ne, upd_eq, ne_eq, Nat.reduceEqDiff, not_false_eq_true] at g110
                                          try omega
                                          all_goals
                                            try simp only [zwr_rne, zwr_req, upd_ne, upd_eq, ne_eq, Nat.reduceEqDiff, not_false_eq_true]
                                            refine ⟨by first | assumption | exact vin (by omega) | exact vp_in_I.mpr (by omega), ?_⟩
                                            rintro _ rfl
                                            try simp only [zwr_rne, zwr_req, upd_ne, upd_eq, ne_eq, Nat.reduceEqDiff, not_false_eq_true]
                                            exfalso; omega
                                            try simp only [zwr_rne, zwr_req, upd_ne, upd_eq, ne_eq, Nat.reduceEqDiff, not_false_eq_true]
                                            exact ⟨by first | rfl | trivial, hh⟩
                                        · try simp only [zwr_rne, zwr_req, upd_ne, upd_eq, ne_eq, Nat.reduceEqDiff, not_false_eq_true] at g110
                                          try omega
                                          all_goals
                                            try simp only [zwr_rne, zwr_req, upd_ne, upd_eq, ne_eq, Nat.reduceEqDiff, not_false_eq_true]
                                            refine ⟨by first | assumption | exact vin (by omega) | exact vp_in_I.mpr (by omega), ?_⟩
                                            rintro _ rfl
                                            try simp only [zwr_rne, zwr_req, upd_ne, upd_eq, ne_eq, Nat.reduceEqDiff, not_false_eq_true]
                                            exfalso; omega
                                            try simp only [zwr_rne, zwr_req, upd_ne, upd_eq, ne_eq, Nat.reduceEqDiff, not_false_eq_true]
                                            exact ⟨by first | rfl | trivial, hh⟩
                                    · try simp only [zwr_rne, zwr_req, upd_ne, upd_eq, ne_eq, Nat.reduceEqDiff, not_false_eq_true] at g109
                                      try omega
                                      all_goals
                                        try simp only [zwr_rne, zwr_req, upd_ne, upd_eq, ne_eq, Nat.reduceEqDiff, not_false_eq_true]
                                        refine ⟨by first | assumption | exact vin (by omega) | exact vp_in_I.mpr (by omega), ?_⟩
                                        refine zeq (fun g111 => ?_) (fun g111 => ?_)
                                        · try simp only [zwr_rne, zwr_req, upd_ne, upd_eq, ne_eq, Nat.reduceEqDiff, not_false_eq_true] at g111
                                          try omega
                                          all_goals
                                            try simp only [zwr_rne, zwr_req, upd_ne, upd_eq, ne_eq, Nat.reduceEqDiff, not_false_eq_true]
                                            refine ⟨by first | assumption | exact vin (by omega) | exact vp_in_I.mpr (by omega), ?_⟩
                                            refine ⟨by first | assumption | exact vin (by omega) | exact vp_in_I.mpr (by omega), ?_⟩
                                            refine zeq (fun g112 => ?_) (fun g112 => ?_)
                                            · try simp only [zwr_rne, zwr_req, upd_ne, upd_eq, ne_eq, Nat.reduceEqDiff, not_false_eq_true] at g112
                                              try omega
                                              all_goals
                                                try simp only [zwr_rne, zwr_req, upd_ne, upd_eq, ne_eq, Nat.reduceEqDiff, not_false_eq_true]
                                                refine ⟨by first | assumption | exact vin (by omega) | exact vp_in_I.mpr (by omega), ?_⟩
                                                refine zeq (fun g113 => ?_) (fun g113 => ?_)
                                                · try simp only [zwr_rne, zwr_req, upd_ne, upd_eq, ne_eq, Nat.reduceEqDiff, not_false_eq_true] at g113
                                                  try omega
                                                  all_goals
                                                    try simp only [zwr_rne, zwr_req, upd_ne, upd_eq, ne_eq, Nat.reduceEqDiff, not_false_eq_true]
                                                    refine ⟨by first | assumption | exact vin (by omega) | exact vp_in_I.mpr (by omega), ?_⟩
                                                    rintro _ rfl
                                                    try simp only [zwr_rne, zwr_req, upd_ne, upd_eq, ne_eq, Nat.reduceEqDiff, not_false_eq_true]
                                                    exfalso; omega
                                                    try simp only [zwr_rne, zwr_req, upd_ne, upd_eq, ne_eq, Nat.reduceEqDiff, not_false_eq_true]
                                                    exact ⟨by first | rfl | trivial, hh⟩
                                                · try simp only [zwr_rne, zwr_req, upd_ne, upd_eq, ne_eq, Nat.reduceEqDiff, not_false_eq_true] at g113
                                                  try omega
                                                  all_goals
                                                    try simp only [zwr_rne, zwr_req, upd_ne, upd_eq, ne_eq, Nat.reduceEqDiff, not_false_eq_true]
                                                    refine ⟨by first | assumption | exact vin (by omega) | exact vp_in_I.mpr (by omega), ?_⟩
                                                    rintro _ rfl
                                                    try simp only [zwr_rne, zwr_req, upd_ne, upd_eq, ne_eq, Nat.reduceEqDiff, not_false_eq_true]
                                                    exfalso; omega
                                                    try simp only [zwr_rne, zwr_req, upd_ne, upd_eq, ne_eq, Nat.reduceEqDiff, not_false_eq_true]
                                                    exact ⟨by first | rfl | trivial, hh⟩
                                            · try simp only [zwr_rne, zwr_req, upd_ne, upd_eq, ne_eq, Nat.reduceEqDiff, not_false_eq_true] at g112
                                              try omega
                                              all_goals
                                                try simp only [zwr_rne, zwr_req, upd_ne, upd_eq, ne_eq, Nat.reduceEqDiff, not_false_eq_true]
                                                exact ⟨by first | rfl | trivial, hh⟩
                                        · try simp only [zwr_rne, zwr_req, upd_ne, upd_eq, ne_eq, Nat.reduceEqDiff, not_false_eq_true] at g111
                                          try omega
                                          all_goals
                                            try simp only [zwr_rne, zwr_req, upd_ne, upd_eq, ne_eq, Nat.reduceEqDiff, not_false_eq_true]
                                            exact ⟨by first | rfl | trivial, hh⟩
                                · try simp only [zwr_rne, zwr_req, upd_ne, upd_eq, ne_eq, Nat.reduceEqDiff, not_false_eq_true] at g108
                                  try omega
                                  all_goals
                                    try simp only [one_ne, zero_eq, if_false, if_true, or_true, true_or, or_false, false_or]
                                    try simp only [zwr_rne, zwr_req, upd_ne, upd_eq, ne_eq, Nat.reduceEqDiff, not_false_eq_true]
                                    exact ⟨by first | rfl | trivial, hh⟩
                        · try simp only [zwr_rne, zwr_req, upd_ne, upd_eq, ne_eq, Nat.reduceEqDiff, not_false_eq_true] at g101
                          try omega
                          all_goals
                            try simp only [one_ne, zero_eq, if_false, if_true, or_true, true_or, or_false, false_or]
                            try simp only [zwr_rne, zwr_req, upd_ne, upd_eq, ne_eq, Nat.reduceEqDiff, not_false_eq_true]
                            exact ⟨by first | rfl | trivial, hh⟩
            · try simp only [zwr_rne, zwr_req, upd_ne, upd_eq, ne_eq, Nat.reduceEqDiff, not_false_eq_true] at g58
              try omega
              all_goals
                try simp only [one_ne, zero_eq, if_false, if_true, or_true, true_or, or_false, false_or]
                refine en_X12_charge ?_
                try simp only [zwr_rne, zwr_req, upd_ne, upd_eq, ne_eq, Nat.reduceEqDiff, not_false_eq_true]
                refine m_isAsset (by first | omega | (simp only [zwr_rne, zwr_req, upd_ne, upd_eq, ne_eq, Nat.reduceEqDiff, not_false_eq_true]; omega)) (fun g114 g114' => ?_) (fun g114 => ?_)
                · try simp only [zwr_rne, zwr_req, upd_ne, upd_eq, ne_eq, Nat.reduceEqDiff, not_false_eq_true] at g114
                  try simp only [zwr_rne, zwr_req, upd_ne, upd_eq, ne_eq, Nat.reduceEqDiff, not_false_eq_true] at g114'
                  try omega
                  all_goals
                    try simp only [one_ne, zero_eq, if_false, if_true, or_true, true_or, or_false, false_or]
                    try simp only [zwr_rne, zwr_req, upd_ne, upd_eq, ne_eq, Nat.reduceEqDiff, not_false_eq_true]
                    refine zeq (fun g115 => ?_) (fun g115 => ?_)
                    · try simp only [zwr_rne, zwr_req, upd_ne, upd_eq, ne_eq, Nat.reduceEqDiff, not_false_eq_true] at g115
                      try omega
                      all_goals
                        try simp only [zwr_rne, zwr_req, upd_ne, upd_eq, ne_eq, Nat.reduceEqDiff, not_false_eq_true]
                        refine zeq (fun g116 => ?_) (fun g116 => ?_)
                        · try simp only [zwr_rne, zwr_req, upd_ne, upd_eq, ne_eq, Nat.reduceEqDiff, not_false_eq_true] at g116
                          try omega
                          all_goals
                            try simp only [zwr_rne, zwr_req, upd_ne, upd_eq, ne_eq, Nat.reduceEqDiff, not_false_eq_true]
                            refine ⟨by first | assumption | exact vin (by omega) | exact vp_in_I.mpr (by omega), ?_⟩
                            refine zeq (fun g117 => ?_) (fun g117 => ?_)
                            · try simp only [zwr_rne, zwr_req, upd_ne, upd_eq, ne_eq, Nat.reduceEqDiff, not_false_eq_true] at g117
                              try omega
                              all_goals
                                try simp only [zwr_rne, zwr_req, upd_ne, upd_eq, ne_eq, Nat.reduceEqDiff, not_false_eq_true]
                                refine ⟨by first | assumption | exact vin (by omega) | exact vp_in_I.mpr (by omega), ?_⟩
                                rintro _ rfl
                                try simp only [zwr_rne, zwr_req, upd_ne, upd_eq, ne_eq, Nat.reduceEqDiff, not_false_eq_true]
                                exfalso; omega
                                try simp only [zwr_rne, zwr_req, upd_ne, upd_eq, ne_eq, Nat.reduceEqDiff, not_false_eq_true]
                                exact ⟨by first | rfl | trivial, hh⟩
                            · try simp only [zwr_rne, zwr_req, upd_ne, upd_eq, ne_eq, Nat.reduceEqDiff, not_false_eq_true] at g117
                              try omega
                              all_goals
                                try simp only [zwr_rne, zwr_req, upd_ne, upd_eq, ne_eq, Nat.reduceEqDiff, not_false_eq_true]
                                refine ⟨by first | assumption | exact vin (by omega) | exact vp_in_I.mpr (by omega), ?_⟩
                                rintro _ rfl
                                try simp only [zwr_rne, zwr_req, upd_ne, upd_eq, ne_eq, Nat.reduceEqDiff, not_false_eq_true]
                                exfalso; omega
                                try simp only [zwr_rne, zwr_req, upd_ne, upd_eq, ne_eq, Nat.reduceEqDiff, not_false_eq_true]
                                exact ⟨by first | rfl | trivial, hh⟩
                        · try simp only [zwr_rne, zwr_req, upd_ne, upd_eq, ne_eq, Nat.reduceEqDiff, not_false_eq_true] at g116
                          try omega
                          all_goals
                            try simp only [zwr_rne, zwr_req, upd_ne, upd_eq, ne_eq, Nat.reduceEqDiff, not_false_eq_true]
                            refine ⟨by first | assumption | exact vin (by omega) | exact vp_in_I.mpr (by omega), ?_⟩
                            refine zeq (fun g118 => ?_) (fun g118 => ?_)
                            · try simp only [zwr_rne, zwr_req, upd_ne, upd_eq, ne_eq, Nat.reduceEqDiff, not_false_eq_true] at g118
                              try omega
                              all_goals
                                try simp only [zwr_rne, zwr_req, upd_ne, upd_eq, ne_eq, Nat.reduceEqDiff, not_false_eq_true]
                                refine ⟨by first | assumption | exact vin (by omega) | exact vp_in_I.mpr (by omega), ?_⟩
                                refine ⟨by first | assumption | exact vin (by omega) | exact vp_in_I.mpr (by omega), ?_⟩
                                refine zeq (fun g119 => ?_) (fun g119 => ?_)
                                · try simp only [zwr_rne, zwr_req, upd_ne, upd_eq, ne_eq, Nat.reduceEqDiff, not_false_eq_true] at g119
                                  try omega
                                  all_goals
                                    try simp only [zwr_rne, zwr_req, upd_ne, upd_eq, ne_eq, Nat.reduceEqDiff, not_false_eq_true]
                                    refine ⟨by first | assumption | exact vin (by omega) | exact vp_in_I.mpr (by omega), ?_⟩
                                    refine zeq (fun g120 => ?_) (fun g120 => ?_)
                                    · try simp only [zwr_rne, zwr_req, upd_ne, upd_eq, ne_eq, Nat.reduceEqDiff, not_false_eq_true] at g120
                                      try omega
                                      all_goals
                                        try simp only [zwr_rne, zwr_req, upd_ne, upd_eq, ne_eq, Nat.reduceEqDiff, not_false_eq_true]
                                        refine ⟨by first | assumption | exact vin (by omega) | exact vp_in_I.mpr (by omega), ?_⟩
                                        rintro _ rfl
                                        try simp only [zwr_rne, zwr_req, upd_ne, upd_eq, ne_eq, Nat.reduceEqDiff, not_false_eq_true]
                                        exfalso; omega
                                        try simp only [zwr_rne, zwr_req, upd_ne, upd_eq, ne_eq, Nat.reduceEqDiff, not_false_eq_true]
                                        exact ⟨by first | rfl | trivial, hh⟩
                                    · try simp only [zwr_rne, zwr_req, upd_ne, upd_eq, ne_eq, Nat.reduceEqDiff, not_false_eq_true] at g120
                                      try omega
                                      all_goals
                                        try simp only [zwr_rne, zwr_req, upd_ne, upd_eq, ne_eq, Nat.reduceEqDiff, not_false_eq_true]
                                        refine ⟨by first | assumption | exact vin (by omega) | exact vp_in_I.mpr (by omega), ?_⟩
                                        rintro _ rfl
                                        try simp only [zwr_rne, zwr_req, upd_ne, upd_eq, ne_eq, Nat.reduceEqDiff, not_false_eq_true]
                                        exfalso; omega
                                        try simp only [zwr_rne, zwr_req, upd_ne, upd_eq, ne_eq, Nat.reduceEqDiff, not_false_eq_true]
                                        exact ⟨by first | rfl | trivial, hh⟩
                                · try simp only [zwr_rne, zwr_req, upd_ne, upd_eq, ne_eq, Nat.reduceEqDiff, not_false_eq_true] at g119
                                  try omega
                                  all_goals
                                    try simp only [zwr_rne, zwr_req, upd_ne, upd_eq, ne_eq, Nat.reduceEqDiff, not_false_eq_true]
                                    exact ⟨by first | rfl | trivial, hh⟩
                            · try simp only [zwr_rne, zwr_req, upd_ne, upd_eq, ne_eq, Nat.reduceEqDiff, not_false_eq_true] at g118
                              try omega
                              all_goals
                                try simp only [zwr_rne, zwr_req, upd_ne, upd_eq, ne_eq, Nat.reduceEqDiff, not_false_eq_true]
                                exact ⟨by first | rfl | trivial, hh⟩
                    · try simp only [zwr_rne, zwr_req, upd_ne, upd_eq, ne_eq, Nat.reduceEqDiff, not_false_eq_true] at g115
                      try omega
                      all_goals
                        try simp only [zwr_rne, zwr_req, upd_ne, upd_eq, ne_eq, Nat.reduceEqDiff, not_false_eq_true]
                        refine m_isClaim (by first | omega | (simp only [zwr_rne, zwr_req, upd_ne, upd_eq, ne_eq, Nat.reduceEqDiff, not_false_eq_true]; omega)) (fun g121 g121' => ?_) (fun g121 => ?_)
                        · try simp only [zwr_rne, zwr_req, upd_ne, upd_eq, ne_eq, Nat.reduceEqDiff, not_false_eq_true] at g121
                          try simp only [zwr_rne, zwr_req, upd_ne, upd_eq, ne_eq, Nat.reduceEqDiff, not_false_eq_true] at g121'
                          try omega
                          all_goals
                            try simp only [one_ne, zero_eq, if_false, if_true, or_true, true_or, or_false, false_or]
                            try simp only [zwr_rne, zwr_req, upd_ne, upd_eq, ne_eq, Nat.reduceEqDiff, not_false_eq_true]
                            refine zeq (fun g122 => ?_) (fun g122 => ?_)
                            · try simp only [zwr_rne, zwr_req, upd_ne, upd_eq, ne_eq, Nat.reduceEqDiff, not_false_eq_true] at g122
                              try omega
                              all_goals
                                try simp only [zwr_rne, zwr_req, upd_ne, upd_eq, ne_eq, Nat.reduceEqDiff, not_false_eq_true]
                                refine ⟨by first | assumption | exact vin (by omega) | exact vp_in_I.mpr (by omega), ?_⟩
                                refine zeq (fun g123 => ?_) (fun g123 => ?_)
                                · try simp only [zwr_rne, zwr_req, upd_ne, upd_eq, ne_eq, Nat.reduceEqDiff, not_false_eq_true] at g123
                                  try omega
                                  all_goals
                                    try simp only [zwr_rne, zwr_req, upd_ne, upd_eq, ne_eq, Nat.reduceEqDiff, not_false_eq_true]
                                    refine ⟨by first | assumption | exact vin (by omega) | exact vp_in_I.mpr (by omega), ?_⟩
                                    rintro _ rfl
                                    try simp only [zwr_rne, zwr_req, upd_ne, upd_eq, ne_eq, Nat.reduceEqDiff, not_false_eq_true]
                                    exfalso; omega
                                    try simp only [zwr_rne, zwr_req, upd_ne, upd_eq, ne_eq, Nat.reduceEqDiff, not_false_eq_true]
                                    exact ⟨by first | rfl | trivial, hh⟩
                                · try simp only [zwr_rne, zwr_req, upd_ne, upd_eq, ne_eq, Nat.reduceEqDiff, not_false_eq_true] at g123
                                  try omega
                                  all_goals
                                    try simp only [zwr_rne, zwr_req, upd_ne, upd_eq, ne_eq, Nat.reduceEqDiff, not_false_eq_true]
                                    refine ⟨by first | assumption | exact vin (by omega) | exact vp_in_I.mpr (by omega), ?_⟩
                                    rintro _ rfl
                                    try simp only [zwr_rne, zwr_req, upd_ne, upd_eq, ne_eq, Nat.reduceEqDiff, not_false_eq_true]
                                    exfalso; omega
                                    try simp only [zwr_rne, zwr_req, upd_ne, upd_eq, ne_eq, Nat.reduceEqDiff, not_false_eq_true]
                                    exact ⟨by first | rfl | trivial, hh⟩
                            · try simp only [zwr_rne, zwr_req, upd_ne, upd_eq, ne_eq, Nat.reduceEqDiff, not_false_eq_true] at g122
                              try omega
                              all_goals
                                try simp only [zwr_rne, zwr_req, upd_ne, upd_eq, ne_eq, Nat.reduceEqDiff, not_false_eq_true]
                                refine ⟨by first | assumption | exact vin (by omega) | exact vp_in_I.mpr (by omega), ?_⟩
                                refine zeq (fun g124 => ?_) (fun g124 => ?_)
                                · try simp only [zwr_rne, zwr_req, upd_ne, upd_eq, ne_eq, Nat.reduceEqDiff, not_false_eq_true] at g124
                                  try omega
                                  all_goals
                                    try simp only [zwr_rne, zwr_req, upd_ne, upd_eq, ne_eq, Nat.reduceEqDiff, not_false_eq_true]
                                    refine ⟨by first | assumption | exact vin (by omega) | exact vp_in_I.mpr (by omega), ?_⟩
                                    refine ⟨by first | assumption | exact vin (by omega) | exact vp_in_I.mpr (by omega), ?_⟩
                                    refine zeq (fun g125 => ?_) (fun g125 => ?_)
                                    · try simp only [zwr_rne, zwr_req, upd_ne, upd_eq, ne_eq, Nat.reduceEqDiff, not_false_eq_true] at g125
                                      try omega
                                      all_goals
                                        try simp only [zwr_rne, zwr_req, upd_ne, upd_eq, ne_eq, Nat.reduceEqDiff, not_false_eq_true]
                                        refine ⟨by first | assumption | exact vin (by omega) | exact vp_in_I.mpr (by omega), ?_⟩
                                        refine zeq (fun g126 => ?_) (fun g126 => ?_)
                                        · try simp only [zwr_rne, zwr_req, upd_ne, upd_eq, ne_eq, Nat.reduceEqDiff, not_false_eq_true] at g126
                                          try omega
                                          all_goals
                                            try simp only [zwr_rne, zwr_req, upd_ne, upd_eq, ne_eq, Nat.reduceEqDiff, not_false_eq_true]
                                            refine ⟨by first | assumption | exact vin (by omega) | exact vp_in_I.mpr (by omega), ?_⟩
                                            rintro _ rfl
                                            try simp only [zwr_rne, zwr_req, upd_ne, upd_eq, ne_eq, Nat.reduceEqDiff, not_false_eq_true]
                                            exfalso; omega
                                            try simp only [zwr_rne, zwr_req, upd_ne, upd_eq, ne_eq, Nat.reduceEqDiff, not_false_eq_true]
                                            exact ⟨by first | rfl | trivial, hh⟩
                                        · try simp only [zwr_rne, zwr_req, upd_ne, upd_eq, ne_eq, Nat.reduceEqDiff, not_false_eq_true] at g126
                                          try omega
                                          all_goals
                                            try simp only [zwr_rne, zwr_req, upd_ne, upd_eq, ne_eq, Nat.reduceEqDiff, not_false_eq_true]
                                            refine ⟨by first | assumption | exact vin (by omega) | exact vp_in_I.mpr (by omega), ?_⟩
                                            rintro _ rfl
                                            try simp only [zwr_rne, zwr_req, upd_ne, upd_eq, ne_eq, Nat.reduceEqDiff, not_false_eq_true]
                                            exfalso; omega
                                            try simp only [zwr_rne, zwr_req, upd_ne, upd_eq, ne_eq, Nat.reduceEqDiff, not_false_eq_true]
                                            exact ⟨by first | rfl | trivial, hh⟩
                                    · try simp only [zwr_rne, zwr_req, upd_ne, upd_eq, ne_eq, Nat.reduceEqDiff, not_false_eq_true] at g125
                                      try omega
                                      all_goals
                                        try simp only [zwr_rne, zwr_req, upd_ne, upd_eq, ne_eq, Nat.reduceEqDiff, not_false_eq_true]
                                        exact ⟨by first | rfl | trivial, hh⟩
                                · try simp only [zwr_rne, zwr_req, upd_ne, upd_eq, ne_eq, Nat.reduceEqDiff, not_false_eq_true] at g124
                                  try omega
                                  all_goals
                                    try simp only [zwr_rne, zwr_req, upd_ne, upd_eq, ne_eq, Nat.reduceEqDiff, not_false_eq_true]
                                    exact ⟨by first | rfl | trivial, hh⟩
                        · try simp only [zwr_rne, zwr_req, upd_ne, upd_eq, ne_eq, Nat.reduceEqDiff, not_false_eq_true] at g121
                          try omega
                          all_goals
                            try simp only [one_ne, zero_eq, if_false, if_true, or_true, true_or, or_false, false_or]
                            try simp only [zwr_rne, zwr_req, upd_ne, upd_eq, ne_eq, Nat.reduceEqDiff, not_false_eq_true]
                            exact ⟨by first | rfl | trivial, hh⟩
                · try simp only [zwr_rne, zwr_req, upd_ne, upd_eq, ne_eq, Nat.reduceEqDiff, not_false_eq_true] at g114
                  try omega
                  all_goals
                    try simp only [one_ne, zero_eq, if_false, if_true, or_true, true_or, or_false, false_or]
                    try simp only [zwr_rne, zwr_req, upd_ne, upd_eq, ne_eq, Nat.reduceEqDiff, not_false_eq_true]
                    exact ⟨by first | rfl | trivial, hh⟩
    · try simp only [zwr_rne, zwr_req, upd_ne, upd_eq, ne_eq, Nat.reduceEqDiff, not_false_eq_true] at g1
      try omega
      all_goals
        try simp only [one_ne, zero_eq, if_false, if_true, or_true, true_or, or_false, false_or]
        refine en_X12_charge ?_
        try simp only [zwr_rne, zwr_req, upd_ne, upd_eq, ne_eq, Nat.reduceEqDiff, not_false_eq_true]
        refine m_isAsset (by first | omega | (simp only [zwr_rne, zwr_req, upd_ne, upd_eq, ne_eq, Nat.reduceEqDiff, not_false_eq_true]; omega)) (fun g127 g127' => ?_) (fun g127 => ?_)
        · try simp only [zwr_rne, zwr_req, upd_ne, upd_eq, ne_eq, Nat.reduceEqDiff, not_false_eq_true] at g127
          try simp only [zwr_rne, zwr_req, upd_ne, upd_eq, ne_eq, Nat.reduceEqDiff, not_false_eq_true] at g127'
          try omega
          all_goals
            try simp only [one_ne, zero_eq, if_false, if_true, or_true, true_or, or_false, false_or]
            try simp only [zwr_rne, zwr_req, upd_ne, upd_eq, ne_eq, Nat.reduceEqDiff, not_false_eq_true]
            refine zeq (fun g128 => ?_) (fun g128 => ?_)
            · try simp only [zwr_rne, zwr_req, upd_ne, upd_eq, ne_eq, Nat.reduceEqDiff, not_false_eq_true] at g128
              try omega
              all_goals
                try simp only [zwr_rne, zwr_req, upd_ne, upd_eq, ne_eq, Nat.reduceEqDiff, not_false_eq_true]
                refine zeq (fun g129 => ?_) (fun g129 => ?_)
                · try simp only [zwr_rne, zwr_req, upd_ne, upd_eq, ne_eq, Nat.reduceEqDiff, not_false_eq_true] at g129
                  try omega
                  all_goals
                    try simp only [zwr_rne, zwr_req, upd_ne, upd_eq, ne_eq, Nat.reduceEqDiff, not_false_eq_true]
                    refine ⟨by first | assumption | exact vin (by omega) | exact vp_in_I.mpr (by omega), ?_⟩
                    refine zeq (fun g130 => ?_) (fun g130 => ?_)
                    · try simp only [zwr_rne, zwr_req, upd_ne, upd_eq, ne_eq, Nat.reduceEqDiff, not_false_eq_true] at g130
                      try omega
                      all_goals
                        try simp only [zwr_rne, zwr_req, upd_ne, upd_eq, ne_eq, Nat.reduceEqDiff, not_false_eq_true]
                        refine ⟨by first | assumption | exact vin (by omega) | exact vp_in_I.mpr (by omega), ?_⟩
                        rintro _ rfl
                        try simp only [zwr_rne, zwr_req, upd_ne, upd_eq, ne_eq, Nat.reduceEqDiff, not_false_eq_true]
                        exfalso; omega
                        try simp only [zwr_rne, zwr_req, upd_ne, upd_eq, ne_eq, Nat.reduceEqDiff, not_false_eq_true]
                        exact ⟨by first | rfl | trivial, hh⟩
                    · try simp only [zwr_rne, zwr_req, upd_ne, upd_eq, ne_eq, Nat.reduceEqDiff, not_false_eq_true] at g130
                      try omega
                      all_goals
                        try simp only [zwr_rne, zwr_req, upd_ne, upd_eq, ne_eq, Nat.reduceEqDiff, not_false_eq_true]
                        refine ⟨by first | assumption | exact vin (by omega) | exact vp_in_I.mpr (by omega), ?_⟩
                        rintro _ rfl
                        try simp only [zwr_rne, zwr_req, upd_ne, upd_eq, ne_eq, Nat.reduceEqDiff, not_false_eq_true]
                        exfalso; omega
                        try simp only [zwr_rne, zwr_req, upd_ne, upd_eq, ne_eq, Nat.reduceEqDiff, not_false_eq_true]
                        exact ⟨by first | rfl | trivial, hh⟩
                · try simp only [zwr_rne, zwr_req, upd_ne, upd_eq, ne_eq, Nat.reduceEqDiff, not_false_eq_true] at g129
                  try omega
                  all_goals
                    try simp only [zwr_rne, zwr_req, upd_ne, upd_eq, ne_eq, Nat.reduceEqDiff, not_false_eq_true]
                    refine ⟨by first | assumption | exact vin (by omega) | exact vp_in_I.mpr (by omega), ?_⟩
                    refine zeq (fun g131 => ?_) (fun g131 => ?_)
                    · try simp only [zwr_rne, zwr_req, upd_ne, upd_eq, ne_eq, Nat.reduceEqDiff, not_false_eq_true] at g131
                      try omega
                      all_goals
                        try simp only [zwr_rne, zwr_req, upd_ne, upd_eq, ne_eq, Nat.reduceEqDiff, not_false_eq_true]
                        refine ⟨by first | assumption | exact vin (by omega) | exact vp_in_I.mpr (by omega), ?_⟩
                        refine ⟨by first | assumption | exact vin (by omega) | exact vp_in_I.mpr (by omega), ?_⟩
                        refine zeq (fun g132 => ?_) (fun g132 => ?_)
                        · try simp only [zwr_rne, zwr_req, upd_ne, upd_eq, ne_eq, Nat.reduceEqDiff, not_false_eq_true] at g132
                          try omega
                          all_goals
                            try simp only [zwr_rne, zwr_req, upd_ne, upd_eq, ne_eq, Nat.reduceEqDiff, not_false_eq_true]
                            refine ⟨by first | assumption | exact vin (by omega) | exact vp_in_I.mpr (by omega), ?_⟩
                            refine zeq (fun g133 => ?_) (fun g133 => ?_)
                            · try simp only [zwr_rne, zwr_req, upd_ne, upd_eq, ne_eq, Nat.reduceEqDiff, not_false_eq_true] at g133
                              try omega
                              all_goals
                                try simp only [zwr_rne, zwr_req, upd_ne, upd_eq, ne_eq, Nat.reduceEqDiff, not_false_eq_true]
                                refine ⟨by first | assumption | exact vin (by omega) | exact vp_in_I.mpr (by omega), ?_⟩
                                rintro _ rfl
                                try simp only [zwr_rne, zwr_req, upd_ne, upd_eq, ne_eq, Nat.reduceEqDiff, not_false_eq_true]
                                exfalso; omega
                                try simp only [zwr_rne, zwr_req, upd_ne, upd_eq, ne_eq, Nat.reduceEqDiff, not_false_eq_true]
                                exact ⟨by first | rfl | trivial, hh⟩
                            · try simp only [zwr_rne, zwr_req, upd_ne, upd_eq, ne_eq, Nat.reduceEqDiff, not_false_eq_true] at g133
                              try omega
                              all_goals
                                try simp only [zwr_rne, zwr_req, upd_ne, upd_eq, ne_eq, Nat.reduceEqDiff, not_false_eq_true]
                                refine ⟨by first | assumption | exact vin (by omega) | exact vp_in_I.mpr (by omega), ?_⟩
                                rintro _ rfl
                                try simp only [zwr_rne, zwr_req, upd_ne, upd_eq, ne_eq, Nat.reduceEqDiff, not_false_eq_true]
                                exfalso; omega
                                try simp only [zwr_rne, zwr_req, upd_ne, upd_eq, ne_eq, Nat.reduceEqDiff, not_false_eq_true]
                                exact ⟨by first | rfl | trivial, hh⟩
                        · try simp only [zwr_rne, zwr_req, upd_ne, upd_eq, ne_eq, Nat.reduceEqDiff, not_false_eq_true] at g132
                          try omega
                          all_goals
                            try simp only [zwr_rne, zwr_req, upd_ne, upd_eq, ne_eq, Nat.reduceEqDiff, not_false_eq_true]
                            exact ⟨by first | rfl | trivial, hh⟩
                    · try simp only [zwr_rne, zwr_req, upd_ne, upd_eq, ne_eq, Nat.reduceEqDiff, not_false_eq_true] at g131
                      try omega
                      all_goals
                        try simp only [zwr_rne, zwr_req, upd_ne, upd_eq, ne_eq, Nat.reduceEqDiff, not_false_eq_true]
                        exact ⟨by first | rfl | trivial, hh⟩
            · try simp only [zwr_rne, zwr_req, upd_ne, upd_eq, ne_eq, Nat.reduceEqDiff, not_false_eq_true] at g128
              try omega
              all_goals
                try simp only [zwr_rne, zwr_req, upd_ne, upd_eq, ne_eq, Nat.reduceEqDiff, not_false_eq_true]
                refine m_isClaim (by first | omega | (simp only [zwr_rne, zwr_req, upd_ne, upd_eq, ne_eq, Nat.reduceEqDiff, not_false_eq_true]; omega)) (fun g134 g134' => ?_) (fun g134 => ?_)
                · try simp only [zwr_rne, zwr_req, upd_ne, upd_eq, ne_eq, Nat.reduceEqDiff, not_false_eq_true] at g134
                  try simp only [zwr_rne, zwr_req, upd_ne, upd_eq, ne_eq, Nat.reduceEqDiff, not_false_eq_true] at g134'
                  try omega
                  all_goals
                    try simp only [one_ne, zero_eq, if_false, if_true, or_true, true_or, or_false, false_or]
                    try simp only [zwr_rne, zwr_req, upd_ne, upd_eq, ne_eq, Nat.reduceEqDiff, not_false_eq_true]
                    refine zeq (fun g135 => ?_) (fun g135 => ?_)
                    · try simp only [zwr_rne, zwr_req, upd_ne, upd_eq, ne_eq, Nat.reduceEqDiff, not_false_eq_true] at g135
                      try omega
                      all_goals
                        try simp only [zwr_rne, zwr_req, upd_ne, upd_eq, ne_eq, Nat.reduceEqDiff, not_false_eq_true]
                        refine ⟨by first | assumption | exact vin (by omega) | exact vp_in_I.mpr (by omega), ?_⟩
                        refine zeq (fun g136 => ?_) (fun g136 => ?_)
                        · try simp only [zwr_rne, zwr_req, upd_ne, upd_eq, ne_eq, Nat.reduceEqDiff, not_false_eq_true] at g136
                          try omega
                          all_goals
                            try simp only [zwr_rne, zwr_req, upd_ne, upd_eq, ne_eq, Nat.reduceEqDiff, not_false_eq_true]
                            refine ⟨by first | assumption | exact vin (by omega) | exact vp_in_I.mpr (by omega), ?_⟩
                            rintro _ rfl
                            try simp only [zwr_rne, zwr_req, upd_ne, upd_eq, ne_eq, Nat.reduceEqDiff, not_false_eq_true]
                            exfalso; omega
                            try simp only [zwr_rne, zwr_req, upd_ne, upd_eq, ne_eq, Nat.reduceEqDiff, not_false_eq_true]
                            exact ⟨by first | rfl | trivial, hh⟩
                        · try simp only [zwr_rne, zwr_req, upd_ne, upd_eq, ne_eq, Nat.reduceEqDiff, not_false_eq_true] at g136
                          try omega
                          all_goals
                            try simp only [zwr_rne, zwr_req, upd_ne, upd_eq, ne_eq, Nat.reduceEqDiff, not_false_eq_true]
                            refine ⟨by first | assumption | exact vin (by omega) | exact vp_in_I.mpr (by omega), ?_⟩
                            rintro _ rfl
                            try simp only [zwr_rne, zwr_req, upd_ne, upd_eq, ne_eq, Nat.reduceEqDiff, not_false_eq_true]
                            exfalso; omega
                            try simp only [zwr_rne, zwr_req, upd_ne, upd_eq, ne_eq, Nat.reduceEqDiff, not_false_eq_true]
                            exact ⟨by first | rfl | trivial, hh⟩
                    · try simp only [zwr_rne, zwr_req, upd_ne, upd_eq, ne_eq, Nat.reduceEqDiff, not_false_eq_true] at g135
                      try omega
                      all_goals
                        try simp only [zwr_rne, zwr_req, upd_ne, upd_eq, ne_eq, Nat.reduceEqDiff, not_false_eq_true]
                        refine ⟨by first | assumption | exact vin (by omega) | exact vp_in_I.mpr (by omega), ?_⟩
                        refine zeq (fun g137 => ?_) (fun g137 => ?_)
                        · try simp only [zwr_rne, zwr_req, upd_ne, upd_eq, ne_eq, Nat.reduceEqDiff, not_false_eq_true] at g137
                          try omega
                          all_goals
                            try simp only [zwr_rne, zwr_req, upd_ne, upd_eq, ne_eq, Nat.reduceEqDiff, not_false_eq_true]
                            refine ⟨by first | assumption | exact vin (by omega) | exact vp_in_I.mpr (by omega), ?_⟩
                            refine ⟨by first | assumption | exact vin (by omega) | exact vp_in_I.mpr (by omega), ?_⟩
                            refine zeq (fun g138 => ?_) (fun g138 => ?_)
                            · try simp only [zwr_rne, zwr_req, upd_ne, upd_eq, ne_eq, Nat.reduceEqDiff, not_false_eq_true] at g138
                              try omega
                              all_goals
                                try simp only [zwr_rne, zwr_req, upd_ne, upd_eq, ne_eq, Nat.reduceEqDiff, not_false_eq_true]
                                refine ⟨by first | assumption | exact vin (by omega) | exact vp_in_I.mpr (by omega), ?_⟩
                                refine zeq (fun g139 => ?_) (fun g139 => ?_)
                                · try simp only [zwr_rne, zwr_req, upd_ne, upd_eq, ne_eq, Nat.reduceEqDiff, not_false_eq_true] at g139
                                  try omega
                                  all_goals
                                    try simp only [zwr_rne, zwr_req, upd_ne, upd_eq, ne_eq, Nat.reduceEqDiff, not_false_eq_true]
                                    refine ⟨by first | assumption | exact vin (by omega) | exact vp_in_I.mpr (by omega), ?_⟩
                                    rintro _ rfl
                                    try simp only [zwr_rne, zwr_req, upd_ne, upd_eq, ne_eq, Nat.reduceEqDiff, not_false_eq_true]
                                    exfalso; omega
                                    try simp only [zwr_rne, zwr_req, upd_ne, upd_eq, ne_eq, Nat.reduceEqDiff, not_false_eq_true]
                                    exact ⟨by first | rfl | trivial, hh⟩
                                · try simp only [zwr_rne, zwr_req, upd_ne, upd_eq, ne_eq, Nat.reduceEqDiff, not_false_eq_true] at g139
                                  try omega
                                  all_goals
                                    try simp only [zwr_rne, zwr_req, upd_ne, upd_eq, ne_eq, Nat.reduceEqDiff, not_false_eq_true]
                                    refine ⟨by first | assumption | exact vin (by omega) | exact vp_in_I.mpr (by omega), ?_⟩
                                    rintro _ rfl
                                    try simp only [zwr_rne, zwr_req, upd_ne, upd_eq, ne_eq, Nat.reduceEqDiff, not_false_eq_true]
                                    exfalso; omega
                                    try simp only [zwr_rne, zwr_req, upd_ne, upd_eq, ne_eq, Nat.reduceEqDiff, not_false_eq_true]
                                    exact ⟨by first | rfl | trivial, hh⟩
                            · try simp only [zwr_rne, zwr_req, upd_ne, upd_eq, ne_eq, Nat.reduceEqDiff, not_false_eq_true] at g138
                              try omega
                              all_goals
                                try simp only [zwr_rne, zwr_req, upd_ne, upd_eq, ne_eq, Nat.reduceEqDiff, not_false_eq_true]
                                exact ⟨by first | rfl | trivial, hh⟩
                        · try simp only [zwr_rne, zwr_req, upd_ne, upd_eq, ne_eq, Nat.reduceEqDiff, not_false_eq_true] at g137
                          try omega
                          all_goals
                            try simp only [zwr_rne, zwr_req, upd_ne, upd_eq, ne_eq, Nat.reduceEqDiff, not_false_eq_true]
                            exact ⟨by first | rfl | trivial, hh⟩
                · try simp only [zwr_rne, zwr_req, upd_ne, upd_eq, ne_eq, Nat.reduceEqDiff, not_false_eq_true] at g134
                  try omega
                  all_goals
                    try simp only [one_ne, zero_eq, if_false, if_true, or_true, true_or, or_false, false_or]
                    try simp only [zwr_rne, zwr_req, upd_ne, upd_eq, ne_eq, Nat.reduceEqDiff, not_false_eq_true]
                    exact ⟨by first | rfl | trivial, hh⟩
        · try simp only [zwr_rne, zwr_req, upd_ne, upd_eq, ne_eq, Nat.reduceEqDiff, not_false_eq_true] at g127
          try omega
          all_goals
            try simp only [one_ne, zero_eq, if_false, if_true, or_true, true_or, or_false, false_or]
            try simp only [zwr_rne, zwr_req, upd_ne, upd_eq, ne_eq, Nat.reduceEqDiff, not_false_eq_true]
            exact ⟨by first | rfl | trivial, hh⟩
  · have ta := tin ha2
    have ca : (nI a).toNatClampNeg = a := cln ha2
    have va : vp_in (nI a) 16 := vin (by omega)
    obtain ⟨s1, s2, s3, s4, s5, s6, s7, s8, s9, s10, s11, s12, s13, s14, s15⟩ := kas a ha
    have fs1 : (σ 15 a).toInt = (σ 73 a).toInt := by rw [s1]
    by_cases gN : v2 = -1000000005
    · have gNt : v2.toInt = -1000000005 := by rw [gN]; rfl
      refine en_X11_charge ?_
      try simp only [zwr_rne, zwr_req, upd_ne, upd_eq, ne_eq, Nat.reduceEqDiff, not_false_eq_true, ca]
      refine c_hasA (fun g1 g1' => ?_) (fun g1 => ?_)
      · try simp only [zwr_rne, zwr_req, upd_ne, upd_eq, ne_eq, Nat.reduceEqDiff, not_false_eq_true, ca] at g1
        try simp only [zwr_rne, zwr_req, upd_ne, upd_eq, ne_eq, Nat.reduceEqDiff, not_false_eq_true, ca] at g1'
        try omega
        all_goals
          try simp only [one_ne, zero_eq, if_false, if_true, or_true, true_or, or_false, false_or]
          refine zeq (fun g2 => ?_) (fun g2 => ?_)
          · try simp only [zwr_rne, zwr_req, upd_ne, upd_eq, ne_eq, Nat.reduceEqDiff, not_false_eq_true, ca] at g2
            try omega
            all_goals
              refine zeq (fun g3 => ?_) (fun g3 => ?_)
              · try simp only [zwr_rne, zwr_req, upd_ne, upd_eq, ne_eq, Nat.reduceEqDiff, not_false_eq_true, ca] at g3
                try omega
                all_goals
                  refine ⟨by first | assumption | exact vin (by omega) | exact vp_in_I.mpr (by omega), ?_⟩
                  refine ⟨by first | assumption | exact vin (by omega) | exact vp_in_I.mpr (by omega), ?_⟩
                  rintro _ rfl
                  try simp only [zwr_rne, zwr_req, upd_ne, upd_eq, ne_eq, Nat.reduceEqDiff, not_false_eq_true, ca]
                  refine c_changed ?_
                  try simp only [zwr_rne, zwr_req, upd_ne, upd_eq, ne_eq, Nat.reduceEqDiff, not_false_eq_true, ca]
                  refine en_X12_charge ?_
                  try simp only [zwr_rne, zwr_req, upd_ne, upd_eq, ne_eq, Nat.reduceEqDiff, not_false_eq_true, ca]
                  refine m_isAsset (by first | omega | (simp only [zwr_rne, zwr_req, upd_ne, upd_eq, ne_eq, Nat.reduceEqDiff, not_false_eq_true, ca]; omega)) (fun g4 g4' => ?_) (fun g4 => ?_)
                  · try simp only [zwr_rne, zwr_req, upd_ne, upd_eq, ne_eq, Nat.reduceEqDiff, not_false_eq_true, ca] at g4
                    try simp only [zwr_rne, zwr_req, upd_ne, upd_eq, ne_eq, Nat.reduceEqDiff, not_false_eq_true, ca] at g4'
                    try omega
                    all_goals
                      try simp only [one_ne, zero_eq, if_false, if_true, or_true, true_or, or_false, false_or]
                      try simp only [zwr_rne, zwr_req, upd_ne, upd_eq, ne_eq, Nat.reduceEqDiff, not_false_eq_true, ca]
                      refine zeq (fun g5 => ?_) (fun g5 => ?_)
                      · try simp only [zwr_rne, zwr_req, upd_ne, upd_eq, ne_eq, Nat.reduceEqDiff, not_false_eq_true, ca] at g5
                        try omega
                        all_goals
                          try simp only [zwr_rne, zwr_req, upd_ne, upd_eq, ne_eq, Nat.reduceEqDiff, not_false_eq_true, ca]
                          refine zeq (fun g6 => ?_) (fun g6 => ?_)
                          · try simp only [zwr_rne, zwr_req, upd_ne, upd_eq, ne_eq, Nat.reduceEqDiff, not_false_eq_true, ca] at g6
                            try omega
                            all_goals
                              try simp only [zwr_rne, zwr_req, upd_ne, upd_eq, ne_eq, Nat.reduceEqDiff, not_false_eq_true, ca]
                              refine ⟨by first | assumption | exact vin (by omega) | exact vp_in_I.mpr (by omega), ?_⟩
                              refine zeq (fun g7 => ?_) (fun g7 => ?_)
                              · try simp only [zwr_rne, zwr_req, upd_ne, upd_eq, ne_eq, Nat.reduceEqDiff, not_false_eq_true, ca] at g7
                                try omega
                                all_goals
                                  try simp only [zwr_rne, zwr_req, upd_ne, upd_eq, ne_eq, Nat.reduceEqDiff, not_false_eq_true, ca]
                                  refine ⟨by first | assumption | exact vin (by omega) | exact vp_in_I.mpr (by omega), ?_⟩
                                  rintro _ rfl
                                  try simp only [zwr_rne, zwr_req, upd_ne, upd_eq, ne_eq, Nat.reduceEqDiff, not_false_eq_true, ca]
                                  refine m_orNone s14 ?_
                                  try simp only [zwr_rne, zwr_req, upd_ne, upd_eq, ne_eq, Nat.reduceEqDiff, not_false_eq_true, ca]
                                  refine ⟨s5, ?_⟩
                                  unfold Rall
                                  simp only [zwr_rne, zwr_req, upd_ne, upd_eq, ne_eq, Nat.reduceEqDiff, not_false_eq_true]
                                  subst gN
                                  exact ⟨⟨k1, k2, k3, k4, k5, k6, k7, k8, k9⟩, kas.setC enc_m1.symm (by decide) (by rw [tim1]; omega), kcl, kda, kdh, kpl, kkp, ksh, kwt, ktp, klw, ksd, Rwx_stale, Rwx_stale⟩
                              · try simp only [zwr_rne, zwr_req, upd_ne, upd_eq, ne_eq, Nat.reduceEqDiff, not_false_eq_true, ca] at g7
                                try omega
                                all_goals
                                  try simp only [zwr_rne, zwr_req, upd_ne, upd_eq, ne_eq, Nat.reduceEqDiff, not_false_eq_true, ca]
                                  refine ⟨by first | assumption | exact vin (by omega) | exact vp_in_I.mpr (by omega), ?_⟩
                                  rintro _ rfl
                                  try simp only [zwr_rne, zwr_req, upd_ne, upd_eq, ne_eq, Nat.reduceEqDiff, not_false_eq_true, ca]
                                  refine m_orNone s14 ?_
                                  try simp only [zwr_rne, zwr_req, upd_ne, upd_eq, ne_eq, Nat.reduceEqDiff, not_false_eq_true, ca]
                                  refine ⟨s5, ?_⟩
                                  unfold Rall
                                  simp only [zwr_rne, zwr_req, upd_ne, upd_eq, ne_eq, Nat.reduceEqDiff, not_false_eq_true]
                                  subst gN
                                  exact ⟨⟨k1, k2, k3, k4, k5, k6, k7, k8, k9⟩, kas.setC enc_m1.symm (by decide) (by rw [tim1]; omega), kcl, kda, kdh, kpl, kkp, ksh, kwt, ktp, klw, ksd, Rwx_stale, Rwx_stale⟩
                          · try simp only [zwr_rne, zwr_req, upd_ne, upd_eq, ne_eq, Nat.reduceEqDiff, not_false_eq_true, ca] at g6
                            try omega
                            all_goals
                              try simp only [zwr_rne, zwr_req, upd_ne, upd_eq, ne_eq, Nat.reduceEqDiff, not_false_eq_true, ca]
                              refine ⟨by first | assumption | exact vin (by omega) | exact vp_in_I.mpr (by omega), ?_⟩
                              refine zeq (fun g8 => ?_) (fun g8 => ?_)
                              · try simp only [zwr_rne, zwr_req, upd_ne, upd_eq, ne_eq, Nat.reduceEqDiff, not_false_eq_true, ca] at g8
                                try omega
                                all_goals
                                  try simp only [zwr_rne, zwr_req, upd_ne, upd_eq, ne_eq, Nat.reduceEqDiff, not_false_eq_true, ca]
                                  refine ⟨by first | assumption | exact vin (by omega) | exact vp_in_I.mpr (by omega), ?_⟩
                                  refine ⟨by first | assumption | exact vin (by omega) | exact vp_in_I.mpr (by omega), ?_⟩
                                  refine zeq (fun g9 => ?_) (fun g9 => ?_)
                                  · try simp only [zwr_rne, zwr_req, upd_ne, upd_eq, ne_eq, Nat.reduceEqDiff, not_false_eq_true, ca] at g9
                                    try omega
                                    all_goals
                                      try simp only [zwr_rne, zwr_req, upd_ne, upd_eq, ne_eq, Nat.reduceEqDiff, not_false_eq_true, ca]
                                      refine ⟨by first | assumption | exact vin (by omega) | exact vp_in_I.mpr (by omega), ?_⟩
                                      refine zeq (fun g10 => ?_) (fun g10 => ?_)
                                      · try simp only [zwr_rne, zwr_req, upd_ne, upd_eq, ne_eq, Nat.reduceEqDiff, not_false_eq_true, ca] at g10
                                        try omega
                                        all_goals
                                          try simp only [zwr_rne, zwr_req, upd_ne, upd_eq, ne_eq, Nat.reduceEqDiff, not_false_eq_true, ca]
                                          refine ⟨by first | assumption | exact vin (by omega) | exact vp_in_I.mpr (by omega), ?_⟩
                                          rintro _ rfl
                                          try simp only [zwr_rne, zwr_req, upd_ne, upd_eq, ne_eq, Nat.reduceEqDiff, not_false_eq_true, ca]
                                          refine m_orNone s14 ?_
                                          try simp only [zwr_rne, zwr_req, upd_ne, upd_eq, ne_eq, Nat.reduceEqDiff, not_false_eq_true, ca]
                                          refine ⟨s5, ?_⟩
                                          unfold Rall
                                          simp only [zwr_rne, zwr_req, upd_ne, upd_eq, ne_eq, Nat.reduceEqDiff, not_false_eq_true]
                                          subst gN
                                          exact ⟨⟨k1, k2, k3, k4, k5, k6, k7, k8, k9⟩, kas.setC enc_m1.symm (by decide) (by rw [tim1]; omega), kcl, kda, kdh, kpl, kkp, ksh, kwt, ktp, klw, ksd, Rwx_stale, Rwx_stale⟩
                                      · try simp only [zwr_rne, zwr_req, upd_ne, upd_eq, ne_eq, Nat.reduceEqDiff, not_false_eq_true, ca] at g10
                                        try omega
                                        all_goals
                                          try simp only [zwr_rne, zwr_req, upd_ne, upd_eq, ne_eq, Nat.reduceEqDiff, not_false_eq_true, ca]
                                          refine ⟨by first | assumption | exact vin (by omega) | exact vp_in_I.mpr (by omega), ?_⟩
                                          rintro _ rfl
                                          try simp only [zwr_rne, zwr_req, upd_ne, upd_eq, ne_eq, Nat.reduceEqDiff, not_false_eq_true, ca]
                                          refine m_orNone s14 ?_
                                          try simp only [zwr_rne, zwr_req, upd_ne, upd_eq, ne_eq, Nat.reduceEqDiff, not_false_eq_true, ca]
                                          refine ⟨s5, ?_⟩
                                          unfold Rall
                                          simp only [zwr_rne, zwr_req, upd_ne, upd_eq, ne_eq, Nat.reduceEqDiff, not_false_eq_true]
                                          subst gN
                                          exact ⟨⟨k1, k2, k3, k4, k5, k6, k7, k8, k9⟩, kas.setC enc_m1.symm (by decide) (by rw [tim1]; omega), kcl, kda, kdh, kpl, kkp, ksh, kwt, ktp, klw, ksd, Rwx_stale, Rwx_stale⟩
                                  · try simp only [zwr_rne, zwr_req, upd_ne, upd_eq, ne_eq, Nat.reduceEqDiff, not_false_eq_true, ca] at g9
                                    try omega
                                    all_goals
                                      try simp only [zwr_rne, zwr_req, upd_ne, upd_eq, ne_eq, Nat.reduceEqDiff, not_false_eq_true, ca]
                                      exact ⟨by first | rfl | trivial, hh⟩
                              · try simp only [zwr_rne, zwr_req, upd_ne, upd_eq, ne_eq, Nat.reduceEqDiff, not_false_eq_true, ca] at g8
                                try omega
                                all_goals
                                  try simp only [zwr_rne, zwr_req, upd_ne, upd_eq, ne_eq, Nat.reduceEqDiff, not_false_eq_true, ca]
                                  exact ⟨by first | rfl | trivial, hh⟩
                      · try simp only [zwr_rne, zwr_req, upd_ne, upd_eq, ne_eq, Nat.reduceEqDiff, not_false_eq_true, ca] at g5
                        try omega
                        all_goals
                          try simp only [zwr_rne, zwr_req, upd_ne, upd_eq, ne_eq, Nat.reduceEqDiff, not_false_eq_true, ca]
                          refine m_isClaim (by first | omega | (simp only [zwr_rne, zwr_req, upd_ne, upd_eq, ne_eq, Nat.reduceEqDiff, not_false_eq_true, ca]; omega)) (fun g11 g11' => ?_) (fun g11 => ?_)
                          · try simp only [zwr_rne, zwr_req, upd_ne, upd_eq, ne_eq, Nat.reduceEqDiff, not_false_eq_true, ca] at g11
                            try simp only [zwr_rne, zwr_req, upd_ne, upd_eq, ne_eq, Nat.reduceEqDiff, not_false_eq_true, ca] at g11'
                            try omega
                            all_goals
                              try simp only [one_ne, zero_eq, if_false, if_true, or_true, true_or, or_false, false_or]
                              try simp only [zwr_rne, zwr_req, upd_ne, upd_eq, ne_eq, Nat.reduceEqDiff, not_false_eq_true, ca]
                              refine zeq (fun g12 => ?_) (fun g12 => ?_)
                              · try simp only [zwr_rne, zwr_req, upd_ne, upd_eq, ne_eq, Nat.reduceEqDiff, not_false_eq_true, ca] at g12
                                try omega
                                all_goals
                                  try simp only [zwr_rne, zwr_req, upd_ne, upd_eq, ne_eq, Nat.reduceEqDiff, not_false_eq_true, ca]
                                  refine ⟨by first | assumption | exact vin (by omega) | exact vp_in_I.mpr (by omega), ?_⟩
                                  refine zeq (fun g13 => ?_) (fun g13 => ?_)
                                  · try simp only [zwr_rne, zwr_req, upd_ne, upd_eq, ne_eq, Nat.reduceEqDiff, not_false_eq_true, ca] at g13
                                    try omega
                                    all_goals
                                      try simp only [zwr_rne, zwr_req, upd_ne, upd_eq, ne_eq, Nat.reduceEqDiff, not_false_eq_true, ca]
                                      refine ⟨by first | assumption | exact vin (by omega) | exact vp_in_I.mpr (by omega), ?_⟩
                                      rintro _ rfl
                                      try simp only [zwr_rne, zwr_req, upd_ne, upd_eq, ne_eq, Nat.reduceEqDiff, not_false_eq_true, ca]
                                      refine m_orNone s14 ?_
                                      try simp only [zwr_rne, zwr_req, upd_ne, upd_eq, ne_eq, Nat.reduceEqDiff, not_false_eq_true, ca]
                                      refine ⟨s5, ?_⟩
                                      unfold Rall
                                      simp only [zwr_rne, zwr_req, upd_ne, upd_eq, ne_eq, Nat.reduceEqDiff, not_false_eq_true]
                                      subst gN
                                      exact ⟨⟨k1, k2, k3, k4, k5, k6, k7, k8, k9⟩, kas.setC enc_m1.symm (by decide) (by rw [tim1]; omega), kcl, kda, kdh, kpl, kkp, ksh, kwt, ktp, klw, ksd, Rwx_stale, Rwx_stale⟩
                                  · try simp only [zwr_rne, zwr_req, upd_ne, upd_eq, ne_eq, Nat.reduceEqDiff, not_false_eq_true, ca] at g13
                                    try omega
                                    all_goals
                                      try simp only [zwr_rne, zwr_req, upd_ne, upd_eq, ne_eq, Nat.reduceEqDiff, not_false_eq_true, ca]
                                      refine ⟨by first | assumption | exact vin (by omega) | exact vp_in_I.mpr (by omega), ?_⟩
                                      rintro _ rfl
                                      try simp only [zwr_rne, zwr_req, upd_ne, upd_eq, ne_eq, Nat.reduceEqDiff, not_false_eq_true, ca]
                                      refine m_orNone s14 ?_
                                      try simp only [zwr_rne, zwr_req, upd_ne, upd_eq, ne_eq, Nat.reduceEqDiff, not_false_eq_true, ca]
                                      refine ⟨s5, ?_⟩
                                      unfold Rall
                                      simp only [zwr_rne, zwr_req, upd_ne, upd_eq, ne_eq, Nat.reduceEqDiff, not_false_eq_true]
                                      subst gN
                                      exact ⟨⟨k1, k2, k3, k4, k5, k6, k7, k8, k9⟩, kas.setC enc_m1.symm (by decide) (by rw [tim1]; omega), kcl, kda, kdh, kpl, kkp, ksh, kwt, ktp, klw, ksd, Rwx_stale, Rwx_stale⟩
                              · try simp only [zwr_rne, zwr_req, upd_ne, upd_eq, ne_eq, Nat.reduceEqDiff, not_false_eq_true, ca] at g12
                                try omega
                                all_goals
                                  try simp only [zwr_rne, zwr_req, upd_ne, upd_eq, ne_eq, Nat.reduceEqDiff, not_false_eq_true, ca]
                                  refine ⟨by first | assumption | exact vin (by omega) | exact vp_in_I.mpr (by omega), ?_⟩
                                  refine zeq (fun g14 => ?_) (fun g14 => ?_)
                                  · try simp only [zwr_rne, zwr_req, upd_ne, upd_eq, ne_eq, Nat.reduceEqDiff, not_false_eq_true, ca] at g14
                                    try omega
                                    all_goals
                                      try simp only [zwr_rne, zwr_req, upd_ne, upd_eq, ne_eq, Nat.reduceEqDiff, not_false_eq_true, ca]
                                      refine ⟨by first | assumption | exact vin (by omega) | exact vp_in_I.mpr (by omega), ?_⟩
                                      refine ⟨by first | assumption | exact vin (by omega) | exact vp_in_I.mpr (by omega), ?_⟩
                                      refine zeq (fun g15 => ?_) (fun g15 => ?_)
                                      · try simp only [zwr_rne, zwr_req, upd_ne, upd_eq, ne_eq, Nat.reduceEqDiff, not_false_eq_true, ca] at g15
                                        try omega
                                        all_goals
                                          try simp only [zwr_rne, zwr_req, upd_ne, upd_eq, ne_eq, Nat.reduceEqDiff, not_false_eq_true, ca]
                                          refine ⟨by first | assumption | exact vin (by omega) | exact vp_in_I.mpr (by omega), ?_⟩
                                          refine zeq (fun g16 => ?_) (fun g16 => ?_)
                                          · try simp only [zwr_rne, zwr_req, upd_ne, upd_eq, ne_eq, Nat.reduceEqDiff, not_false_eq_true, ca] at g16
                                            try omega
                                            all_goals
                                              try simp only [zwr_rne, zwr_req, upd_ne, upd_eq, ne_eq, Nat.reduceEqDiff, not_false_eq_true, ca]
                                              refine ⟨by first | assumption | exact vin (by omega) | exact vp_in_I.mpr (by omega), ?_⟩
                                              rintro _ rfl
                                              try simp only [zwr_rne, zwr_req, upd_ne, upd_eq, ne_eq, Nat.reduceEqDiff, not_false_eq_true, ca]
                                              refine m_orNone s14 ?_
                                              try simp only [zwr_rne, zwr_req, upd_ne, upd_eq, ne_eq, Nat.reduceEqDiff, not_false_eq_true, ca]
                                              refine ⟨s5, ?_⟩
                                              unfold Rall
                                              simp only [zwr_rne, zwr_req, upd_ne, upd_eq, ne_eq, Nat.reduceEqDiff, not_false_eq_true]
                                              subst gN
                                              exact ⟨⟨k1, k2, k3, k4, k5, k6, k7, k8, k9⟩, kas.setC enc_m1.symm (by decide) (by rw [tim1]; omega), kcl, kda, kdh, kpl, kkp, ksh, kwt, ktp, klw, ksd, Rwx_stale, Rwx_stale⟩
                                          · try simp only [zwr_rne, zwr_req, upd_ne, upd_eq, ne_eq, Nat.reduceEqDiff, not_false_eq_true, ca] at g16
                                            try omega
                                            all_goals
                                              try simp only [zwr_rne, zwr_req, upd_ne, upd_eq, ne_eq, Nat.reduceEqDiff, not_false_eq_true, ca]
                                              refine ⟨by first | assumption | exact vin (by omega) | exact vp_in_I.mpr (by omega), ?_⟩
                                              rintro _ rfl
                                              try simp only [zwr_rne, zwr_req, upd_ne, upd_eq, ne_eq, Nat.reduceEqDiff, not_false_eq_true, ca]
                                              refine m_orNone s14 ?_
                                              try simp only [zwr_rne, zwr_req, upd_ne, upd_eq, ne_eq, Nat.reduceEqDiff, not_false_eq_true, ca]
                                              refine ⟨s5, ?_⟩
                                              unfold Rall
                                              simp only [zwr_rne, zwr_req, upd_ne, upd_eq, ne_eq, Nat.reduceEqDiff, not_false_eq_true]
                                              subst gN
                                              exact ⟨⟨k1, k2, k3, k4, k5, k6, k7, k8, k9⟩, kas.setC enc_m1.symm (by decide) (by rw [tim1]; omega), kcl, kda, kdh, kpl, kkp, ksh, kwt, ktp, klw, ksd, Rwx_stale, Rwx_stale⟩
                                      · try simp only [zwr_rne, zwr_req, upd_ne, upd_eq, ne_eq, Nat.reduceEqDiff, not_false_eq_true, ca] at g15
                                        try omega
                                        all_goals
                                          try simp only [zwr_rne, zwr_req, upd_ne, upd_eq, ne_eq, Nat.reduceEqDiff, not_false_eq_true, ca]
                                          exact ⟨by first | rfl | trivial, hh⟩
                                  · try simp only [zwr_rne, zwr_req, upd_ne, upd_eq, ne_eq, Nat.reduceEqDiff, not_false_eq_true, ca] at g14
                                    try omega
                                    all_goals
                                      try simp only [zwr_rne, zwr_req, upd_ne, upd_eq, ne_eq, Nat.reduceEqDiff, not_false_eq_true, ca]
                                      exact ⟨by first | rfl | trivial, hh⟩
                          · try simp only [zwr_rne, zwr_req, upd_ne, upd_eq, ne_eq, Nat.reduceEqDiff, not_false_eq_true, ca] at g11
                            try omega
                            all_goals
                              try simp only [one_ne, zero_eq, if_false, if_true, or_true, true_or, or_false, false_or]
                              try simp only [zwr_rne, zwr_req, upd_ne, upd_eq, ne_eq, Nat.reduceEqDiff, not_false_eq_true, ca]
                              exact ⟨by first | rfl | trivial, hh⟩
                  · try simp only [zwr_rne, zwr_req, upd_ne, upd_eq, ne_eq, Nat.reduceEqDiff, not_false_eq_true, ca] at g4
                    try omega
                    all_goals
                      try simp only [one_ne, zero_eq, if_false, if_true, or_true, true_or, or_false, false_or]
                      try simp only [zwr_rne, zwr_req, upd_ne, upd_eq, ne_eq, Nat.reduceEqDiff, not_false_eq_true, ca]
                      exact ⟨by first | rfl | trivial, hh⟩
              · try simp only [zwr_rne, zwr_req, upd_ne, upd_eq, ne_eq, Nat.reduceEqDiff, not_false_eq_true, ca] at g3
                try omega
                all_goals
                  refine ⟨by first | assumption | exact vin (by omega) | exact vp_in_I.mpr (by omega), ?_⟩
                  refine zeq (fun g17 => ?_) (fun g17 => ?_)
                  · try simp only [zwr_rne, zwr_req, upd_ne, upd_eq, ne_eq, Nat.reduceEqDiff, not_false_eq_true, ca] at g17
                    try omega
                    all_goals
                      refine ⟨by first | assumption | exact vin (by omega) | exact vp_in_I.mpr (by omega), ?_⟩
                      refine ⟨by first | assumption | exact vin (by omega) | exact vp_in_I.mpr (by omega), ?_⟩
                      refine zeq (fun g18 => ?_) (fun g18 => ?_)
                      · try simp only [zwr_rne, zwr_req, upd_ne, upd_eq, ne_eq, Nat.reduceEqDiff, not_false_eq_true, ca] at g18
                        try omega
                        all_goals
                          refine ⟨by first | assumption | exact vin (by omega) | exact vp_in_I.mpr (by omega), ?_⟩
                          refine ⟨by first | assumption | exact vin (by omega) | exact vp_in_I.mpr (by omega), ?_⟩
                          rintro _ rfl
                          try simp only [zwr_rne, zwr_req, upd_ne, upd_eq, ne_eq, Nat.reduceEqDiff, not_false_eq_true, ca]
                          refine c_changed ?_
                          try simp only [zwr_rne, zwr_req, upd_ne, upd_eq, ne_eq, Nat.reduceEqDiff, not_false_eq_true, ca]
                          refine en_X12_charge ?_
                          try simp only [zwr_rne, zwr_req, upd_ne, upd_eq, ne_eq, Nat.reduceEqDiff, not_false_eq_true, ca]
                          refine m_isAsset (by first | omega | (simp only [zwr_rne, zwr_req, upd_ne, upd_eq, ne_eq, Nat.reduceEqDiff, not_false_eq_true, ca]; omega)) (fun g19 g19' => ?_) (fun g19 => ?_)
                          · try simp only [zwr_rne, zwr_req, upd_ne, upd_eq, ne_eq, Nat.reduceEqDiff, not_false_eq_true, ca] at g19
                            try simp only [zwr_rne, zwr_req, upd_ne, upd_eq, ne_eq, Nat.reduceEqDiff, not_false_eq_true, ca] at g19'
                            try omega
                            all_goals
                              try simp only [one_ne, zero_eq, if_false, if_true, or_true, true_or, or_false, false_or]
                              try simp only [zwr_rne, zwr_req, upd_ne, upd_eq, ne_eq, Nat.reduceEqDiff, not_false_eq_true, ca]
                              refine zeq (fun g20 => ?_) (fun g20 => ?_)
                              · try simp only [zwr_rne, zwr_req, upd_ne, upd_eq, ne_eq, Nat.reduceEqDiff, not_false_eq_true, ca] at g20
                                try omega
                                all_goals
                                  try simp only [zwr_rne, zwr_req, upd_ne, upd_eq, ne_eq, Nat.reduceEqDiff, not_false_eq_true, ca]
                                  refine zeq (fun g21 => ?_) (fun g21 => ?_)
                                  · try simp only [zwr_rne, zwr_req, upd_ne, upd_eq, ne_eq, Nat.reduceEqDiff, not_false_eq_true, ca] at g21
                                    try omega
                                    all_goals
                                      try simp only [zwr_rne, zwr_req, upd_ne, upd_eq, ne_eq, Nat.reduceEqDiff, not_false_eq_true, ca]
                                      refine ⟨by first | assumption | exact vin (by omega) | exact vp_in_I.mpr (by omega), ?_⟩
                                      refine zeq (fun g22 => ?_) (fun g22 => ?_)
                                      · try simp only [zwr_rne, zwr_req, upd_ne, upd_eq, ne_eq, Nat.reduceEqDiff, not_false_eq_true, ca] at g22
                                        try omega
                                        all_goals
                                          try simp only [zwr_rne, zwr_req, upd_ne, upd_eq, ne_eq, Nat.reduceEqDiff, not_false_eq_true, ca]
                                          refine ⟨by first | assumption | exact vin (by omega) | exact vp_in_I.mpr (by omega), ?_⟩
                                          rintro _ rfl
                                          try simp only [zwr_rne, zwr_req, upd_ne, upd_eq, ne_eq, Nat.reduceEqDiff, not_false_eq_true, ca]
                                          refine m_orNone s14 ?_
                                          try simp only [zwr_rne, zwr_req, upd_ne, upd_eq, ne_eq, Nat.reduceEqDiff, not_false_eq_true, ca]
                                          refine ⟨s5, ?_⟩
                                          unfold Rall
                                          simp only [zwr_rne, zwr_req, upd_ne, upd_eq, ne_eq, Nat.reduceEqDiff, not_false_eq_true]
                                          subst gN
                                          exact ⟨⟨k1, k2, k3, k4, k5, k6, k7, k8, k9⟩, kas.setC enc_m1.symm (by decide) (by rw [tim1]; omega), kcl, kda, kdh, kpl, kkp, ksh, kwt, ktp, klw, ksd, Rwx_stale, Rwx_stale⟩
                                      · try simp only [zwr_rne, zwr_req, upd_ne, upd_eq, ne_eq, Nat.reduceEqDiff, not_false_eq_true, ca] at g22
                                        try omega
                                        all_goals
                                          try simp only [zwr_rne, zwr_req, upd_ne, upd_eq, ne_eq, Nat.reduceEqDiff, not_false_eq_true, ca]
                                          refine ⟨by first | assumption | exact vin (by omega) | exact vp_in_I.mpr (by omega), ?_⟩
                                          rintro _ rfl
                                          try simp only [zwr_rne, zwr_req, upd_ne, upd_eq, ne_eq, Nat.reduceEqDiff, not_false_eq_true, ca]
                                          refine m_orNone s14 ?_
                                          try simp only [zwr_rne, zwr_req, upd_ne, upd_eq, ne_eq, Nat.reduceEqDiff, not_false_eq_true, ca]
                                          refine ⟨s5, ?_⟩
                                          unfold Rall
                                          simp only [zwr_rne, zwr_req, upd_ne, upd_eq, ne_eq, Nat.reduceEqDiff, not_false_eq_true]
                                          subst gN
                                          exact ⟨⟨k1, k2, k3, k4, k5, k6, k7, k8, k9⟩, kas.setC enc_m1.symm (by decide) (by rw [tim1]; omega), kcl, kda, kdh, kpl, kkp, ksh, kwt, ktp, klw, ksd, Rwx_stale, Rwx_stale⟩
                                  · try simp only [zwr_rne, zwr_req, upd_ne, upd_eq, ne_eq, Nat.reduceEqDiff, not_false_eq_true, ca] at g21
                                    try omega
                                    all_goals
                                      try simp only [zwr_rne, zwr_req, upd_ne, upd_eq, ne_eq, Nat.reduceEqDiff, not_false_eq_true, ca]
                                      refine ⟨by first | assumption | exact vin (by omega) | exact vp_in_I.mpr (by omega), ?_⟩
                                      refine zeq (fun g23 => ?_) (fun g23 => ?_)
                                      · try simp only [zwr_rne, zwr_req, upd_ne, upd_eq, ne_eq, Nat.reduceEqDiff, not_false_eq_true, ca] at g23
                                        try omega
                                        all_goals
                                          try simp only [zwr_rne, zwr_req, upd_ne, upd_eq, ne_eq, Nat.reduceEqDiff, not_false_eq_true, ca]
                                          refine ⟨by first | assumption | exact vin (by omega) | exact vp_in_I.mpr (by omega), ?_⟩
                                          refine ⟨by first | assumption | exact vin (by omega) | exact vp_in_I.mpr (by omega), ?_⟩
                                          refine zeq (fun g24 => ?_) (fun g24 => ?_)
                                          · try simp only [zwr_rne, zwr_req, upd_ne, upd_eq, ne_eq, Nat.reduceEqDiff, not_false_eq_true, ca] at g24
                                            try omega
                                            all_goals
                                              try simp only [zwr_rne, zwr_req, upd_ne, upd_eq, ne_eq, Nat.reduceEqDiff, not_false_eq_true, ca]
                                              refine ⟨by first | assumption | exact vin (by omega) | exact vp_in_I.mpr (by omega), ?_⟩
                                              refine zeq (fun g25 => ?_) (fun g25 => ?_)
                                              · try simp only [zwr_rne, zwr_req, upd_ne, upd_eq, ne_eq, Nat.reduceEqDiff, not_false_eq_true, ca] at g25
                                                try omega
                                                all_goals
                                                  try simp only [zwr_rne, zwr_req, upd_ne, upd_eq, ne_eq, Nat.reduceEqDiff, not_false_eq_true, ca]
                                                  refine ⟨by first | assumption | exact vin (by omega) | exact vp_in_I.mpr (by omega), ?_⟩
                                                  rintro _ rfl
                                                  try simp only [zwr_rne, zwr_req, upd_ne, upd_eq, ne_eq, Nat.reduceEqDiff, not_false_eq_true, ca]
                                                  refine m_orNone s14 ?_
                                                  try simp only [zwr_rne, zwr_req, upd_ne, upd_eq, ne_eq, Nat.reduceEqDiff, not_false_eq_true, ca]
                                                  refine ⟨s5, ?_⟩
                                                  unfold Rall
                                                  simp only [zwr_rne, zwr_req, upd_ne, upd_eq, ne_eq, Nat.reduceEqDiff, not_false_eq_true]
                                                  subst gN
                                                  exact ⟨⟨k1, k2, k3, k4, k5, k6, k7, k8, k9⟩, kas.setC enc_m1.symm (by decide) (by rw [tim1]; omega), kcl, kda, kdh, kpl, kkp, ksh, kwt, ktp, klw, ksd, Rwx_stale, Rwx_stale⟩
                                              · try simp only [zwr_rne, zwr_req, upd_ne, upd_eq, ne_eq, Nat.reduceEqDiff, not_false_eq_true, ca] at g25
                                                try omega
                                                all_goals
                                                  try simp only [zwr_rne, zwr_req, upd_ne, upd_eq, ne_eq, Nat.reduceEqDiff, not_false_eq_true, ca]
                                                  refine ⟨by first | assumption | exact vin (by omega) | exact vp_in_I.mpr (by omega), ?_⟩
                                                  rintro _ rfl
                                                  try simp only [zwr_rne, zwr_req, upd_ne, upd_eq, ne_eq, Nat.reduceEqDiff, not_false_eq_true, ca]
                                                  refine m_orNone s14 ?_
                                                  try simp only [zwr_rne, zwr_req, upd_ne, upd_eq, ne_eq, Nat.reduceEqDiff, not_false_eq_true, ca]
                                                  refine ⟨s5, ?_⟩
                                                  unfold Rall
                                                  simp only [zwr_rne, zwr_req, upd_ne, upd_eq, ne_eq, Nat.reduceEqDiff, not_false_eq_true]
                                                  subst gN
                                                  exact ⟨⟨k1, k2, k3, k4, k5, k6, k7, k8, k9⟩, kas.setC enc_m1.symm (by decide) (by rw [tim1]; omega), kcl, kda, kdh, kpl, kkp, ksh, kwt, ktp, klw, ksd, Rwx_stale, Rwx_stale⟩
                                          · try simp only [zwr_rne, zwr_req, upd_ne, upd_eq, ne_eq, Nat.reduceEqDiff, not_false_eq_true, ca] at g24
                                            try omega
                                            all_goals
                                              try simp only [zwr_rne, zwr_req, upd_ne, upd_eq, ne_eq, Nat.reduceEqDiff, not_false_eq_true, ca]
                                              exact ⟨by first | rfl | trivial, hh⟩
                                      · try simp only [zwr_rne, zwr_req, upd_ne, upd_eq, ne_eq, Nat.reduceEqDiff, not_false_eq_true, ca] at g23
                                        try omega
                                        all_goals
                                          try simp only [zwr_rne, zwr_req, upd_ne, upd_eq, ne_eq, Nat.reduceEqDiff, not_false_eq_true, ca]
                                          exact ⟨by first | rfl | trivial, hh⟩
                              · try simp only [zwr_rne, zwr_req, upd_ne, upd_eq, ne_eq, Nat.reduceEqDiff, not_false_eq_true, ca] at g20
                                try omega
                                all_goals
                                  try simp only [zwr_rne, zwr_req, upd_ne, upd_eq, ne_eq, Nat.reduceEqDiff, not_false_eq_true, ca]
                                  refine m_isClaim (by first | omega | (simp only [zwr_rne, zwr_req, upd_ne, upd_eq, ne_eq, Nat.reduceEqDiff, not_false_eq_true, ca]; omega)) (fun g26 g26' => ?_) (fun g26 => ?_)
                                  · try simp only [zwr_rne, zwr_req, upd_ne, upd_eq, ne_eq, Nat.reduceEqDiff, not_false_eq_true, ca] at g26
                                    try simp only [zwr_rne, zwr_req, upd_ne, upd_eq, ne_eq, Nat.reduceEqDiff, not_false_eq_true, ca] at g26'
                                    try omega
                                    all_goals
                                      try simp only [one_ne, zero_eq, if_false, if_true, or_true, true_or, or_false, false_or]
                                      try simp only [zwr_rne, zwr_req, upd_ne, upd_eq, ne_eq, Nat.reduceEqDiff, not_false_eq_true, ca]
                                      refine zeq (fun g27 => ?_) (fun g27 => ?_)
                                      · try simp only [zwr_rne, zwr_req, upd_ne, upd_eq, ne_eq, Nat.reduceEqDiff, not_false_eq_true, ca] at g27
                                        try omega
                                        all_goals
                                          try simp only [zwr_rne, zwr_req, upd_ne, upd_eq, ne_eq, Nat.reduceEqDiff, not_false_eq_true, ca]
                                          refine ⟨by first | assumption | exact vin (by omega) | exact vp_in_I.mpr (by omega), ?_⟩
                                          refine zeq (fun g28 => ?_) (fun g28 => ?_)
                                          · try simp only [zwr_rne, zwr_req, upd_ne, upd_eq, ne_eq, Nat.reduceEqDiff, not_false_eq_true, ca] at g28
                                            try omega
                                            all_goals
                                              try simp only [zwr_rne, zwr_req, upd_ne, upd_eq, ne_eq, Nat.reduceEqDiff, not_false_eq_true, ca]
                                              refine ⟨by first | assumption | exact vin (by omega) | exact vp_in_I.mpr (by omega), ?_⟩
                                              rintro _ rfl
                                              try simp only [zwr_rne, zwr_req, upd_ne, upd_eq, ne_eq, Nat.reduceEqDiff, not_false_eq_true, ca]
                                              refine m_orNone s14 ?_
                                              try simp only [zwr_rne, zwr_req, upd_ne, upd_eq, ne_eq, Nat.reduceEqDiff, not_false_eq_true, ca]
                                              refine ⟨s5, ?_⟩
                                              unfold Rall
                                              simp only [zwr_rne, zwr_req, upd_ne, upd_eq, ne_eq, Nat.reduceEqDiff, not_false_eq_true]
                                              subst gN
                                              exact ⟨⟨k1, k2, k3, k4, k5, k6, k7, k8, k9⟩, kas.setC enc_m1.symm (by decide) (by rw [tim1]; omega), kcl, kda, kdh, kpl, kkp, ksh, kwt, ktp, klw, ksd, Rwx_stale, Rwx_stale⟩
                                          · try simp only [zwr_rne, zwr_req, upd_ne, upd_eq, ne_eq, Nat.reduceEqDiff, not_false_eq_true, ca] at g28
                                            try omega
                                            all_goals
                                              try simp only [zwr_rne, zwr_req, upd_ne, upd_eq, ne_eq, Nat.reduceEqDiff, not_false_eq_true, ca]
                                              refine ⟨by first | assumption | exact vin (by omega) | exact vp_in_I.mpr (by omega), ?_⟩
                                              rintro _ rfl
                                              try simp only [zwr_rne, zwr_req, upd_ne, upd_eq, ne_eq, Nat.reduceEqDiff, not_false_eq_true, ca]
                                              refine m_orNone s14 ?_
                                              try simp only [zwr_rne, zwr_req, upd_ne, upd_eq, ne_eq, Nat.reduceEqDiff, not_false_eq_true, ca]
                                              refine ⟨s5, ?_⟩
                                              unfold Rall
                                              simp only [zwr_rne, zwr_req, upd_ne, upd_eq, ne_eq, Nat.reduceEqDiff, not_false_eq_true]
                                              subst gN
                                              exact ⟨⟨k1, k2, k3, k4, k5, k6, k7, k8, k9⟩, kas.setC enc_m1.symm (by decide) (by rw [tim1]; omega), kcl, kda, kdh, kpl, kkp, ksh, kwt, ktp, klw, ksd, Rwx_stale, Rwx_stale⟩
                                      · try simp only [zwr_rne, zwr_req, upd_ne, upd_eq, ne_eq, Nat.reduceEqDiff, not_false_eq_true, ca] at g27
                                        try omega
                                        all_goals
                                          try simp only [zwr_rne, zwr_req, upd_ne, upd_eq, ne_eq, Nat.reduceEqDiff, not_false_eq_true, ca]
                                          refine ⟨by first | assumption | exact vin (by omega) | exact vp_in_I.mpr (by omega), ?_⟩
                                          refine zeq (fun g29 => ?_) (fun g29 => ?_)
                                          · try simp only [zwr_rne, zwr_req, upd_ne, upd_eq, ne_eq, Nat.reduceEqDiff, not_false_eq_true, ca] at g29
                                            try omega
                                            all_goals
                                              try simp only [zwr_rne, zwr_req, upd_ne, upd_eq, ne_eq, Nat.reduceEqDiff, not_false_eq_true, ca]
                                              refine ⟨by first | assumption | exact vin (by omega) | exact vp_in_I.mpr (by omega), ?_⟩
                                              refine ⟨by first | assumption | exact vin (by omega) | exact vp_in_I.mpr (by omega), ?_⟩
                                              refine zeq (fun g30 => ?_) (fun g30 => ?_)
                                              · try simp only [zwr_rne, zwr_req, upd_ne, upd_eq, ne_eq, Nat.reduceEqDiff, not_false_eq_true, ca] at g30
                                                try omega
                                                all_goals
                                                  try simp only [zwr_rne, zwr_req, upd_ne, upd_eq, ne_eq, Nat.reduceEqDiff, not_false_eq_true, ca]
                                                  refine ⟨by first | assumption | exact vin (by omega) | exact vp_in_I.mpr (by omega), ?_⟩
                                                  refine zeq (fun g31 => ?_) (fun g31 => ?_)
                                                  · try simp only [zwr_rne, zwr_req, upd_ne, upd_eq, ne_eq, Nat.reduceEqDiff, not_false_eq_true, ca] at g31
                                                    try omega
                                                    all_goals
                                                      try simp only [zwr_rne, zwr_req, upd_ne, upd_eq, ne_eq, Nat.reduceEqDiff, not_false_eq_true, ca]
                                                      refine ⟨by first | assumption | exact vin (by omega) | exact vp_in_I.mpr (by omega), ?_⟩
                                                      rintro _ rfl
                                                      try simp only [zwr_rne, zwr_req, upd_ne, upd_eq, ne_eq, Nat.reduceEqDiff, not_false_eq_true, ca]
                                                      refine m_orNone s14 ?_
                                                      try simp only [zwr_rne, zwr_req, upd_ne, upd_eq, ne_eq, Nat.reduceEqDiff, not_false_eq_true, ca]
                                                      refine ⟨s5, ?_⟩
                                                      unfold Rall
                                                      simp only [zwr_rne, zwr_req, upd_ne, upd_eq, ne_eq, Nat.reduceEqDiff, not_false_eq_true]
                                                      subst gN
                                                      exact ⟨⟨k1, k2, k3, k4, k5, k6, k7, k8, k9⟩, kas.setC enc_m1.symm (by decide) (by rw [tim1]; omega), kcl, kda, kdh, kpl, kkp, ksh, kwt, ktp, klw, ksd, Rwx_stale, Rwx_stale⟩
                                                  · try simp only [zwr_rne, zwr_req, upd_ne, upd_eq, ne_eq, Nat.reduceEqDiff, not_false_eq_true, ca] at g31
                                                    try omega
                                                    all_goals
                                                      try simp only [zwr_rne, zwr_req, upd_ne, upd_eq, ne_eq, Nat.reduceEqDiff, not_false_eq_true, ca]
                                                      refine ⟨by first | assumption | exact vin (by omega) | exact vp_in_I.mpr (by omega), ?_⟩
                                                      rintro _ rfl
                                                      try simp only [zwr_rne, zwr_req, upd_ne, upd_eq, ne_eq, Nat.reduceEqDiff, not_false_eq_true, ca]
                                                      refine m_orNone s14 ?_
                                                      try simp only [zwr_rne, zwr_req, upd_ne, upd_eq, ne_eq, Nat.reduceEqDiff, not_false_eq_true, ca]
                                                      refine ⟨s5, ?_⟩
                                                      unfold Rall
                                                      simp only [zwr_rne, zwr_req, upd_ne, upd_eq, ne_eq, Nat.reduceEqDiff, not_false_eq_true]
                                                      subst gN
                                                      exact ⟨⟨k1, k2, k3, k4, k5, k6, k7, k8, k9⟩, kas.setC enc_m1.symm (by decide) (by rw [tim1]; omega), kcl, kda, kdh, kpl, kkp, ksh, kwt, ktp, klw, ksd, Rwx_stale, Rwx_stale⟩
                                              · try simp only [zwr_rne, zwr_req, upd_ne, upd_eq, ne_eq, Nat.reduceEqDiff, not_false_eq_true, ca] at g30
                                                try omega
                                                all_goals
                                                  try simp only [zwr_rne, zwr_req, upd_ne, upd_eq, ne_eq, Nat.reduceEqDiff, not_false_eq_true, ca]
                                                  exact ⟨by first | rfl | trivial, hh⟩
                                          · try simp only [zwr_rne, zwr_req, upd_ne, upd_eq, ne_eq, Nat.reduceEqDiff, not_false_eq_true, ca] at g29
                                            try omega
                                            all_goals
                                              try simp only [zwr_rne, zwr_req, upd_ne, upd_eq, ne_eq, Nat.reduceEqDiff, not_false_eq_true, ca]
                                              exact ⟨by first | rfl | trivial, hh⟩
                                  · try simp only [zwr_rne, zwr_req, upd_ne, upd_eq, ne_eq, Nat.reduceEqDiff, not_false_eq_true, ca] at g26
                                    try omega
                                    all_goals
                                      try simp only [one_ne, zero_eq, if_false, if_true, or_true, true_or, or_false, false_or]
                                      try simp only [zwr_rne, zwr_req, upd_ne, upd_eq, ne_eq, Nat.reduceEqDiff, not_false_eq_true, ca]
                                      exact ⟨by first | rfl | trivial, hh⟩
                          · try simp only [zwr_rne, zwr_req, upd_ne, upd_eq, ne_eq, Nat.reduceEqDiff, not_false_eq_true, ca] at g19
                            try omega
                            all_goals
                              try simp only [one_ne, zero_eq, if_false, if_true, or_true, true_or, or_false, false_or]
                              try simp only [zwr_rne, zwr_req, upd_ne, upd_eq, ne_eq, Nat.reduceEqDiff, not_false_eq_true, ca]
                              exact ⟨by first | rfl | trivial, hh⟩
                      · try simp only [zwr_rne, zwr_req, upd_ne, upd_eq, ne_eq, Nat.reduceEqDiff, not_false_eq_true, ca] at g18
                        try omega
                        all_goals
                          refine en_X12_charge ?_
                          try simp only [zwr_rne, zwr_req, upd_ne, upd_eq, ne_eq, Nat.reduceEqDiff, not_false_eq_true, ca]
                          refine m_isAsset (by first | omega | (simp only [zwr_rne, zwr_req, upd_ne, upd_eq, ne_eq, Nat.reduceEqDiff, not_false_eq_true, ca]; omega)) (fun g32 g32' => ?_) (fun g32 => ?_)
                          · try simp only [zwr_rne, zwr_req, upd_ne, upd_eq, ne_eq, Nat.reduceEqDiff, not_false_eq_true, ca] at g32
                            try simp only [zwr_rne, zwr_req, upd_ne, upd_eq, ne_eq, Nat.reduceEqDiff, not_false_eq_true, ca] at g32'
                            try omega
                            all_goals
                              try simp only [one_ne, zero_eq, if_false, if_true, or_true, true_or, or_false, false_or]
                              try simp only [zwr_rne, zwr_req, upd_ne, upd_eq, ne_eq, Nat.reduceEqDiff, not_false_eq_true, ca]
                              refine zeq (fun g33 => ?_) (fun g33 => ?_)
                              · try simp only [zwr_rne, zwr_req, upd_ne, upd_eq, ne_eq, Nat.reduceEqDiff, not_false_eq_true, ca] at g33
                                try omega
                                all_goals
                                  try simp only [zwr_rne, zwr_req, upd_ne, upd_eq, ne_eq, Nat.reduceEqDiff, not_false_eq_true, ca]
                                  refine zeq (fun g34 => ?_) (fun g34 => ?_)
                                  · try simp only [zwr_rne, zwr_req, upd_ne, upd_eq, ne_eq, Nat.reduceEqDiff, not_false_eq_true, ca] at g34
                                    try omega
                                    all_goals
                                      try simp only [zwr_rne, zwr_req, upd_ne, upd_eq, ne_eq, Nat.reduceEqDiff, not_false_eq_true, ca]
                                      refine ⟨by first | assumption | exact vin (by omega) | exact vp_in_I.mpr (by omega), ?_⟩
                                      refine zeq (fun g35 => ?_) (fun g35 => ?_)
                                      · try simp only [zwr_rne, zwr_req, upd_ne, upd_eq, ne_eq, Nat.reduceEqDiff, not_false_eq_true, ca] at g35
                                        try omega
                                        all_goals
                                          try simp only [zwr_rne, zwr_req, upd_ne, upd_eq, ne_eq, Nat.reduceEqDiff, not_false_eq_true, ca]
                                          refine ⟨by first | assumption | exact vin (by omega) | exact vp_in_I.mpr (by omega), ?_⟩
                                          rintro _ rfl
                                          try simp only [zwr_rne, zwr_req, upd_ne, upd_eq, ne_eq, Nat.reduceEqDiff, not_false_eq_true, ca]
                                          refine m_orNone s14 ?_
                                          try simp only [zwr_rne, zwr_req, upd_ne, upd_eq, ne_eq, Nat.reduceEqDiff, not_false_eq_true, ca]
                                          refine ⟨s5, ?_⟩
                                          unfold Rall
                                          simp only [zwr_rne, zwr_req, upd_ne, upd_eq, ne_eq, Nat.reduceEqDiff, not_false_eq_true]
                                          subst gN
                                          exact ⟨⟨k1, k2, k3, k4, k5, k6, k7, k8, k9⟩, kas.setC enc_m1.symm (by decide) (by rw [tim1]; omega), kcl, kda, kdh, kpl, kkp, ksh, kwt, ktp, klw, ksd, Rwx_stale, Rwx_stale⟩
                                      · try simp only [zwr_rne, zwr_req, upd_ne, upd_eq, ne_eq, Nat.reduceEqDiff, not_false_eq_true, ca] at g35
                                        try omega
                                        all_goals
                                          try simp only [zwr_rne, zwr_req, upd_ne, upd_eq, ne_eq, Nat.reduceEqDiff, not_false_eq_true, ca]
                                          refine ⟨by first | assumption | exact vin (by omega) | exact vp_in_I.mpr (by omega), ?_⟩
                                          rintro _ rfl
                                          try simp only [zwr_rne, zwr_req, upd_ne, upd_eq, ne_eq, Nat.reduceEqDiff, not_false_eq_true, ca]
                                          refine m_orNone s14 ?_
                                          try simp only [zwr_rne, zwr_req, upd_ne, upd_eq, ne_eq, Nat.reduceEqDiff, not_false_eq_true, ca]
                                          refine ⟨s5, ?_⟩
                                          unfold Rall
                                          simp only [zwr_rne, zwr_req, upd_ne, upd_eq, ne_eq, Nat.reduceEqDiff, not_false_eq_true]
                                          subst gN
                                          exact ⟨⟨k1, k2, k3, k4, k5, k6, k7, k8, k9⟩, kas.setC enc_m1.symm (by decide) (by rw [tim1]; omega), kcl, kda, kdh, kpl, kkp, ksh, kwt, ktp, klw, ksd, Rwx_stale, Rwx_stale⟩
                                  · try simp only [zwr_rne, zwr_req, upd_ne, upd_eq, ne_eq, Nat.reduceEqDiff, not_false_eq_true, ca] at g34
                                    try omega
                                    all_goals
                                      try simp only [zwr_rne, zwr_req, upd_ne, upd_eq, ne_eq, Nat.reduceEqDiff, not_false_eq_true, ca]
                                      refine ⟨by first | assumption | exact vin (by omega) | exact vp_in_I.mpr (by omega), ?_⟩
                                      refine zeq (fun g36 => ?_) (fun g36 => ?_)
                                      · try simp only [zwr_rne, zwr_req, upd_ne, upd_eq, ne_eq, Nat.reduceEqDiff, not_false_eq_true, ca] at g36
                                        try omega
                                        all_goals
                                          try simp only [zwr_rne, zwr_req, upd_ne, upd_eq, ne_eq, Nat.reduceEqDiff, not_false_eq_true, ca]
                                          refine ⟨by first | assumption | exact vin (by omega) | exact vp_in_I.mpr (by omega), ?_⟩
                                          refine ⟨by first | assumption | exact vin (by omega) | exact vp_in_I.mpr (by omega), ?_⟩
                                          refine zeq (fun g37 => ?_) (fun g37 => ?_)
                                          · try simp only [zwr_rne, zwr_req, upd_ne, upd_eq, ne_eq, Nat.reduceEqDiff, not_false_eq_true, ca] at g37
                                            try omega
                                            all_goals
                                              try simp only [zwr_rne, zwr_req, upd_ne, upd_eq, ne_eq, Nat.reduceEqDiff, not_false_eq_true, ca]
                                              refine ⟨by first | assumption | exact vin (by omega) | exact vp_in_I.mpr (by omega), ?_⟩
                                              refine zeq (fun g38 => ?_) (fun g38 => ?_)
                                              · try simp only [zwr_rne, zwr_req, upd_ne, upd_eq, ne_eq, Nat.reduceEqDiff, not_false_eq_true, ca] at g38
                                                try omega
                                                all_goals
                                                  try simp only [zwr_rne, zwr_req, upd_ne, upd_eq, ne_eq, Nat.reduceEqDiff, not_false_eq_true, ca]
                                                  refine ⟨by first | assumption | exact vin (by omega) | exact vp_in_I.mpr (by omega), ?_⟩
                                                  rintro _ rfl
                                                  try simp only [zwr_rne, zwr_req, upd_ne, upd_eq, ne_eq, Nat.reduceEqDiff, not_false_eq_true, ca]
                                                  refine m_orNone s14 ?_
                                                  try simp only [zwr_rne, zwr_req, upd_ne, upd_eq, ne_eq, Nat.reduceEqDiff, not_false_eq_true, ca]
                                                  refine ⟨s5, ?_⟩
                                                  unfold Rall
                                                  simp only [zwr_rne, zwr_req, upd_ne, upd_eq, ne_eq, Nat.reduceEqDiff, not_false_eq_true]
                                                  subst gN
                                                  exact ⟨⟨k1, k2, k3, k4, k5, k6, k7, k8, k9⟩, kas.setC enc_m1.symm (by decide) (by rw [tim1]; omega), kcl, kda, kdh, kpl, kkp, ksh, kwt, ktp, klw, ksd, Rwx_stale, Rwx_stale⟩
                                              · try simp only [zwr_rne, zwr_req, upd_ne, upd_eq, ne_eq, Nat.reduceEqDiff, not_false_eq_true, ca] at g38
                                                try omega
                                                all_goals
                                                  try simp only [zwr_rne, zwr_req, upd_ne, upd_eq, ne_eq, Nat.reduceEqDiff, not_false_eq_true, ca]
                                                  refine ⟨by first | assumption | exact vin (by omega) | exact vp_in_I.mpr (by omega), ?_⟩
                                                  rintro _ rfl
                                                  try simp only [zwr_rne, zwr_req, upd_ne, upd_eq, ne_eq, Nat.reduceEqDiff, not_false_eq_true, ca]
                                                  refine m_orNone s14 ?_
                                                  try simp only [zwr_rne, zwr_req, upd_ne, upd_eq, ne_eq, Nat.reduceEqDiff, not_false_eq_true, ca]
                                                  refine ⟨s5, ?_⟩
                                                  unfold Rall
                                                  simp only [zwr_rne, zwr_req, upd_ne, upd_eq, ne_eq, Nat.reduceEqDiff, not_false_eq_true]
                                                  subst gN
                                                  exact ⟨⟨k1, k2, k3, k4, k5, k6, k7, k8, k9⟩, kas.setC enc_m1.symm (by decide) (by rw [tim1]; omega), kcl, kda, kdh, kpl, kkp, ksh, kwt, ktp, klw, ksd, Rwx_stale, Rwx_stale⟩
                                          · try simp only [zwr_rne, zwr_req, upd_ne, upd_eq, ne_eq, Nat.reduceEqDiff, not_false_eq_true, ca] at g37
                                            try omega
                                            all_goals
                                              try simp only [zwr_rne, zwr_req, upd_ne, upd_eq, ne_eq, Nat.reduceEqDiff, not_false_eq_true, ca]
                                              exact ⟨by first | rfl | trivial, hh⟩
                                      · try simp only [zwr_rne, zwr_req, upd_ne, upd_eq, ne_eq, Nat.reduceEqDiff, not_false_eq_true, ca] at g36
                                        try omega
                                        all_goals
                                          try simp only [zwr_rne, zwr_req, upd_ne, upd_eq, ne_eq, Nat.reduceEqDiff, not_false_eq_true, ca]
                                          exact ⟨by first | rfl | trivial, hh⟩
                              · try simp only [zwr_rne, zwr_req, upd_ne, upd_eq, ne_eq, Nat.reduceEqDiff, not_false_eq_true, ca] at g33
                                try omega
                                all_goals
                                  try simp only [zwr_rne, zwr_req, upd_ne, upd_eq, ne_eq, Nat.reduceEqDiff, not_false_eq_true, ca]
                                  refine m_isClaim (by first | omega | (simp only [zwr_rne, zwr_req, upd_ne, upd_eq, ne_eq, Nat.reduceEqDiff, not_false_eq_true, ca]; omega)) (fun g39 g39' => ?_) (fun g39 => ?_)
                                  · try simp only [zwr_rne, zwr_req, upd_ne, upd_eq, ne_eq, Nat.reduceEqDiff, not_false_eq_true, ca] at g39
                                    try simp only [zwr_rne, zwr_req, upd_ne, upd_eq, ne_eq, Nat.reduceEqDiff, not_false_eq_true, ca] at g39'
                                    try omega
                                    all_goals
                                      try simp only [one_ne, zero_eq, if_false, if_true, or_true, true_or, or_false, false_or]
                                      try simp only [zwr_rne, zwr_req, upd_ne, upd_eq, ne_eq, Nat.reduceEqDiff, not_false_eq_true, ca]
                                      refine zeq (fun g40 => ?_) (fun g40 => ?_)
                                      · try simp only [zwr_rne, zwr_req, upd_ne, upd_eq, ne_eq, Nat.reduceEqDiff, not_false_eq_true, ca] at g40
                                        try omega
                                        all_goals
                                          try simp only [zwr_rne, zwr_req, upd_ne, upd_eq, ne_eq, Nat.reduceEqDiff, not_false_eq_true, ca]
                                          refine ⟨by first | assumption | exact vin (by omega) | exact vp_in_I.mpr (by omega), ?_⟩
                                          refine zeq (fun g41 => ?_) (fun g41 => ?_)
                                          · try simp only [zwr_rne, zwr_req, upd_ne, upd_eq, ne_eq, Nat.reduceEqDiff, not_false_eq_true, ca] at g41
                                            try omega
                                            all_goals
                                              try simp only [zwr_rne, zwr_req, upd_ne, upd_eq, ne_eq, Nat.reduceEqDiff, not_false_eq_true, ca]
                                              refine ⟨by first | assumption | exact vin (by omega) | exact vp_in_I.mpr (by omega), ?_⟩
                                              rintro _ rfl
                                              try simp only [zwr_rne, zwr_req, upd_ne, upd_eq, ne_eq, Nat.reduceEqDiff, not_false_eq_true, ca]
                                              refine m_orNone s14 ?_
                                              try simp only [zwr_rne, zwr_req, upd_ne, upd_eq, ne_eq, Nat.reduceEqDiff, not_false_eq_true, ca]
                                              refine ⟨s5, ?_⟩
                                              unfold Rall
                                              simp only [zwr_rne, zwr_req, upd_ne, upd_eq, ne_eq, Nat.reduceEqDiff, not_false_eq_true]
                                              subst gN
                                              exact ⟨⟨k1, k2, k3, k4, k5, k6, k7, k8, k9⟩, kas.setC enc_m1.symm (by decide) (by rw [tim1]; omega), kcl, kda, kdh, kpl, kkp, ksh, kwt, ktp, klw, ksd, Rwx_stale, Rwx_stale⟩
                                          · try simp only [zwr_rne, zwr_req, upd_ne, upd_eq, ne_eq, Nat.reduceEqDiff, not_false_eq_true, ca] at g41
                                            try omega
                                            all_goals
                                              try simp only [zwr_rne, zwr_req, upd_ne, upd_eq, ne_eq, Nat.reduceEqDiff, not_false_eq_true, ca]
                                              refine ⟨by first | assumption | exact vin (by omega) | exact vp_in_I.mpr (by omega), ?_⟩
                                              rintro _ rfl
                                              try simp only [zwr_rne, zwr_req, upd_ne, upd_eq, ne_eq, Nat.reduceEqDiff, not_false_eq_true, ca]
                                              refine m_orNone s14 ?_
                                              try simp only [zwr_rne, zwr_req, upd_ne, upd_eq, ne_eq, Nat.reduceEqDiff, not_false_eq_true, ca]
                                              refine ⟨s5, ?_⟩
                                              unfold Rall
                                              simp only [zwr_rne, zwr_req, upd_ne, upd_eq, ne_eq, Nat.reduceEqDiff, not_false_eq_true]
                                              subst gN
                                              exact ⟨⟨k1, k2, k3, k4, k5, k6, k7, k8, k9⟩, kas.setC enc_m1.symm (by decide) (by rw [tim1]; omega), kcl, kda, kdh, kpl, kkp, ksh, kwt, ktp, klw, ksd, Rwx_stale, Rwx_stale⟩
                                      · try simp only [zwr_rne, zwr_req, upd_ne, upd_eq, ne_eq, Nat.reduceEqDiff, not_false_eq_true, ca] at g40
                                        try omega
                                        all_goals
                                          try simp only [zwr_rne, zwr_req, upd_ne, upd_eq, ne_eq, Nat.reduceEqDiff, not_false_eq_true, ca]
                                          refine ⟨by first | assumption | exact vin (by omega) | exact vp_in_I.mpr (by omega), ?_⟩
                                          refine zeq (fun g42 => ?_) (fun g42 => ?_)
                                          · try simp only [zwr_rne, zwr_req, upd_ne, upd_eq, ne_eq, Nat.reduceEqDiff, not_false_eq_true, ca] at g42
                                            try omega
                                            all_goals
                                              try simp only [zwr_rne, zwr_req, upd_ne, upd_eq, ne_eq, Nat.reduceEqDiff, not_false_eq_true, ca]
                                              refine ⟨by first | assumption | exact vin (by omega) | exact vp_in_I.mpr (by omega), ?_⟩
                                              refine ⟨by first | assumption | exact vin (by omega) | exact vp_in_I.mpr (by omega), ?_⟩
                                              refine zeq (fun g43 => ?_) (fun g43 => ?_)
                                              · try simp only [zwr_rne, zwr_req, upd_ne, upd_eq, ne_eq, Nat.reduceEqDiff, not_false_eq_true, ca] at g43
                                                try omega
                                                all_goals
                                                  try simp only [zwr_rne, zwr_req, upd_ne, upd_eq, ne_eq, Nat.reduceEqDiff, not_false_eq_true, ca]
                                                  refine ⟨by first | assumption | exact vin (by omega) | exact vp_in_I.mpr (by omega), ?_⟩
                                                  refine zeq (fun g44 => ?_) (fun g44 => ?_)
                                                  · try simp only [zwr_rne, zwr_req, upd_ne, upd_eq, ne_eq, Nat.reduceEqDiff, not_false_eq_true, ca] at g44
                                                    try omega
                                                    all_goals
                                                      try simp only [zwr_rne, zwr_req, upd_ne, upd_eq, ne_eq, Nat.reduceEqDiff, not_false_eq_true, ca]
                                                      refine ⟨by first | assumption | exact vin (by omega) | exact vp_in_I.mpr (by omega), ?_⟩
                                                      rintro _ rfl
                                                      try simp only [zwr_rne, zwr_req, upd_ne, upd_eq, ne_eq, Nat.reduceEqDiff, not_false_eq_true, ca]
                                                      refine m_orNone s14 ?_
                                                      try simp only [zwr_rne, zwr_req, upd_ne, upd_eq, ne_eq, Nat.reduceEqDiff, not_false_eq_true, ca]
                                                      refine ⟨s5, ?_⟩
                                                      unfold Rall
                                                      simp only [zwr_rne, zwr_req, upd_ne, upd_eq, ne_eq, Nat.reduceEqDiff, not_false_eq_true]
                                                      subst gN
                                                      exact ⟨⟨k1, k2, k3, k4, k5, k6, k7, k8, k9⟩, kas.setC enc_m1.symm (by decide) (by rw [tim1]; omega), kcl, kda, kdh, kpl, kkp, ksh, kwt, ktp, klw, ksd, Rwx_stale, Rwx_stale⟩
                                                  · try simp only [zwr_rne, zwr_req, upd_ne, upd_eq, ne_eq, Nat.reduceEqDiff, not_false_eq_true, ca] at g44
                                                    try omega
                                                    all_goals
                                                      try simp only [zwr_rne, zwr_req, upd_ne, upd_eq, ne_eq, Nat.reduceEqDiff, not_false_eq_true, ca]
                                                      refine ⟨by first | assumption | exact vin (by omega) | exact vp_in_I.mpr (by omega), ?_⟩
                                                      rintro _ rfl
                                                      try simp only [zwr_rne, zwr_req, upd_ne, upd_eq, ne_eq, Nat.reduceEqDiff, not_false_eq_true, ca]
                                                      refine m_orNone s14 ?_
                                                      try simp only [zwr_rne, zwr_req, upd_ne, upd_eq, ne_eq, Nat.reduceEqDiff, not_false_eq_true, ca]
                                                      refine ⟨s5, ?_⟩
                                                      unfold Rall
                                                      simp only [zwr_rne, zwr_req, upd_ne, upd_eq, ne_eq, Nat.reduceEqDiff, not_false_eq_true]
                                                      subst gN
                                                      exact ⟨⟨k1, k2, k3, k4, k5, k6, k7, k8, k9⟩, kas.setC enc_m1.symm (by decide) (by rw [tim1]; omega), kcl, kda, kdh, kpl, kkp, ksh, kwt, ktp, klw, ksd, Rwx_stale, Rwx_stale⟩
                                              · try simp only [zwr_rne, zwr_req, upd_ne, upd_eq, ne_eq, Nat.reduceEqDiff, not_false_eq_true, ca] at g43
                                                try omega
                                                all_goals
                                                  try simp only [zwr_rne, zwr_req, upd_ne, upd_eq, ne_eq, Nat.reduceEqDiff, not_false_eq_true, ca]
                                                  exact ⟨by first | rfl | trivial, hh⟩
                                          · try simp only [zwr_rne, zwr_req, upd_ne, upd_eq, ne_eq, Nat.reduceEqDiff, not_false_eq_true, ca] at g42
                                            try omega
                                            all_goals
                                              try simp only [zwr_rne, zwr_req, upd_ne, upd_eq, ne_eq, Nat.reduceEqDiff, not_false_eq_true, ca]
                                              exact ⟨by first | rfl | trivial, hh⟩
                                  · try simp only [zwr_rne, zwr_req, upd_ne, upd_eq, ne_eq, Nat.reduceEqDiff, not_false_eq_true, ca] at g39
                                    try omega
                                    all_goals
                                      try simp only [one_ne, zero_eq, if_false, if_true, or_true, true_or, or_false, false_or]
                                      try simp only [zwr_rne, zwr_req, upd_ne, upd_eq, ne_eq, Nat.reduceEqDiff, not_false_eq_true, ca]
                                      exact ⟨by first | rfl | trivial, hh⟩
                          · try simp only [zwr_rne, zwr_req, upd_ne, upd_eq, ne_eq, Nat.reduceEqDiff, not_false_eq_true, ca] at g32
                            try omega
                            all_goals
                              try simp only [one_ne, zero_eq, if_false, if_true, or_true, true_or, or_false, false_or]
                              try simp only [zwr_rne, zwr_req, upd_ne, upd_eq, ne_eq, Nat.reduceEqDiff, not_false_eq_true, ca]
                              exact ⟨by first | rfl | trivial, hh⟩
                  · try simp only [zwr_rne, zwr_req, upd_ne, upd_eq, ne_eq, Nat.reduceEqDiff, not_false_eq_true, ca] at g17
                    try omega
                    all_goals
                      refine en_X12_charge ?_
                      try simp only [zwr_rne, zwr_req, upd_ne, upd_eq, ne_eq, Nat.reduceEqDiff, not_false_eq_true, ca]
                      refine m_isAsset (by first | omega | (simp only [zwr_rne, zwr_req, upd_ne, upd_eq, ne_eq, Nat.reduceEqDiff, not_false_eq_true, ca]; omega)) (fun g45 g45' => ?_) (fun g45 => ?_)
                      · try simp only [zwr_rne, zwr_req, upd_ne, upd_eq, ne_eq, Nat.reduceEqDiff, not_false_eq_true, ca] at g45
                        try simp only [zwr_rne, zwr_req, upd_ne, upd_eq, ne_eq, Nat.reduceEqDiff, not_false_eq_true, ca] at g45'
                        try omega
                        all_goals
                          try simp only [one_ne, zero_eq, if_false, if_true, or_true, true_or, or_false, false_or]
                          try simp only [zwr_rne, zwr_req, upd_ne, upd_eq, ne_eq, Nat.reduceEqDiff, not_false_eq_true, ca]
                          refine zeq (fun g46 => ?_) (fun g46 => ?_)
                          · try simp only [zwr_rne, zwr_req, upd_ne, upd_eq, ne_eq, Nat.reduceEqDiff, not_false_eq_true, ca] at g46
                            try omega
                            all_goals
                              try simp only [zwr_rne, zwr_req, upd_ne, upd_eq, ne_eq, Nat.reduceEqDiff, not_false_eq_true, ca]
                              refine zeq (fun g47 => ?_) (fun g47 => ?_)
                              · try simp only [zwr_rne, zwr_req, upd_ne, upd_eq, ne_eq, Nat.reduceEqDiff, not_false_eq_true, ca] at g47
                                try omega
                                all_goals
                                  try simp only [zwr_rne, zwr_req, upd_ne, upd_eq, ne_eq, Nat.reduceEqDiff, not_false_eq_true, ca]
                                  refine ⟨by first | assumption | exact vin (by omega) | exact vp_in_I.mpr (by omega), ?_⟩
                                  refine zeq (fun g48 => ?_) (fun g48 => ?_)
                                  · try simp only [zwr_rne, zwr_req, upd_ne, upd_eq, ne_eq, Nat.reduceEqDiff, not_false_eq_true, ca] at g48
                                    try omega
                                    all_goals
                                      try simp only [zwr_rne, zwr_req, upd_ne, upd_eq, ne_eq, Nat.reduceEqDiff, not_false_eq_true, ca]
                                      refine ⟨by first | assumption | exact vin (by omega) | exact vp_in_I.mpr (by omega), ?_⟩
                                      rintro _ rfl
                                      try simp only [zwr_rne, zwr_req, upd_ne, upd_eq, ne_eq, Nat.reduceEqDiff, not_false_eq_true, ca]
                                      refine m_orNone s14 ?_
                                      try simp only [zwr_rne, zwr_req, upd_ne, upd_eq, ne_eq, Nat.reduceEqDiff, not_false_eq_true, ca]
                                      refine ⟨s5, ?_⟩
                                      unfold Rall
                                      simp only [zwr_rne, zwr_req, upd_ne, upd_eq, ne_eq, Nat.reduceEqDiff, not_false_eq_true]
                                      subst gN
                                      exact ⟨⟨k1, k2, k3, k4, k5, k6, k7, k8, k9⟩, kas.setC enc_m1.symm (by decide) (by rw [tim1]; omega), kcl, kda, kdh, kpl, kkp, ksh, kwt, ktp, klw, ksd, Rwx_stale, Rwx_stale⟩
                                  · try simp only [zwr_rne, zwr_req, upd_ne, upd_eq, ne_eq, Nat.reduceEqDiff, not_false_eq_true, ca] at g48
                                    try omega
                                    all_goals
                                      try simp only [zwr_rne, zwr_req, upd_ne, upd_eq, ne_eq, Nat.reduceEqDiff, not_false_eq_true, ca]
                                      refine ⟨by first | assumption | exact vin (by omega) | exact vp_in_I.mpr (by omega), ?_⟩
                                      rintro _ rfl
                                      try simp only [zwr_rne, zwr_req, upd_ne, upd_eq, ne_eq, Nat.reduceEqDiff, not_false_eq_true, ca]
                                      refine m_orNone s14 ?_
                                      try simp only [zwr_rne, zwr_req, upd_ne, upd_eq, ne_eq, Nat.reduceEqDiff, not_false_eq_true, ca]
                                      refine ⟨s5, ?_⟩
                                      unfold Rall
                                      simp only [zwr_rne, zwr_req, upd_ne, upd_eq, ne_eq, Nat.reduceEqDiff, not_false_eq_true]
                                      subst gN
                                      exact ⟨⟨k1, k2, k3, k4, k5, k6, k7, k8, k9⟩, kas.setC enc_m1.symm (by decide) (by rw [tim1]; omega), kcl, kda, kdh, kpl, kkp, ksh, kwt, ktp, klw, ksd, Rwx_stale, Rwx_stale⟩
                              · try simp only [zwr_rne, zwr_req, upd_ne, upd_eq, ne_eq, Nat.reduceEqDiff, not_false_eq_true, ca] at g47
                                try omega
                                all_goals
                                  try simp only [zwr_rne, zwr_req, upd_ne, upd_eq, ne_eq, Nat.reduceEqDiff, not_false_eq_true, ca]
                                  refine ⟨by first | assumption | exact vin (by omega) | exact vp_in_I.mpr (by omega), ?_⟩
                                  refine zeq (fun g49 => ?_) (fun g49 => ?_)
                                  · try simp only [zwr_rne, zwr_req, upd_ne, upd_eq, ne_eq, Nat.reduceEqDiff, not_false_eq_true, ca] at g49
                                    try omega
                                    all_goals
                                      try simp only [zwr_rne, zwr_req, upd_ne, upd_eq, ne_eq, Nat.reduceEqDiff, not_false_eq_true, ca]
                                      refine ⟨by first | assumption | exact vin (by omega) | exact vp_in_I.mpr (by omega), ?_⟩
                                      refine ⟨by first | assumption | exact vin (by omega) | exact vp_in_I.mpr (by omega), ?_⟩
                                      refine zeq (fun g50 => ?_) (fun g50 => ?_)
                                      · try simp only [zwr_rne, zwr_req, upd_ne, upd_eq, ne_eq, Nat.reduceEqDiff, not_false_eq_true, ca] at g50
                                        try omega
                                        all_goals
                                          try simp only [zwr_rne, zwr_req, upd_ne, upd_eq, ne_eq, Nat.reduceEqDiff, not_false_eq_true, ca]
                                          refine ⟨by first | assumption | exact vin (by omega) | exact vp_in_I.mpr (by omega), ?_⟩
                                          refine zeq (fun g51 => ?_) (fun g51 => ?_)
                                          · try simp only [zwr_rne, zwr_req, upd_ne, upd_eq, ne_eq, Nat.reduceEqDiff, not_false_eq_true, ca] at g51
                                            try omega
                                            all_goals
                                              try simp only [zwr_rne, zwr_req, upd_ne, upd_eq, ne_eq, Nat.reduceEqDiff, not_false_eq_true, ca]
                                              refine ⟨by first | assumption | exact vin (by omega) | exact vp_in_I.mpr (by omega), ?_⟩
                                              rintro _ rfl
                                              try simp only [zwr_rne, zwr_req, upd_ne, upd_eq, ne_eq, Nat.reduceEqDiff, not_false_eq_true, ca]
                                              refine m_orNone s14 ?_
                                              try simp only [zwr_rne, zwr_req, upd_ne, upd_eq, ne_eq, Nat.reduceEqDiff, not_false_eq_true, ca]
                                              refine ⟨s5, ?_⟩
                                              unfold Rall
                                              simp only [zwr_rne, zwr_req, upd_ne, upd_eq, ne_eq, Nat.reduceEqDiff, not_false_eq_true]
                                              subst gN
                                              exact ⟨⟨k1, k2, k3, k4, k5, k6, k7, k8, k9⟩, kas.setC enc_m1.symm (by decide) (by rw [tim1]; omega), kcl, kda, kdh, kpl, kkp, ksh, kwt, ktp, klw, ksd, Rwx_stale, Rwx_stale⟩
                                          · try simp only [zwr_rne, zwr_req, upd_ne, upd_eq, ne_eq, Nat.reduceEqDiff, not_false_eq_true, ca] at g51
                                            try omega
                                            all_goals
                                              try simp only [zwr_rne, zwr_req, upd_ne, upd_eq, ne_eq, Nat.reduceEqDiff, not_false_eq_true, ca]
                                              refine ⟨by first | assumption | exact vin (by omega) | exact vp_in_I.mpr (by omega), ?_⟩
                                              rintro _ rfl
                                              try simp only [zwr_rne, zwr_req, upd_ne, upd_eq, ne_eq, Nat.reduceEqDiff, not_false_eq_true, ca]
                                              refine m_orNone s14 ?_
                                              try simp only [zwr_rne, zwr_req, upd_ne, upd_eq, ne_eq, Nat.reduceEqDiff, not_false_eq_true, ca]
                                              refine ⟨s5, ?_⟩
                                              unfold Rall
                                              simp only [zwr_rne, zwr_req, upd_ne, upd_eq, ne_eq, Nat.reduceEqDiff, not_false_eq_true]
                                              subst gN
                                              exact ⟨⟨k1, k2, k3, k4, k5, k6, k7, k8, k9⟩, kas.setC enc_m1.symm (by decide) (by rw [tim1]; omega), kcl, kda, kdh, kpl, kkp, ksh, kwt, ktp, klw, ksd, Rwx_stale, Rwx_stale⟩
                                      · try simp only [zwr_rne, zwr_req, upd_ne, upd_eq, ne_eq, Nat.reduceEqDiff, not_false_eq_true, ca] at g50
                                        try omega
                                        all_goals
                                          try simp only [zwr_rne, zwr_req, upd_ne, upd_eq, ne_eq, Nat.reduceEqDiff, not_false_eq_true, ca]
                                          exact ⟨by first | rfl | trivial, hh⟩
                                  · try simp only [zwr_rne, zwr_req, upd_ne, upd_eq, ne_eq, Nat.reduceEqDiff, not_false_eq_true, ca] at g49
                                    try omega
                                    all_goals
                                      try simp only [zwr_rne, zwr_req, upd_ne, upd_eq, ne_eq, Nat.reduceEqDiff, not_false_eq_true, ca]
                                      exact ⟨by first | rfl | trivial, hh⟩
                          · try simp only [zwr_rne, zwr_req, upd_ne, upd_eq, ne_eq, Nat.reduceEqDiff, not_false_eq_true, ca] at g46
                            try omega
                            all_goals
                              try simp only [zwr_rne, zwr_req, upd_ne, upd_eq, ne_eq, Nat.reduceEqDiff, not_false_eq_true, ca]
                              refine m_isClaim (by first | omega | (simp only [zwr_rne, zwr_req, upd_ne, upd_eq, ne_eq, Nat.reduceEqDiff, not_false_eq_true, ca]; omega)) (fun g52 g52' => ?_) (fun g52 => ?_)
                              · try simp only [zwr_rne, zwr_req, upd_ne, upd_eq, ne_eq, Nat.reduceEqDiff, not_false_eq_true, ca] at g52
                                try simp only [zwr_rne, zwr_req, upd_ne, upd_eq, ne_eq, Nat.reduceEqDiff, not_false_eq_true, ca] at g52'
                                try omega
                                all_goals
                                  try simp only [one_ne, zero_eq, if_false, if_true, or_true, true_or, or_false, false_or]
                                  try simp only [zwr_rne, zwr_req, upd_ne, upd_eq, ne_eq, Nat.reduceEqDiff, not_false_eq_true, ca]
                                  refine zeq (fun g53 => ?_) (fun g53 => ?_)
                                  · try simp only [zwr_rne, zwr_req, upd_ne, upd_eq, ne_eq, Nat.reduceEqDiff, not_false_eq_true, ca] at g53
                                    try omega
                                    all_goals
                                      try simp only [zwr_rne, zwr_req, upd_ne, upd_eq, ne_eq, Nat.reduceEqDiff, not_false_eq_true, ca]
                                      refine ⟨by first | assumption | exact vin (by omega) | exact vp_in_I.mpr (by omega), ?_⟩
                                      refine zeq (fun g54 => ?_) (fun g54 => ?_)
                                      · try simp only [zwr_rne, zwr_req, upd_ne, upd_eq, ne_eq, Nat.reduceEqDiff, not_false_eq_true, ca] at g54
                                        try omega
                                        all_goals
                                          try simp only [zwr_rne, zwr_req, upd_ne, upd_eq, ne_eq, Nat.reduceEqDiff, not_false_eq_true, ca]
                                          refine ⟨by first | assumption | exact vin (by omega) | exact vp_in_I.mpr (by omega), ?_⟩
                                          rintro _ rfl
                                          try simp only [zwr_rne, zwr_req, upd_ne, upd_eq, ne_eq, Nat.reduceEqDiff, not_false_eq_true, ca]
                                          refine m_orNone s14 ?_
                                          try simp only [zwr_rne, zwr_req, upd_ne, upd_eq, ne_eq, Nat.reduceEqDiff, not_false_eq_true, ca]
                                          refine ⟨s5, ?_⟩
                                          unfold Rall
                                          simp only [zwr_rne, zwr_req, upd_ne, upd_eq, ne_eq, Nat.reduceEqDiff, not_false_eq_true]
                                          subst gN
                                          exact ⟨⟨k1, k2, k3, k4, k5, k6, k7, k8, k9⟩, kas.setC enc_m1.symm (by decide) (by rw [tim1]; omega), kcl, kda, kdh, kpl, kkp, ksh, kwt, ktp, klw, ksd, Rwx_stale, Rwx_stale⟩
                                      · try simp only [zwr_rne, zwr_req, upd_ne, upd_eq, ne_eq, Nat.reduceEqDiff, not_false_eq_true, ca] at g54
                                        try omega
                                        all_goals
                                          try simp only [zwr_rne, zwr_req, upd_ne, upd_eq, ne_eq, Nat.reduceEqDiff, not_false_eq_true, ca]
                                          refine ⟨by first | assumption | exact vin (by omega) | exact vp_in_I.mpr (by omega), ?_⟩
                                          rintro _ rfl
                                          try simp only [zwr_rne, zwr_req, upd_ne, upd_eq, ne_eq, Nat.reduceEqDiff, not_false_eq_true, ca]
                                          refine m_orNone s14 ?_
                                          try simp only [zwr_rne, zwr_req, upd_ne, upd_eq, ne_eq, Nat.reduceEqDiff, not_false_eq_true, ca]
                                          refine ⟨s5, ?_⟩
                                          unfold Rall
                                          simp only [zwr_rne, zwr_req, upd_ne, upd_eq, ne_eq, Nat.reduceEqDiff, not_false_eq_true]
                                          subst gN
                                          exact ⟨⟨k1, k2, k3, k4, k5, k6, k7, k8, k9⟩, kas.setC enc_m1.symm (by decide) (by rw [tim1]; omega), kcl, kda, kdh, kpl, kkp, ksh, kwt, ktp, klw, ksd, Rwx_stale, Rwx_stale⟩
                                  · try simp only [zwr_rne, zwr_req, upd_ne, upd_eq, ne_eq, Nat.reduceEqDiff, not_false_eq_true, ca] at g53
                                    try omega
                                    all_goals
                                      try simp only [zwr_rne, zwr_req, upd_ne, upd_eq, ne_eq, Nat.reduceEqDiff, not_false_eq_true, ca]
                                      refine ⟨by first | assumption | exact vin (by omega) | exact vp_in_I.mpr (by omega), ?_⟩
                                      refine zeq (fun g55 => ?_) (fun g55 => ?_)
                                      · try simp only [zwr_rne, zwr_req, upd_ne, upd_eq, ne_eq, Nat.reduceEqDiff, not_false_eq_true, ca] at g55
                                        try omega
                                        all_goals
                                          try simp only [zwr_rne, zwr_req, upd_ne, upd_eq, ne_eq, Nat.reduceEqDiff, not_false_eq_true, ca]
                                          refine ⟨by first | assumption | exact vin (by omega) | exact vp_in_I.mpr (by omega), ?_⟩
                                          refine ⟨by first | assumption | exact vin (by omega) | exact vp_in_I.mpr (by omega), ?_⟩
                                          refine zeq (fun g56 => ?_) (fun g56 => ?_)
                                          · try simp only [zwr_rne, zwr_req, upd_ne, upd_eq, ne_eq, Nat.reduceEqDiff, not_false_eq_true, ca] at g56
                                            try omega
                                            all_goals
                                              try simp only [zwr_rne, zwr_req, upd_ne, upd_eq, ne_eq, Nat.reduceEqDiff, not_false_eq_true, ca]
                                              refine ⟨by first | assumption | exact vin (by omega) | exact vp_in_I.mpr (by omega), ?_⟩
                                              refine zeq (fun g57 => ?_) (fun g57 => ?_)
                                              · try simp only [zwr_rne, zwr_req, upd_ne, upd_eq, ne_eq, Nat.reduceEqDiff, not_false_eq_true, ca] at g57
                                                try omega
                                                all_goals
                                                  try simp only [zwr_rne, zwr_req, upd_ne, upd_eq, ne_eq, Nat.reduceEqDiff, not_false_eq_true, ca]
                                                  refine ⟨by first | assumption | exact vin (by omega) | exact vp_in_I.mpr (by omega), ?_⟩
                                                  rintro _ rfl
                                                  try simp only [zwr_rne, zwr_req, upd_ne, upd_eq, ne_eq, Nat.reduceEqDiff, not_false_eq_true, ca]
                                                  refine m_orNone s14 ?_
                                                  try simp only [zwr_rne, zwr_req, upd_ne, upd_eq, ne_eq, Nat.reduceEqDiff, not_false_eq_true, ca]
                                                  refine ⟨s5, ?_⟩
                                                  unfold Rall
                                                  simp only [zwr_rne, zwr_req, upd_ne, upd_eq, ne_eq, Nat.reduceEqDiff, not_false_eq_true]
                                                  subst gN
                                                  exact ⟨⟨k1, k2, k3, k4, k5, k6, k7, k8, k9⟩, kas.setC enc_m1.symm (by decide) (by rw [tim1]; omega), kcl, kda, kdh, kpl, kkp, ksh, kwt, ktp, klw, ksd, Rwx_stale, Rwx_stale⟩
                                              · try simp only [zwr_rne, zwr_req, upd_ne, upd_eq, ne_eq, Nat.reduceEqDiff, not_false_eq_true, ca] at g57
                                                try omega
                                                all_goals
                                                  try simp only [zwr_rne, zwr_req, upd_ne, upd_eq, ne_eq, Nat.reduceEqDiff, not_false_eq_true, ca]
                                                  refine ⟨by first | assumption | exact vin (by omega) | exact vp_in_I.mpr (by omega), ?_⟩
                                                  rintro _ rfl
                                                  try simp only [zwr_rne, zwr_req, upd_ne, upd_eq, ne_eq, Nat.reduceEqDiff, not_false_eq_true, ca]
                                                  refine m_orNone s14 ?_
                                                  try simp only [zwr_rne, zwr_req, upd_ne, upd_eq, ne_eq, Nat.reduceEqDiff, not_false_eq_true, ca]
                                                  refine ⟨s5, ?_⟩
                                                  unfold Rall
                                                  simp only [zwr_rne, zwr_req, upd_ne, upd_eq, ne_eq, Nat.reduceEqDiff, not_false_eq_true]
                                                  subst gN
                                                  exact ⟨⟨k1, k2, k3, k4, k5, k6, k7, k8, k9⟩, kas.setC enc_m1.symm (by decide) (by rw [tim1]; omega), kcl, kda, kdh, kpl, kkp, ksh, kwt, ktp, klw, ksd, Rwx_stale, Rwx_stale⟩
                                          · try simp only [zwr_rne, zwr_req, upd_ne, upd_eq, ne_eq, Nat.reduceEqDiff, not_false_eq_true, ca] at g56
                                            try omega
                                            all_goals
                                              try simp only [zwr_rne, zwr_req, upd_ne, upd_eq, ne_eq, Nat.reduceEqDiff, not_false_eq_true, ca]
                                              exact ⟨by first | rfl | trivial, hh⟩
                                      · try simp only [zwr_rne, zwr_req, upd_ne, upd_eq, ne_eq, Nat.reduceEqDiff, not_false_eq_true, ca] at g55
                                        try omega
                                        all_goals
                                          try simp only [zwr_rne, zwr_req, upd_ne, upd_eq, ne_eq, Nat.reduceEqDiff, not_false_eq_true, ca]
                                          exact ⟨by first | rfl | trivial, hh⟩
                              · try simp only [zwr_rne, zwr_req, upd_ne, upd_eq, ne_eq, Nat.reduceEqDiff, not_false_eq_true, ca] at g52
                                try omega
                                all_goals
                                  try simp only [one_ne, zero_eq, if_false, if_true, or_true, true_or, or_false, false_or]
                                  try simp only [zwr_rne, zwr_req, upd_ne, upd_eq, ne_eq, Nat.reduceEqDiff, not_false_eq_true, ca]
                                  exact ⟨by first | rfl | trivial, hh⟩
                      · try simp only [zwr_rne, zwr_req, upd_ne, upd_eq, ne_eq, Nat.reduceEqDiff, not_false_eq_true, ca] at g45
                        try omega
                        all_goals
                          try simp only [one_ne, zero_eq, if_false, if_true, or_true, true_or, or_false, false_or]
                          try simp only [zwr_rne, zwr_req, upd_ne, upd_eq, ne_eq, Nat.reduceEqDiff, not_false_eq_true, ca]
                          exact ⟨by first | rfl | trivial, hh⟩
          · try simp only [zwr_rne, zwr_req, upd_ne, upd_eq, ne_eq, Nat.reduceEqDiff, not_false_eq_true, ca] at g2
            try omega
            all_goals
              refine c_hasC (fun g58 g58' => ?_) (fun g58 => ?_)
              · try simp only [zwr_rne, zwr_req, upd_ne, upd_eq, ne_eq, Nat.reduceEqDiff, not_false_eq_true, ca] at g58
                try simp only [zwr_rne, zwr_req, upd_ne, upd_eq, ne_eq, Nat.reduceEqDiff, not_false_eq_true, ca] at g58'
                try omega
                all_goals
                  try simp only [one_ne, zero_eq, if_false, if_true, or_true, true_or, or_false, false_or]
                  refine zeq (fun g59 => ?_) (fun g59 => ?_)
                  · try simp only [zwr_rne, zwr_req, upd_ne, upd_eq, ne_eq, Nat.reduceEqDiff, not_false_eq_true, ca] at g59
                    try omega
                    all_goals
                      refine ⟨by first | assumption | exact vin (by omega) | exact vp_in_I.mpr (by omega), ?_⟩
                      refine ⟨by first | assumption | exact vin (by omega) | exact vp_in_I.mpr (by omega), ?_⟩
                      rintro _ rfl
                      try simp only [zwr_rne, zwr_req, upd_ne, upd_eq, ne_eq, Nat.reduceEqDiff, not_false_eq_true, ca]
                      refine c_changed ?_
                      try simp only [zwr_rne, zwr_req, upd_ne, upd_eq, ne_eq, Nat.reduceEqDiff, not_false_eq_true, ca]
                      refine en_X12_charge ?_
                      try simp only [zwr_rne, zwr_req, upd_ne, upd_eq, ne_eq, Nat.reduceEqDiff, not_false_eq_true, ca]
                      refine m_isAsset (by first | omega | (simp only [zwr_rne, zwr_req, upd_ne, upd_eq, ne_eq, Nat.reduceEqDiff, not_false_eq_true, ca]; omega)) (fun g60 g60' => ?_) (fun g60 => ?_)
                      · try simp only [zwr_rne, zwr_req, upd_ne, upd_eq, ne_eq, Nat.reduceEqDiff, not_false_eq_true, ca] at g60
                        try simp only [zwr_rne, zwr_req, upd_ne, upd_eq, ne_eq, Nat.reduceEqDiff, not_false_eq_true, ca] at g60'
                        try omega
                        all_goals
                          try simp only [one_ne, zero_eq, if_false, if_true, or_true, true_or, or_false, false_or]
                          try simp only [zwr_rne, zwr_req, upd_ne, upd_eq, ne_eq, Nat.reduceEqDiff, not_false_eq_true, ca]
                          refine zeq (fun g61 => ?_) (fun g61 => ?_)
                          · try simp only [zwr_rne, zwr_req, upd_ne, upd_eq, ne_eq, Nat.reduceEqDiff, not_false_eq_true, ca] at g61
                            try omega
                            all_goals
                              try simp only [zwr_rne, zwr_req, upd_ne, upd_eq, ne_eq, Nat.reduceEqDiff, not_false_eq_true, ca]
                              refine zeq (fun g62 => ?_) (fun g62 => ?_)
                              · try simp only [zwr_rne, zwr_req, upd_ne, upd_eq, ne_eq, Nat.reduceEqDiff, not_false_eq_true, ca] at g62
                                try omega
                                all_goals
                                  try simp only [zwr_rne, zwr_req, upd_ne, upd_eq, ne_eq, Nat.reduceEqDiff, not_false_eq_true, ca]
                                  refine ⟨by first | assumption | exact vin (by omega) | exact vp_in_I.mpr (by omega), ?_⟩
                                  refine zeq (fun g63 => ?_) (fun g63 => ?_)
                                  · try simp only [zwr_rne, zwr_req, upd_ne, upd_eq, ne_eq, Nat.reduceEqDiff, not_false_eq_true, ca] at g63
                                    try omega
                                    all_goals
                                      try simp only [zwr_rne, zwr_req, upd_ne, upd_eq, ne_eq, Nat.reduceEqDiff, not_false_eq_true, ca]
                                      refine ⟨by first | assumption | exact vin (by omega) | exact vp_in_I.mpr (by omega), ?_⟩
                                      rintro _ rfl
                                      try simp only [zwr_rne, zwr_req, upd_ne, upd_eq, ne_eq, Nat.reduceEqDiff, not_false_eq_true, ca]
                                      refine m_orNone s14 ?_
                                      try simp only [zwr_rne, zwr_req, upd_ne, upd_eq, ne_eq, Nat.reduceEqDiff, not_false_eq_true, ca]
                                      refine ⟨s5, ?_⟩
                                      unfold Rall
                                      simp only [zwr_rne, zwr_req, upd_ne, upd_eq, ne_eq, Nat.reduceEqDiff, not_false_eq_true]
                                      subst gN
                                      exact ⟨⟨k1, k2, k3, k4, k5, k6, k7, k8, k9⟩, kas.setC enc_m1.symm (by decide) (by rw [tim1]; omega), kcl, kda, kdh, kpl, kkp, ksh, kwt, ktp, klw, ksd, Rwx_stale, Rwx_stale⟩
                                  · try simp only [zwr_rne, zwr_req, upd_ne, upd_eq, ne_eq, Nat.reduceEqDiff, not_false_eq_true, ca] at g63
                                    try omega
                                    all_goals
                                      try simp only [zwr_rne, zwr_req, upd_ne, upd_eq, ne_eq, Nat.reduceEqDiff, not_false_eq_true, ca]
                                      refine ⟨by first | assumption | exact vin (by omega) | exact vp_in_I.mpr (by omega), ?_⟩
                                      rintro _ rfl
                                      try simp only [zwr_rne, zwr_req, upd_ne, upd_eq, ne_eq, Nat.reduceEqDiff, not_false_eq_true, ca]
                                      refine m_orNone s14 ?_
                                      try simp only [zwr_rne, zwr_req, upd_ne, upd_eq, ne_eq, Nat.reduceEqDiff, not_false_eq_true, ca]
                                      refine ⟨s5, ?_⟩
                                      unfold Rall
                                      simp only [zwr_rne, zwr_req, upd_ne, upd_eq, ne_eq, Nat.reduceEqDiff, not_false_eq_true]
                                      subst gN
                                      exact ⟨⟨k1, k2, k3, k4, k5, k6, k7, k8, k9⟩, kas.setC enc_m1.symm (by decide) (by rw [tim1]; omega), kcl, kda, kdh, kpl, kkp, ksh, kwt, ktp, klw, ksd, Rwx_stale, Rwx_stale⟩
                              · try simp only [zwr_rne, zwr_req, upd_ne, upd_eq, ne_eq, Nat.reduceEqDiff, not_false_eq_true, ca] at g62
                                try omega
                                all_goals
                                  try simp only [zwr_rne, zwr_req, upd_ne, upd_eq, ne_eq, Nat.reduceEqDiff, not_false_eq_true, ca]
                                  refine ⟨by first | assumption | exact vin (by omega) | exact vp_in_I.mpr (by omega), ?_⟩
                                  refine zeq (fun g64 => ?_) (fun g64 => ?_)
                                  · try simp only [zwr_rne, zwr_req, upd_ne, upd_eq, ne_eq, Nat.reduceEqDiff, not_false_eq_true, ca] at g64
                                    try omega
                                    all_goals
                                      try simp only [zwr_rne, zwr_req, upd_ne, upd_eq, ne_eq, Nat.reduceEqDiff, not_false_eq_true, ca]
                                      refine ⟨by first | assumption | exact vin (by omega) | exact vp_in_I.mpr (by omega), ?_⟩
                                      refine ⟨by first | assumption | exact vin (by omega) | exact vp_in_I.mpr (by omega), ?_⟩
                                      refine zeq (fun g65 => ?_) (fun g65 => ?_)
                                      · try simp only [zwr_rne, zwr_req, upd_ne, upd_eq, ne_eq, Nat.reduceEqDiff, not_false_eq_true, ca] at g65
                                        try omega
                                        all_goals
                                          try simp only [zwr_rne, zwr_req, upd_ne, upd_eq, ne_eq, Nat.reduceEqDiff, not_false_eq_true, ca]
                                          refine ⟨by first | assumption | exact vin (by omega) | exact vp_in_I.mpr (by omega), ?_⟩
                                          refine zeq (fun g66 => ?_) (fun g66 => ?_)
                                          · try simp only [zwr_rne, zwr_req, upd_ne, upd_eq, ne_eq, Nat.reduceEqDiff, not_false_eq_true, ca] at g66
                                            try omega
                                            all_goals
                                              try simp only [zwr_rne, zwr_req, upd_ne, upd_eq, ne_eq, Nat.reduceEqDiff, not_false_eq_true, ca]
                                              refine ⟨by first | assumption | exact vin (by omega) | exact vp_in_I.mpr (by omega), ?_⟩
                                              rintro _ rfl
                                              try simp only [zwr_rne, zwr_req, upd_ne, upd_eq, ne_eq, Nat.reduceEqDiff, not_false_eq_true, ca]
                                              refine m_orNone s14 ?_
                                              try simp only [zwr_rne, zwr_req, upd_ne, upd_eq, ne_eq, Nat.reduceEqDiff, not_false_eq_true, ca]
                                              refine ⟨s5, ?_⟩
                                              unfold Rall
                                              simp only [zwr_rne, zwr_req, upd_ne, upd_eq, ne_eq, Nat.reduceEqDiff, not_false_eq_true]
                                              subst gN
                                              exact ⟨⟨k1, k2, k3, k4, k5, k6, k7, k8, k9⟩, kas.setC enc_m1.symm (by decide) (by rw [tim1]; omega), kcl, kda, kdh, kpl, kkp, ksh, kwt, ktp, klw, ksd, Rwx_stale, Rwx_stale⟩
                                          · try simp only [zwr_rne, zwr_req, upd_ne, upd_eq, ne_eq, Nat.reduceEqDiff, not_false_eq_true, ca] at g66
                                            try omega
                                            all_goals
                                              try simp only [zwr_rne, zwr_req, upd_ne, upd_eq, ne_eq, Nat.reduceEqDiff, not_false_eq_true, ca]
                                              refine ⟨by first | assumption | exact vin (by omega) | exact vp_in_I.mpr (by omega), ?_⟩
                                              rintro _ rfl
                                              try simp only [zwr_rne, zwr_req, upd_ne, upd_eq, ne_eq, Nat.reduceEqDiff, not_false_eq_true, ca]
                                              refine m_orNone s14 ?_
                                              try simp only [zwr_rne, zwr_req, upd_ne, upd_eq, ne_eq, Nat.reduceEqDiff, not_false_eq_true, ca]
                                              refine ⟨s5, ?_⟩
                                              unfold Rall
                                              simp only [zwr_rne, zwr_req, upd_ne, upd_eq, ne_eq, Nat.reduceEqDiff, not_false_eq_true]
                                              subst gN
                                              exact ⟨⟨k1, k2, k3, k4, k5, k6, k7, k8, k9⟩, kas.setC enc_m1.symm (by decide) (by rw [tim1]; omega), kcl, kda, kdh, kpl, kkp, ksh, kwt, ktp, klw, ksd, Rwx_stale, Rwx_stale⟩
                                      · try simp only [zwr_rne, zwr_req, upd_ne, upd_eq, ne_eq, Nat.reduceEqDiff, not_false_eq_true, ca] at g65
                                        try omega
                                        all_goals
                                          try simp only [zwr_rne, zwr_req, upd_ne, upd_eq, ne_eq, Nat.reduceEqDiff, not_false_eq_true, ca]
                                          exact ⟨by first | rfl | trivial, hh⟩
                                  · try simp only [zwr_rne, zwr_req, upd_ne, upd_eq, ne_eq, Nat.reduceEqDiff, not_false_eq_true, ca] at g64
                                    try omega
                                    all_goals
                                      try simp only [zwr_rne, zwr_req, upd_ne, upd_eq, ne_eq, Nat.reduceEqDiff, not_false_eq_true, ca]
                                      exact ⟨by first | rfl | trivial, hh⟩
                          · try simp only [zwr_rne, zwr_req, upd_ne, upd_eq, ne_eq, Nat.reduceEqDiff, not_false_eq_true, ca] at g61
                            try omega
                            all_goals
                              try simp only [zwr_rne, zwr_req, upd_ne, upd_eq, ne_eq, Nat.reduceEqDiff, not_false_eq_true, ca]
                              refine m_isClaim (by first | omega | (simp only [zwr_rne, zwr_req, upd_ne, upd_eq, ne_eq, Nat.reduceEqDiff, not_false_eq_true, ca]; omega)) (fun g67 g67' => ?_) (fun g67 => ?_)
                              · try simp only [zwr_rne, zwr_req, upd_ne, upd_eq, ne_eq, Nat.reduceEqDiff, not_false_eq_true, ca] at g67
                                try simp only [zwr_rne, zwr_req, upd_ne, upd_eq, ne_eq, Nat.reduceEqDiff, not_false_eq_true, ca] at g67'
                                try omega
                                all_goals
                                  try simp only [one_ne, zero_eq, if_false, if_true, or_true, true_or, or_false, false_or]
                                  try simp only [zwr_rne, zwr_req, upd_ne, upd_eq, ne_eq, Nat.reduceEqDiff, not_false_eq_true, ca]
                                  refine zeq (fun g68 => ?_) (fun g68 => ?_)
                                  · try simp only [zwr_rne, zwr_req, upd_ne, upd_eq, ne_eq, Nat.reduceEqDiff, not_false_eq_true, ca] at g68
                                    try omega
                                    all_goals
                                      try simp only [zwr_rne, zwr_req, upd_ne, upd_eq, ne_eq, Nat.reduceEqDiff, not_false_eq_true, ca]
                                      refine ⟨by first | assumption | exact vin (by omega) | exact vp_in_I.mpr (by omega), ?_⟩
                                      refine zeq (fun g69 => ?_) (fun g69 => ?_)
                                      · try simp only [zwr_rne, zwr_req, upd_ne, upd_eq, ne_eq, Nat.reduceEqDiff, not_false_eq_true, ca] at g69
                                        try omega
                                        all_goals
                                          try simp only [zwr_rne, zwr_req, upd_ne, upd_eq, ne_eq, Nat.reduceEqDiff, not_false_eq_true, ca]
                                          refine ⟨by first | assumption | exact vin (by omega) | exact vp_in_I.mpr (by omega), ?_⟩
                                          rintro _ rfl
                                          try simp only [zwr_rne, zwr_req, upd_ne, upd_eq, ne_eq, Nat.reduceEqDiff, not_false_eq_true, ca]
                                          refine m_orNone s14 ?_
                                          try simp only [zwr_rne, zwr_req, upd_ne, upd_eq, ne_eq, Nat.reduceEqDiff, not_false_eq_true, ca]
                                          refine ⟨s5, ?_⟩
                                          unfold Rall
                                          simp only [zwr_rne, zwr_req, upd_ne, upd_eq, ne_eq, Nat.reduceEqDiff, not_false_eq_true]
                                          subst gN
                                          exact ⟨⟨k1, k2, k3, k4, k5, k6, k7, k8, k9⟩, kas.setC enc_m1.symm (by decide) (by rw [tim1]; omega), kcl, kda, kdh, kpl, kkp, ksh, kwt, ktp, klw, ksd, Rwx_stale, Rwx_stale⟩
                                      · try simp only [zwr_rne, zwr_req, upd_ne, upd_eq, ne_eq, Nat.reduceEqDiff, not_false_eq_true, ca] at g69
                                        try omega
                                        all_goals
                                          try simp only [zwr_rne, zwr_req, upd_ne, upd_eq, ne_eq, Nat.reduceEqDiff, not_false_eq_true, ca]
                                          refine ⟨by first | assumption | exact vin (by omega) | exact vp_in_I.mpr (by omega), ?_⟩
                                          rintro _ rfl
                                          try simp only [zwr_rne, zwr_req, upd_ne, upd_eq, ne_eq, Nat.reduceEqDiff, not_false_eq_true, ca]
                                          refine m_orNone s14 ?_
                                          try simp only [zwr_rne, zwr_req, upd_ne, upd_eq, ne_eq, Nat.reduceEqDiff, not_false_eq_true, ca]
                                          refine ⟨s5, ?_⟩
                                          unfold Rall
                                          simp only [zwr_rne, zwr_req, upd_ne, upd_eq, ne_eq, Nat.reduceEqDiff, not_false_eq_true]
                                          subst gN
                                          exact ⟨⟨k1, k2, k3, k4, k5, k6, k7, k8, k9⟩, kas.setC enc_m1.symm (by decide) (by rw [tim1]; omega), kcl, kda, kdh, kpl, kkp, ksh, kwt, ktp, klw, ksd, Rwx_stale, Rwx_stale⟩
                                  · try simp only [zwr_rne, zwr_req, upd_ne, upd_eq, ne_eq, Nat.reduceEqDiff, not_false_eq_true, ca] at g68
                                    try omega
                                    all_goals
                                      try simp only [zwr_rne, zwr_req, upd_ne, upd_eq, ne_eq, Nat.reduceEqDiff, not_false_eq_true, ca]
                                      refine ⟨by first | assumption | exact vin (by omega) | exact vp_in_I.mpr (by omega), ?_⟩
                                      refine zeq (fun g70 => ?_) (fun g70 => ?_)
                                      · try simp only [zwr_rne, zwr_req, upd_ne, upd_eq, ne_eq, Nat.reduceEqDiff, not_false_eq_true, ca] at g70
                                        try omega
                                        all_goals
                                          try simp only [zwr_rne, zwr_req, upd_ne, upd_eq, ne_eq, Nat.reduceEqDiff, not_false_eq_true, ca]
                                          refine ⟨by first | assumption | exact vin (by omega) | exact vp_in_I.mpr (by omega), ?_⟩
                                          refine ⟨by first | assumption | exact vin (by omega) | exact vp_in_I.mpr (by omega), ?_⟩
                                          refine zeq (fun g71 => ?_) (fun g71 => ?_)
                                          · try simp only [zwr_rne, zwr_req, upd_ne, upd_eq, ne_eq, Nat.reduceEqDiff, not_false_eq_true, ca] at g71
                                            try omega
                                            all_goals
                                              try simp only [zwr_rne, zwr_req, upd_ne, upd_eq, ne_eq, Nat.reduceEqDiff, not_false_eq_true, ca]
                                              refine ⟨by first | assumption | exact vin (by omega) | exact vp_in_I.mpr (by omega), ?_⟩
                                              refine zeq (fun g72 => ?_) (fun g72 => ?_)
                                              · try simp only [zwr_rne, zwr_req, upd_ne, upd_eq, ne_eq, Nat.reduceEqDiff, not_false_eq_true, ca] at g72
                                                try omega
                                                all_goals
                                                  try simp only [zwr_rne, zwr_req, upd_ne, upd_eq, ne_eq, Nat.reduceEqDiff, not_false_eq_true, ca]
                                                  refine ⟨by first | assumption | exact vin (by omega) | exact vp_in_I.mpr (by omega), ?_⟩
                                                  rintro _ rfl
                                                  try simp only [zwr_rne, zwr_req, upd_ne, upd_eq, ne_eq, Nat.reduceEqDiff, not_false_eq_true, ca]
                                                  refine m_orNone s14 ?_
                                                  try simp only [zwr_rne, zwr_req, upd_ne, upd_eq, ne_eq, Nat.reduceEqDiff, not_false_eq_true, ca]
                                                  refine ⟨s5, ?_⟩
                                                  unfold Rall
                                                  simp only [zwr_rne, zwr_req, upd_ne, upd_eq, ne_eq, Nat.reduceEqDiff, not_false_eq_true]
                                                  subst gN
                                                  exact ⟨⟨k1, k2, k3, k4, k5, k6, k7, k8, k9⟩, kas.setC enc_m1.symm (by decide) (by rw [tim1]; omega), kcl, kda, kdh, kpl, kkp, ksh, kwt, ktp, klw, ksd, Rwx_stale, Rwx_stale⟩
                                              · try simp only [zwr_rne, zwr_req, upd_ne, upd_eq, ne_eq, Nat.reduceEqDiff, not_false_eq_true, ca] at g72
                                                try omega
                                                all_goals
                                                  try simp only [zwr_rne, zwr_req, upd_ne, upd_eq, ne_eq, Nat.reduceEqDiff, not_false_eq_true, ca]
                                                  refine ⟨by first | assumption | exact vin (by omega) | exact vp_in_I.mpr (by omega), ?_⟩
                                                  rintro _ rfl
                                                  try simp only [zwr_rne, zwr_req, upd_ne, upd_eq, ne_eq, Nat.reduceEqDiff, not_false_eq_true, ca]
                                                  refine m_orNone s14 ?_
                                                  try simp only [zwr_rne, zwr_req, upd_ne, upd_eq, ne_eq, Nat.reduceEqDiff, not_false_eq_true, ca]
                                                  refine ⟨s5, ?_⟩
                                                  unfold Rall
                                                  simp only [zwr_rne, zwr_req, upd_ne, upd_eq, ne_eq, Nat.reduceEqDiff, not_false_eq_true]
                                                  subst gN
                                                  exact ⟨⟨k1, k2, k3, k4, k5, k6, k7, k8, k9⟩, kas.setC enc_m1.symm (by decide) (by rw [tim1]; omega), kcl, kda, kdh, kpl, kkp, ksh, kwt, ktp, klw, ksd, Rwx_stale, Rwx_stale⟩
                                          · try simp only [zwr_rne, zwr_req, upd_ne, upd_eq, ne_eq, Nat.reduceEqDiff, not_false_eq_true, ca] at g71
                                            try omega
                                            all_goals
                                              try simp only [zwr_rne, zwr_req, upd_ne, upd_eq, ne_eq, Nat.reduceEqDiff, not_false_eq_true, ca]
                                              exact ⟨by first | rfl | trivial, hh⟩
                                      · try simp only [zwr_rne, zwr_req, upd_ne, upd_eq, ne_eq, Nat.reduceEqDiff, not_false_eq_true, ca] at g70
                                        try omega
                                        all_goals
                                          try simp only [zwr_rne, zwr_req, upd_ne, upd_eq, ne_eq, Nat.reduceEqDiff, not_false_eq_true, ca]
                                          exact ⟨by first | rfl | trivial, hh⟩
                              · try simp only [zwr_rne, zwr_req, upd_ne, upd_eq, ne_eq, Nat.reduceEqDiff, not_false_eq_true, ca] at g67
                                try omega
                                all_goals
                                  try simp only [one_ne, zero_eq, if_false, if_true, or_true, true_or, or_false, false_or]
                                  try simp only [zwr_rne, zwr_req, upd_ne, upd_eq, ne_eq, Nat.reduceEqDiff, not_false_eq_true, ca]
                                  exact ⟨by first | rfl | trivial, hh⟩
                      · try simp only [zwr_rne, zwr_req, upd_ne, upd_eq, ne_eq, Nat.reduceEqDiff, not_false_eq_true, ca] at g60
                        try omega
                        all_goals
                          try simp only [one_ne, zero_eq, if_false, if_true, or_true, true_or, or_false, false_or]
                          try simp only [zwr_rne, zwr_req, upd_ne, upd_eq, ne_eq, Nat.reduceEqDiff, not_false_eq_true, ca]
                          exact ⟨by first | rfl | trivial, hh⟩
                  · try simp only [zwr_rne, zwr_req, upd_ne, upd_eq, ne_eq, Nat.reduceEqDiff, not_false_eq_true, ca] at g59
                    try omega
                    all_goals
                      refine ⟨by first | assumption | exact vin (by omega) | exact vp_in_I.mpr (by omega), ?_⟩
                      refine zeq (fun g73 => ?_) (fun g73 => ?_)
                      · try simp only [zwr_rne, zwr_req, upd_ne, upd_eq, ne_eq, Nat.reduceEqDiff, not_false_eq_true, ca] at g73
                        try omega
                        all_goals
                          refine ⟨by first | assumption | exact vin (by omega) | exact vp_in_I.mpr (by omega), ?_⟩
                          refine ⟨by first | assumption | exact vin (by omega) | exact vp_in_I.mpr (by omega), ?_⟩
                          refine zeq (fun g74 => ?_) (fun g74 => ?_)
                          · try simp only [zwr_rne, zwr_req, upd_ne, upd_eq, ne_eq, Nat.reduceEqDiff, not_false_eq_true, ca] at g74
                            try omega
                            all_goals
                              refine ⟨by first | assumption | exact vin (by omega) | exact vp_in_I.mpr (by omega), ?_⟩
                              refine ⟨by first | assumption | exact vin (by omega) | exact vp_in_I.mpr (by omega), ?_⟩
                              rintro _ rfl
                              try simp only [zwr_rne, zwr_req, upd_ne, upd_eq, ne_eq, Nat.reduceEqDiff, not_false_eq_true, ca]
                              refine c_changed ?_
                              try simp only [zwr_rne, zwr_req, upd_ne, upd_eq, ne_eq, Nat.reduceEqDiff, not_false_eq_true, ca]
                              refine en_X12_charge ?_
                              try simp only [zwr_rne, zwr_req, upd_ne, upd_eq, ne_eq, Nat.reduceEqDiff, not_false_eq_true, ca]
                              refine m_isAsset (by first | omega | (simp only [zwr_rne, zwr_req, upd_ne, upd_eq, ne_eq, Nat.reduceEqDiff, not_false_eq_true, ca]; omega)) (fun g75 g75' => ?_) (fun g75 => ?_)
                              · try simp only [zwr_rne, zwr_req, upd_ne, upd_eq, ne_eq, Nat.reduceEqDiff, not_false_eq_true, ca] at g75
                                try simp only [zwr_rne, zwr_req, upd_ne, upd_eq, ne_eq, Nat.reduceEqDiff, not_false_eq_true, ca] at g75'
                                try omega
                                all_goals
                                  try simp only [one_ne, zero_eq, if_false, if_true, or_true, true_or, or_false, false_or]
                                  try simp only [zwr_rne, zwr_req, upd_ne, upd_eq, ne_eq, Nat.reduceEqDiff, not_false_eq_true, ca]
                                  refine zeq (fun g76 => ?_) (fun g76 => ?_)
                                  · try simp only [zwr_rne, zwr_req, upd_ne, upd_eq, ne_eq, Nat.reduceEqDiff, not_false_eq_true, ca] at g76
                                    try omega
                                    all_goals
                                      try simp only [zwr_rne, zwr_req, upd_ne, upd_eq, ne_eq, Nat.reduceEqDiff, not_false_eq_true, ca]
                                      refine zeq (fun g77 => ?_) (fun g77 => ?_)
                                      · try simp only [zwr_rne, zwr_req, upd_ne, upd_eq, ne_eq, Nat.reduceEqDiff, not_false_eq_true, ca] at g77
                                        try omega
                                        all_goals
                                          try simp only [zwr_rne, zwr_req, upd_ne, upd_eq, ne_eq, Nat.reduceEqDiff, not_false_eq_true, ca]
                                          refine ⟨by first | assumption | exact vin (by omega) | exact vp_in_I.mpr (by omega), ?_⟩
                                          refine zeq (fun g78 => ?_) (fun g78 => ?_)
                                          · try simp only [zwr_rne, zwr_req, upd_ne, upd_eq, ne_eq, Nat.reduceEqDiff, not_false_eq_true, ca] at g78
                                            try omega
                                            all_goals
                                              try simp only [zwr_rne, zwr_req, upd_ne, upd_eq, ne_eq, Nat.reduceEqDiff, not_false_eq_true, ca]
                                              refine ⟨by first | assumption | exact vin (by omega) | exact vp_in_I.mpr (by omega), ?_⟩
                                              rintro _ rfl
                                              try simp only [zwr_rne, zwr_req, upd_ne, upd_eq, ne_eq, Nat.reduceEqDiff, not_false_eq_true, ca]
                                              refine m_orNone s14 ?_
                                              try simp only [zwr_rne, zwr_req, upd_ne, upd_eq, ne_eq, Nat.reduceEqDiff, not_false_eq_true, ca]
                                              refine ⟨s5, ?_⟩
                                              unfold Rall
                                              simp only [zwr_rne, zwr_req, upd_ne, upd_eq, ne_eq, Nat.reduceEqDiff, not_false_eq_true]
                                              subst gN
                                              exact ⟨⟨k1, k2, k3, k4, k5, k6, k7, k8, k9⟩, kas.setC enc_m1.symm (by decide) (by rw [tim1]; omega), kcl, kda, kdh, kpl, kkp, ksh, kwt, ktp, klw, ksd, Rwx_stale, Rwx_stale⟩
                                          · try simp only [zwr_rne, zwr_req, upd_ne, upd_eq, ne_eq, Nat.reduceEqDiff, not_false_eq_true, ca] at g78
                                            try omega
                                            all_goals
                                              try simp only [zwr_rne, zwr_req, upd_ne, upd_eq, ne_eq, Nat.reduceEqDiff, not_false_eq_true, ca]
                                              refine ⟨by first | assumption | exact vin (by omega) | exact vp_in_I.mpr (by omega), ?_⟩
                                              rintro _ rfl
                                              try simp only [zwr_rne, zwr_req, upd_ne, upd_eq, ne_eq, Nat.reduceEqDiff, not_false_eq_true, ca]
                                              refine m_orNone s14 ?_
                                              try simp only [zwr_rne, zwr_req, upd_ne, upd_eq, ne_eq, Nat.reduceEqDiff, not_false_eq_true, ca]
                                              refine ⟨s5, ?_⟩
                                              unfold Rall
                                              simp only [zwr_rne, zwr_req, upd_ne, upd_eq, ne_eq, Nat.reduceEqDiff, not_false_eq_true]
                                              subst gN
                                              exact ⟨⟨k1, k2, k3, k4, k5, k6, k7, k8, k9⟩, kas.setC enc_m1.symm (by decide) (by rw [tim1]; omega), kcl, kda, kdh, kpl, kkp, ksh, kwt, ktp, klw, ksd, Rwx_stale, Rwx_stale⟩
                                      · try simp only [zwr_rne, zwr_req, upd_ne, upd_eq, ne_eq, Nat.reduceEqDiff, not_false_eq_true, ca] at g77
                                        try omega
                                        all_goals
                                          try simp only [zwr_rne, zwr_req, upd_ne, upd_eq, ne_eq, Nat.reduceEqDiff, not_false_eq_true, ca]
                                          refine ⟨by first | assumption | exact vin (by omega) | exact vp_in_I.mpr (by omega), ?_⟩
                                          refine zeq (fun g79 => ?_) (fun g79 => ?_)
                                          · try simp only [zwr_rne, zwr_req, upd_ne, upd_eq, ne_eq, Nat.reduceEqDiff, not_false_eq_true, ca] at g79
                                            try omega
                                            all_goals
                                              try simp only [zwr_rne, zwr_req, upd_ne, upd_eq, ne_eq, Nat.reduceEqDiff, not_false_eq_true, ca]
                                              refine ⟨by first | assumption | exact vin (by omega) | exact vp_in_I.mpr (by omega), ?_⟩
                                              refine ⟨by first | assumption | exact vin (by omega) | exact vp_in_I.mpr (by omega), ?_⟩
                                              refine zeq (fun g80 => ?_) (fun g80 => ?_)
                                              · try simp only [zwr_rne, zwr_req, upd_ne, upd_eq, ne_eq, Nat.reduceEqDiff, not_false_eq_true, ca] at g80
                                                try omega
                                                all_goals
                                                  try simp only [zwr_rne, zwr_req, upd_ne, upd_eq, ne_eq, Nat.reduceEqDiff, not_false_eq_true, ca]
                                                  refine ⟨by first | assumption | exact vin (by omega) | exact vp_in_I.mpr (by omega), ?_⟩
                                                  refine zeq (fun g81 => ?_) (fun g81 => ?_)
                                                  · try simp only [zwr_rne, zwr_req, upd_ne, upd_eq, ne_eq, Nat.reduceEqDiff, not_false_eq_true, ca] at g81
                                                    try omega
                                                    all_goals
                                                      try simp only [zwr_rne, zwr_req, upd_ne, upd_eq, ne_eq, Nat.reduceEqDiff, not_false_eq_true, ca]
                                                      refine ⟨by first | assumption | exact vin (by omega) | exact vp_in_I.mpr (by omega), ?_⟩
                                                      rintro _ rfl
                                                      try simp only [zwr_rne, zwr_req, upd_ne, upd_eq, ne_eq, Nat.reduceEqDiff, not_false_eq_true, ca]
                                                      refine m_orNone s14 ?_
                                                      try simp only [zwr_rne, zwr_req, upd_ne, upd_eq, ne_eq, Nat.reduceEqDiff, not_false_eq_true, ca]
                                                      refine ⟨s5, ?_⟩
                                                      unfold Rall
                                                      simp only [zwr_rne, zwr_req, upd_ne, upd_eq, ne_eq, Nat.reduceEqDiff, not_false_eq_true]
                                                      subst gN
                                                      exact ⟨⟨k1, k2, k3, k4, k5, k6, k7, k8, k9⟩, kas.setC enc_m1.symm (by decide) (by rw [tim1]; omega), kcl, kda, kdh, kpl, kkp, ksh, kwt, ktp, klw, ksd, Rwx_stale, Rwx_stale⟩
                                                  · try simp only [zwr_rne, zwr_req, upd_ne, upd_eq, ne_eq, Nat.reduceEqDiff, not_false_eq_true, ca] at g81
                                                    try omega
                                                    all_goals
                                                      try simp only [zwr_rne, zwr_req, upd_ne, upd_eq, ne_eq, Nat.reduceEqDiff, not_false_eq_true, ca]
                                                      refine ⟨by first | assumption | exact vin (by omega) | exact vp_in_I.mpr (by omega), ?_⟩
                                                      rintro _ rfl
                                                      try simp only [zwr_rne, zwr_req, upd_ne, upd_eq, ne_eq, Nat.reduceEqDiff, not_false_eq_true, ca]
                                                      refine m_orNone s14 ?_
                                                      try simp only [zwr_rne, zwr_req, upd_ne, upd_eq, ne_eq, Nat.reduceEqDiff, not_false_eq_true, ca]
                                                      refine ⟨s5, ?_⟩
                                                      unfold Rall
                                                      simp only [zwr_rne, zwr_req, upd_ne, upd_eq, ne_eq, Nat.reduceEqDiff, not_false_eq_true]
                                                      subst gN
                                                      exact ⟨⟨k1, k2, k3, k4, k5, k6, k7, k8, k9⟩, kas.setC enc_m1.symm (by decide) (by rw [tim1]; omega), kcl, kda, kdh, kpl, kkp, ksh, kwt, ktp, klw, ksd, Rwx_stale, Rwx_stale⟩
                                              · try simp only [zwr_rne, zwr_req, upd_ne, upd_eq, ne_eq, Nat.reduceEqDiff, not_false_eq_true, ca] at g80
                                                try omega
                                                all_goals
                                                  try simp only [zwr_rne, zwr_req, upd_ne, upd_eq, ne_eq, Nat.reduceEqDiff, not_false_eq_true, ca]
                                                  exact ⟨by first | rfl | trivial, hh⟩
                                          · try simp only [zwr_rne, zwr_req, upd_ne, upd_eq, ne_eq, Nat.reduceEqDiff, not_false_eq_true, ca] at g79
                                            try omega
                                            all_goals
                                              try simp only [zwr_rne, zwr_req, upd_ne, upd_eq, ne_eq, Nat.reduceEqDiff, not_false_eq_true, ca]
                                              exact ⟨by first | rfl | trivial, hh⟩
                                  · try simp only [zwr_rne, zwr_req, upd_ne, upd_eq, ne_eq, Nat.reduceEqDiff, not_false_eq_true, ca] at g76
                                    try omega
                                    all_goals
                                      try simp only [zwr_rne, zwr_req, upd_ne, upd_eq, ne_eq, Nat.reduceEqDiff, not_false_eq_true, ca]
                                      refine m_isClaim (by first | omega | (simp only [zwr_rne, zwr_req, upd_ne, upd_eq, ne_eq, Nat.reduceEqDiff, not_false_eq_true, ca]; omega)) (fun g82 g82' => ?_) (fun g82 => ?_)
                                      · try simp only [zwr_rne, zwr_req, upd_ne, upd_eq, ne_eq, Nat.reduceEqDiff, not_false_eq_true, ca] at g82
                                        try simp only [zwr_rne, zwr_req, upd_ne, upd_eq, ne_eq, Nat.reduceEqDiff, not_false_eq_true, ca] at g82'
                                        try omega
                                        all_goals
                                          try simp only [one_ne, zero_eq, if_false, if_true, or_true, true_or, or_false, false_or]
                                          try simp only [zwr_rne, zwr_req, upd_ne, upd_eq, ne_eq, Nat.reduceEqDiff, not_false_eq_true, ca]
                                          refine zeq (fun g83 => ?_) (fun g83 => ?_)
                                          · try simp only [zwr_rne, zwr_req, upd_ne, upd_eq, ne_eq, Nat.reduceEqDiff, not_false_eq_true, ca] at g83
                                            try omega
                                            all_goals
                                              try simp only [zwr_rne, zwr_req, upd_ne, upd_eq, ne_eq, Nat.reduceEqDiff, not_false_eq_true, ca]
                                              refine ⟨by first | assumption | exact vin (by omega) | exact vp_in_I.mpr (by omega), ?_⟩
                                              refine zeq (fun g84 => ?_) (fun g84 => ?_)
                                              · try simp only [zwr_rne, zwr_req, upd_ne, upd_eq, ne_eq, Nat.reduceEqDiff, not_false_eq_true, ca] at g84
                                                try omega
                                                all_goals
                                                  try simp only [zwr_rne, zwr_req, upd_ne, upd_eq, ne_eq, Nat.reduceEqDiff, not_false_eq_true, ca]
                                                  refine ⟨by first | assumption | exact vin (by omega) | exact vp_in_I.mpr (by omega), ?_⟩
                                                  rintro _ rfl
                                                  try simp only [zwr_rne, zwr_req, upd_ne, upd_eq, ne_eq, Nat.reduceEqDiff, not_false_eq_true, ca]
                                                  refine m_orNone s14 ?_
                                                  try simp only [zwr_rne, zwr_req, upd_ne, upd_eq, ne_eq, Nat.reduceEqDiff, not_false_eq_true, ca]
                                                  refine ⟨s5, ?_⟩
                                                  unfold Rall
                                                  simp only [zwr_rne, zwr_req, upd_ne, upd_eq, ne_eq, Nat.reduceEqDiff, not_false_eq_true]
                                                  subst gN
                                                  exact ⟨⟨k1, k2, k3, k4, k5, k6, k7, k8, k9⟩, kas.setC enc_m1.symm (by decide) (by rw [tim1]; omega), kcl, kda, kdh, kpl, kkp, ksh, kwt, ktp, klw, ksd, Rwx_stale, Rwx_stale⟩
                                              · try simp only [zwr_rne, zwr_req, upd_ne, upd_eq, ne_eq, Nat.reduceEqDiff, not_false_eq_true, ca] at g84
                                                try omega
                                                all_goals
                                                  try simp only [zwr_rne, zwr_req, upd_ne, upd_eq, ne_eq, Nat.reduceEqDiff, not_false_eq_true, ca]
                                                  refine ⟨by first | assumption | exact vin (by omega) | exact vp_in_I.mpr (by omega), ?_⟩
                                                  rintro _ rfl
                                                  try simp only [zwr_rne, zwr_req, upd_ne, upd_eq, ne_eq, Nat.reduceEqDiff, not_false_eq_true, ca]
                                                  refine m_orNone s14 ?_
                                                  try simp only [zwr_rne, zwr_req, upd_ne, upd_eq, ne_eq, Nat.reduceEqDiff, not_false_eq_true, ca]
                                                  refine ⟨s5, ?_⟩
                                                  unfold Rall
                                                  simp only [zwr_rne, zwr_req, upd_ne, upd_eq, ne_eq, Nat.reduceEqDiff, not_false_eq_true]
                                                  subst gN
                                                  exact ⟨⟨k1, k2, k3, k4, k5, k6, k7, k8, k9⟩, kas.setC enc_m1.symm (by decide) (by rw [tim1]; omega), kcl, kda, kdh, kpl, kkp, ksh, kwt, ktp, klw, ksd, Rwx_stale, Rwx_stale⟩
                                          · try simp only [zwr_rne, zwr_req, upd_ne, upd_eq, ne_eq, Nat.reduceEqDiff, not_false_eq_true, ca] at g83
                                            try omega
                                            all_goals
                                              try simp only [zwr_rne, zwr_req, upd_ne, upd_eq, ne_eq, Nat.reduceEqDiff, not_false_eq_true, ca]
                                              refine ⟨by first | assumption | exact vin (by omega) | exact vp_in_I.mpr (by omega), ?_⟩
                                              refine zeq (fun g85 => ?_) (fun g85 => ?_)
                                              · try simp only [zwr_rne, zwr_req, upd_ne, upd_eq, ne_eq, Nat.reduceEqDiff, not_false_eq_true, ca] at g85
                                                try omega
                                                all_goals
                                                  try simp only [zwr_rne, zwr_req, upd_ne, upd_eq, ne_eq, Nat.reduceEqDiff, not_false_eq_true, ca]
                                                  refine ⟨by first | assumption | exact vin (by omega) | exact vp_in_I.mpr (by omega), ?_⟩
                                                  refine ⟨by first | assumption | exact vin (by omega) | exact vp_in_I.mpr (by omega), ?_⟩
                                                  refine zeq (fun g86 => ?_) (fun g86 => ?_)
                                                  · try simp only [zwr_rne, zwr_req, upd_ne, upd_eq, ne_eq, Nat.reduceEqDiff, not_false_eq_true, ca] at g86
                                                    try omega
                                                    all_goals
                                                      try simp only [zwr_rne, zwr_req, upd_ne, upd_eq, ne_eq, Nat.reduceEqDiff, not_false_eq_true, ca]
                                                      refine ⟨by first | assumption | exact vin (by omega) | exact vp_in_I.mpr (by omega), ?_⟩
                                                      refine zeq (fun g87 => ?_) (fun g87 => ?_)
                                                      · try simp only [zwr_rne, zwr_req, upd_ne, upd_eq, ne_eq, Nat.reduceEqDiff, not_false_eq_true, ca] at g87
                                                        try omega
                                                        all_goals
                                                          try simp only [zwr_rne, zwr_req, upd_ne, upd_eq, ne_eq, Nat.reduceEqDiff, not_false_eq_true, ca]
                                                          refine ⟨by first | assumption | exact vin (by omega) | exact vp_in_I.mpr (by omega), ?_⟩
                                                          rintro _ rfl
                                                          try simp only [zwr_rne, zwr_req, upd_ne, upd_eq, ne_eq, Nat.reduceEqDiff, not_false_eq_true, ca]
                                                          refine m_orNone s14 ?_
                                                          try simp only [zwr_rne, zwr_req, upd_ne, upd_eq, ne_eq, Nat.reduceEqDiff, not_false_eq_true, ca]
                                                          refine ⟨s5, ?_⟩
                                                          unfold Rall
                                                          simp only [zwr_rne, zwr_req, upd_ne, upd_eq, ne_eq, Nat.reduceEqDiff, not_false_eq_true]
                                                          subst gN
                                                          exact ⟨⟨k1, k2, k3, k4, k5, k6, k7, k8, k9⟩, kas.setC enc_m1.symm (by decide) (by rw [tim1]; omega), kcl, kda, kdh, kpl, kkp, ksh, kwt, ktp, klw, ksd, Rwx_stale, Rwx_stale⟩
                                                      · try simp only [zwr_rne, zwr_req, upd_ne, upd_eq, ne_eq, Nat.reduceEqDiff, not_false_eq_true, ca] at g87
                                                        try omega
                                                        all_goals
                                                          try simp only [zwr_rne, zwr_req, upd_ne, upd_eq, ne_eq, Nat.reduceEqDiff, not_false_eq_true, ca]
                                                          refine ⟨by first | assumption | exact vin (by omega) | exact vp_in_I.mpr (by omega), ?_⟩
                                                          rintro _ rfl
                                                          try simp only [zwr_rne, zwr_req, upd_ne, upd_eq, ne_eq, Nat.reduceEqDiff, not_false_eq_true, ca]
                                                          refine m_orNone s14 ?_
                                                          try simp only [zwr_rne, zwr_req, upd_ne, upd_eq, ne_eq, Nat.reduceEqDiff, not_false_eq_true, ca]
                                                          refine ⟨s5, ?_⟩
                                                          unfold Rall
                                                          simp only [zwr_rne, zwr_req, upd_ne, upd_eq, ne_eq, Nat.reduceEqDiff, not_false_eq_true]
                                                          subst gN
                                                          exact ⟨⟨k1, k2, k3, k4, k5, k6, k7, k8, k9⟩, kas.setC enc_m1.symm (by decide) (by rw [tim1]; omega), kcl, kda, kdh, kpl, kkp, ksh, kwt, ktp, klw, ksd, Rwx_stale, Rwx_stale⟩
                                                  · try simp only [zwr_rne, zwr_req, upd_ne, upd_eq, ne_eq, Nat.reduceEqDiff, not_false_eq_true, ca] at g86
                                                    try omega
                                                    all_goals
                                                      try simp only [zwr_rne, zwr_req, upd_ne, upd_eq, ne_eq, Nat.reduceEqDiff, not_false_eq_true, ca]
                                                      exact ⟨by first | rfl | trivial, hh⟩
                                              · try simp only [zwr_rne, zwr_req, upd_ne, upd_eq, ne_eq, Nat.reduceEqDiff, not_false_eq_true, ca] at g85
                                                try omega
                                                all_goals
                                                  try simp only [zwr_rne, zwr_req, upd_ne, upd_eq, ne_eq, Nat.reduceEqDiff, not_false_eq_true, ca]
                                                  exact ⟨by first | rfl | trivial, hh⟩
                                      · try simp only [zwr_rne, zwr_req, upd_ne, upd_eq, ne_eq, Nat.reduceEqDiff, not_false_eq_true, ca] at g82
                                        try omega
                                        all_goals
                                          try simp only [one_ne, zero_eq, if_false, if_true, or_true, true_or, or_false, false_or]
                                          try simp only [zwr_rne, zwr_req, upd_ne, upd_eq, ne_eq, Nat.reduceEqDiff, not_false_eq_true, ca]
                                          exact ⟨by first | rfl | trivial, hh⟩
                              · try simp only [zwr_rne, zwr_req, upd_ne, upd_eq, ne_eq, Nat.reduceEqDiff, not_false_eq_true, ca] at g75
                                try omega
                                all_goals
                                  try simp only [one_ne, zero_eq, if_false, if_true, or_true, true_or, or_false, false_or]
                                  try simp only [zwr_rne, zwr_req, upd_ne, upd_eq, ne_eq, Nat.reduceEqDiff, not_false_eq_true, ca]
                                  exact ⟨by first | rfl | trivial, hh⟩
                          · try simp only [zwr_rne, zwr_req, upd_ne, upd_eq, ne_eq, Nat.reduceEqDiff, not_false_eq_true, ca] at g74
                            try omega
                            all_goals
                              refine en_X12_charge ?_
                              try simp only [zwr_rne, zwr_req, upd_ne, upd_eq, ne_eq, Nat.reduceEqDiff, not_false_eq_true, ca]
                              refine m_isAsset (by first | omega | (simp only [zwr_rne, zwr_req, upd_ne, upd_eq, ne_eq, Nat.reduceEqDiff, not_false_eq_true, ca]; omega)) (fun g88 g88' => ?_) (fun g88 => ?_)
                              · try simp only [zwr_rne, zwr_req, upd_ne, upd_eq, ne_eq, Nat.reduceEqDiff, not_false_eq_true, ca] at g88
                                try simp only [zwr_rne, zwr_req, upd_ne, upd_eq, ne_eq, Nat.reduceEqDiff, not_false_eq_true, ca] at g88'
                                try omega
                                all_goals
                                  try simp only [one_ne, zero_eq, if_false, if_true, or_true, true_or, or_false, false_or]
                                  try simp only [zwr_rne, zwr_req, upd_ne, upd_eq, ne_eq, Nat.reduceEqDiff, not_false_eq_true, ca]
                                  refine zeq (fun g89 => ?_) (fun g89 => ?_)
                                  · try simp only [zwr_rne, zwr_req, upd_ne, upd_eq, ne_eq, Nat.reduceEqDiff, not_false_eq_true, ca] at g89
                                    try omega
                                    all_goals
                                      try simp only [zwr_rne, zwr_req, upd_ne, upd_eq, ne_eq, Nat.reduceEqDiff, not_false_eq_true, ca]
                                      refine zeq (fun g90 => ?_) (fun g90 => ?_)
                                      · try simp only [zwr_rne, zwr_req, upd_ne, upd_eq, ne_eq, Nat.reduceEqDiff, not_false_eq_true, ca] at g90
                                        try omega
                                        all_goals
                                          try simp only [zwr_rne, zwr_req, upd_ne, upd_eq, ne_eq, Nat.reduceEqDiff, not_false_eq_true, ca]
                                          refine ⟨by first | assumption | exact vin (by omega) | exact vp_in_I.mpr (by omega), ?_⟩
                                          refine zeq (fun g91 => ?_) (fun g91 => ?_)
                                          · try simp only [zwr_rne, zwr_req, upd_ne, upd_eq, ne_eq, Nat.reduceEqDiff, not_false_eq_true, ca] at g91
                                            try omega
                                            all_goals
                                              try simp only [zwr_rne, zwr_req, upd_ne, upd_eq, ne_eq, Nat.reduceEqDiff, not_false_eq_true, ca]
                                              refine ⟨by first | assumption | exact vin (by omega) | exact vp_in_I.mpr (by omega), ?_⟩
                                              rintro _ rfl
                                              try simp only [zwr_rne, zwr_req, upd_ne, upd_eq, ne_eq, Nat.reduceEqDiff, not_false_eq_true, ca]
                                              refine m_orNone s14 ?_
                                              try simp only [zwr_rne, zwr_req, upd_ne, upd_eq, ne_eq, Nat.reduceEqDiff, not_false_eq_true, ca]
                                              refine ⟨s5, ?_⟩
                                              unfold Rall
                                              simp only [zwr_rne, zwr_req, upd_ne, upd_eq, ne_eq, Nat.reduceEqDiff, not_false_eq_true]
                                              subst gN
                                              exact ⟨⟨k1, k2, k3, k4, k5, k6, k7, k8, k9⟩, kas.setC enc_m1.symm (by decide) (by rw [tim1]; omega), kcl, kda, kdh, kpl, kkp, ksh, kwt, ktp, klw, ksd, Rwx_stale, Rwx_stale⟩
                                          · try simp only [zwr_rne, zwr_req, upd_ne, upd_eq, ne_eq, Nat.reduceEqDiff, not_false_eq_true, ca] at g91
                                            try omega
                                            all_goals
                                              try simp only [zwr_rne, zwr_req, upd_ne, upd_eq, ne_eq, Nat.reduceEqDiff, not_false_eq_true, ca]
                                              refine ⟨by first | assumption | exact vin (by omega) | exact vp_in_I.mpr (by omega), ?_⟩
                                              rintro _ rfl
                                              try simp only [zwr_rne, zwr_req, upd_ne, upd_eq, ne_eq, Nat.reduceEqDiff, not_false_eq_true, ca]
                                              refine m_orNone s14 ?_
                                              try simp only [zwr_rne, zwr_req, upd_ne, upd_eq, ne_eq, Nat.reduceEqDiff, not_false_eq_true, ca]
                                              refine ⟨s5, ?_⟩
                                              unfold Rall
                                              simp only [zwr_rne, zwr_req, upd_ne, upd_eq, ne_eq, Nat.reduceEqDiff, not_false_eq_true]
                                              subst gN
                                              exact ⟨⟨k1, k2, k3, k4, k5, k6, k7, k8, k9⟩, kas.setC enc_m1.symm (by decide) (by rw [tim1]; omega), kcl, kda, kdh, kpl, kkp, ksh, kwt, ktp, klw, ksd, Rwx_stale, Rwx_stale⟩
                                      · try simp only [zwr_rne, zwr_req, upd_ne, upd_eq, ne_eq, Nat.reduceEqDiff, not_false_eq_true, ca] at g90
                                        try omega
                                        all_goals
                                          try simp only [zwr_rne, zwr_req, upd_ne, upd_eq, ne_eq, Nat.reduceEqDiff, not_false_eq_true, ca]
                                          refine ⟨by first | assumption | exact vin (by omega) | exact vp_in_I.mpr (by omega), ?_⟩
                                          refine zeq (fun g92 => ?_) (fun g92 => ?_)
                                          · try simp only [zwr_rne, zwr_req, upd_ne, upd_eq, ne_eq, Nat.reduceEqDiff, not_false_eq_true, ca] at g92
                                            try omega
                                            all_goals
                                              try simp only [zwr_rne, zwr_req, upd_ne, upd_eq, ne_eq, Nat.reduceEqDiff, not_false_eq_true, ca]
                                              refine ⟨by first | assumption | exact vin (by omega) | exact vp_in_I.mpr (by omega), ?_⟩
                                              refine ⟨by first | assumption | exact vin (by omega) | exact vp_in_I.mpr (by omega), ?_⟩
                                              refine zeq (fun g93 => ?_) (fun g93 => ?_)
                                              · try simp only [zwr_rne, zwr_req, upd_ne, upd_eq, ne_eq, Nat.reduceEqDiff, not_false_eq_true, ca] at g93
                                                try omega
                                                all_goals
                                                  try simp only [zwr_rne, zwr_req, upd_ne, upd_eq, ne_eq, Nat.reduceEqDiff, not_false_eq_true, ca]
                                                  refine ⟨by first | assumption | exact vin (by omega) | exact vp_in_I.mpr (by omega), ?_⟩
                                                  refine zeq (fun g94 => ?_) (fun g94 => ?_)
                                                  · try simp only [zwr_rne, zwr_req, upd_ne, upd_eq, ne_eq, Nat.reduceEqDiff, not_false_eq_true, ca] at g94
                                                    try omega
                                                    all_goals
                                                      try simp only [zwr_rne, zwr_req, upd_ne, upd_eq, ne_eq, Nat.reduceEqDiff, not_false_eq_true, ca]
                                                      refine ⟨by first | assumption | exact vin (by omega) | exact vp_in_I.mpr (by omega), ?_⟩
                                                      rintro _ rfl
                                                      try simp only [zwr_rne, zwr_req, upd_ne, upd_eq, ne_eq, Nat.reduceEqDiff, not_false_eq_true, ca]
                                                      refine m_orNone s14 ?_
                                                      try simp only [zwr_rne, zwr_req, upd_ne, upd_eq, ne_eq, Nat.reduceEqDiff, not_false_eq_true, ca]
                                                      refine ⟨s5, ?_⟩
                                                      unfold Rall
                                                      simp only [zwr_rne, zwr_req, upd_ne, upd_eq, ne_eq, Nat.reduceEqDiff, not_false_eq_true]
                                                      subst gN
                                                      exact ⟨⟨k1, k2, k3, k4, k5, k6, k7, k8, k9⟩, kas.setC enc_m1.symm (by decide) (by rw [tim1]; omega), kcl, kda, kdh, kpl, kkp, ksh, kwt, ktp, klw, ksd, Rwx_stale, Rwx_stale⟩
                                                  · try simp only [zwr_rne, zwr_req, upd_ne, upd_eq, ne_eq, Nat.reduceEqDiff, not_false_eq_true, ca] at g94
                                                    try omega
                                                    all_goals
                                                      try simp only [zwr_rne, zwr_req, upd_ne, upd_eq, ne_eq, Nat.reduceEqDiff, not_false_eq_true, ca]
                                                      refine ⟨by first | assumption | exact vin (by omega) | exact vp_in_I.mpr (by omega), ?_⟩
                                                      rintro _ rfl
                                                      try simp only [zwr_rne, zwr_req, upd_ne, upd_eq, ne_eq, Nat.reduceEqDiff, not_false_eq_true, ca]
                                                      refine m_orNone s14 ?_
                                                      try simp only [zwr_rne, zwr_req, upd_ne, upd_eq, ne_eq, Nat.reduceEqDiff, not_false_eq_true, ca]
                                                      refine ⟨s5, ?_⟩
                                                      unfold Rall
                                                      simp only [zwr_rne, zwr_req, upd_ne, upd_eq, ne_eq, Nat.reduceEqDiff, not_false_eq_true]
                                                      subst gN
                                                      exact ⟨⟨k1, k2, k3, k4, k5, k6, k7, k8, k9⟩, kas.setC enc_m1.symm (by decide) (by rw [tim1]; omega), kcl, kda, kdh, kpl, kkp, ksh, kwt, ktp, klw, ksd, Rwx_stale, Rwx_stale⟩
                                              · try simp only [zwr_rne, zwr_req, upd_ne, upd_eq, ne_eq, Nat.reduceEqDiff, not_false_eq_true, ca] at g93
                                                try omega
                                                all_goals
                                                  try simp only [zwr_rne, zwr_req, upd_ne, upd_eq, ne_eq, Nat.reduceEqDiff, not_false_eq_true, ca]
                                                  exact ⟨by first | rfl | trivial, hh⟩
                                          · try simp only [zwr_rne, zwr_req, upd_ne, upd_eq, ne_eq, Nat.reduceEqDiff, not_false_eq_true, ca] at g92
                                            try omega
                                            all_goals
                                              try simp only [zwr_rne, zwr_req, upd_ne, upd_eq, ne_eq, Nat.reduceEqDiff, not_false_eq_true, ca]
                                              exact ⟨by first | rfl | trivial, hh⟩
                                  · try simp only [zwr_rne, zwr_req, upd_ne, upd_eq, ne_eq, Nat.reduceEqDiff, not_false_eq_true, ca] at g89
                                    try omega
                                    all_goals
                                      try simp only [zwr_rne, zwr_req, upd_ne, upd_eq, ne_eq, Nat.reduceEqDiff, not_false_eq_true, ca]
                                      refine m_isClaim (by first | omega | (simp only [zwr_rne, zwr_req, upd_ne, upd_eq, ne_eq, Nat.reduceEqDiff, not_false_eq_true, ca]; omega)) (fun g95 g95' => ?_) (fun g95 => ?_)
                                      · try simp only [zwr_rne, zwr_req, upd_ne, upd_eq, ne_eq, Nat.reduceEqDiff, not_false_eq_true, ca] at g95
                                        try simp only [zwr_rne, zwr_req, upd_ne, upd_eq, ne_eq, Nat.reduceEqDiff, not_false_eq_true, ca] at g95'
                                        try omega
                                        all_goals
                                          try simp only [one_ne, zero_eq, if_false, if_true, or_true, true_or, or_false, false_or]
                                          try simp only [zwr_rne, zwr_req, upd_ne, upd_eq, ne_eq, Nat.reduceEqDiff, not_false_eq_true, ca]
                                          refine zeq (fun g96 => ?_) (fun g96 => ?_)
                                          · try simp only [zwr_rne, zwr_req, upd_ne, upd_eq, ne_eq, Nat.reduceEqDiff, not_false_eq_true, ca] at g96
                                            try omega
                                            all_goals
                                              try simp only [zwr_rne, zwr_req, upd_ne, upd_eq, ne_eq, Nat.reduceEqDiff, not_false_eq_true, ca]
                                              refine ⟨by first | assumption | exact vin (by omega) | exact vp_in_I.mpr (by omega), ?_⟩
                                              refine zeq (fun g97 => ?_) (fun g97 => ?_)
                                              · try simp only [zwr_rne, zwr_req, upd_ne, upd_eq, ne_eq, Nat.reduceEqDiff, not_false_eq_true, ca] at g97
                                                try omega
                                                all_goals
                                                  try simp only [zwr_rne, zwr_req, upd_ne, upd_eq, ne_eq, Nat.reduceEqDiff, not_false_eq_true, ca]
                                                  refine ⟨by first | assumption | exact vin (by omega) | exact vp_in_I.mpr (by omega), ?_⟩
                                                  rintro _ rfl
                                                  try simp only [zwr_rne, zwr_req, upd_ne, upd_eq, ne_eq, Nat.reduceEqDiff, not_false_eq_true, ca]
                                                  refine m_orNone s14 ?_
                                                  try simp only [zwr_rne, zwr_req, upd_ne, upd_eq, ne_eq, Nat.reduceEqDiff, not_false_eq_true, ca]
                                                  refine ⟨s5, ?_⟩
                                                  unfold Rall
                                                  simp only [zwr_rne, zwr_req, upd_ne, upd_eq, ne_eq, Nat.reduceEqDiff, not_false_eq_true]
                                                  subst gN
                                                  exact ⟨⟨k1, k2, k3, k4, k5, k6, k7, k8, k9⟩, kas.setC enc_m1.symm (by decide) (by rw [tim1]; omega), kcl, kda, kdh, kpl, kkp, ksh, kwt, ktp, klw, ksd, Rwx_stale, Rwx_stale⟩
                                              · try simp only [zwr_rne, zwr_req, upd_ne, upd_eq, ne_eq, Nat.reduceEqDiff, not_false_eq_true, ca] at g97
                                                try omega
                                                all_goals
                                                  try simp only [zwr_rne, zwr_req, upd_ne, upd_eq, ne_eq, Nat.reduceEqDiff, not_false_eq_true, ca]
                                                  refine ⟨by first | assumption | exact vin (by omega) | exact vp_in_I.mpr (by omega), ?_⟩
                                                  rintro _ rfl
                                                  try simp only [zwr_rne, zwr_req, upd_ne, upd_eq, ne_eq, Nat.reduceEqDiff, not_false_eq_true, ca]
                                                  refine m_orNone s14 ?_
                                                  try simp only [zwr_rne, zwr_req, upd_ne, upd_eq, ne_eq, Nat.reduceEqDiff, not_false_eq_true, ca]
                                                  refine ⟨s5, ?_⟩
                                                  unfold Rall
                                                  simp only [zwr_rne, zwr_req, upd_ne, upd_eq, ne_eq, Nat.reduceEqDiff, not_false_eq_true]
                                                  subst gN
                                                  exact ⟨⟨k1, k2, k3, k4, k5, k6, k7, k8, k9⟩, kas.setC enc_m1.symm (by decide) (by rw [tim1]; omega), kcl, kda, kdh, kpl, kkp, ksh, kwt, ktp, klw, ksd, Rwx_stale, Rwx_stale⟩
                                          · try simp only [zwr_rne, zwr_req, upd_ne, upd_eq, ne_eq, Nat.reduceEqDiff, not_false_eq_true, ca] at g96
                                            try omega
                                            all_goals
                                              try simp only [zwr_rne, zwr_req, upd_ne, upd_eq, ne_eq, Nat.reduceEqDiff, not_false_eq_true, ca]
                                              refine ⟨by first | assumption | exact vin (by omega) | exact vp_in_I.mpr (by omega), ?_⟩
                                              refine zeq (fun g98 => ?_) (fun g98 => ?_)
                                              · try simp only [zwr_rne, zwr_req, upd_ne, upd_eq, ne_eq, Nat.reduceEqDiff, not_false_eq_true, ca] at g98
                                                try omega
                                                all_goals
                                                  try simp only [zwr_rne, zwr_req, upd_ne, upd_eq, ne_eq, Nat.reduceEqDiff, not_false_eq_true, ca]
                                                  refine ⟨by first | assumption | exact vin (by omega) | exact vp_in_I.mpr (by omega), ?_⟩
                                                  refine ⟨by first | assumption | exact vin (by omega) | exact vp_in_I.mpr (by omega), ?_⟩
                                                  refine zeq (fun g99 => ?_) (fun g99 => ?_)
                                                  · try simp only [zwr_rne, zwr_req, upd_ne, upd_eq, ne_eq, Nat.reduceEqDiff, not_false_eq_true, ca] at g99
                                                    try omega
                                                    all_goals
                                                      try simp only [zwr_rne, zwr_req, upd_ne, upd_eq, ne_eq, Nat.reduceEqDiff, not_false_eq_true, ca]
                                                      refine ⟨by first | assumption | exact vin (by omega) | exact vp_in_I.mpr (by omega), ?_⟩
                                                      refine zeq (fun g100 => ?_) (fun g100 => ?_)
                                                      · try simp only [zwr_rne, zwr_req, upd_ne, upd_eq, ne_eq, Nat.reduceEqDiff, not_false_eq_true, ca] at g100
                                                        try omega
                                                        all_goals
                                                          try simp only [zwr_rne, zwr_req, upd_ne, upd_eq, ne_eq, Nat.reduceEqDiff, not_false_eq_true, ca]
                                                          refine ⟨by first | assumption | exact vin (by omega) | exact vp_in_I.mpr (by omega), ?_⟩
                                                          rintro _ rfl
                                                          try simp only [zwr_rne, zwr_req, upd_ne, upd_eq, ne_eq, Nat.reduceEqDiff, not_false_eq_true, ca]
                                                          refine m_orNone s14 ?_
                                                          try simp only [zwr_rne, zwr_req, upd_ne, upd_eq, ne_eq, Nat.reduceEqDiff, not_false_eq_true, ca]
                                                          refine ⟨s5, ?_⟩
                                                          unfold Rall
                                                          simp only [zwr_rne, zwr_req, upd_ne, upd_eq, ne_eq, Nat.reduceEqDiff, not_false_eq_true]
                                                          subst gN
                                                          exact ⟨⟨k1, k2, k3, k4, k5, k6, k7, k8, k9⟩, kas.setC enc_m1.symm (by decide) (by rw [tim1]; omega), kcl, kda, kdh, kpl, kkp, ksh, kwt, ktp, klw, ksd, Rwx_stale, Rwx_stale⟩
                                                      · try simp only [zwr_rne, zwr_req, upd_ne, upd_eq, ne_eq, Nat.reduceEqDiff, not_false_eq_true, ca] at g100
                                                        try omega
                                                        all_goals
                                                          try simp only [zwr_rne, zwr_req, upd_ne, upd_eq, ne_eq, Nat.reduceEqDiff, not_false_eq_true, ca]
                                                          refine ⟨by first | assumption | exact vin (by omega) | exact vp_in_I.mpr (by omega), ?_⟩
                                                          rintro _ rfl
                                                          try simp only [zwr_rne, zwr_req, upd_ne, upd_eq, ne_eq, Nat.reduceEqDiff, not_false_eq_true, ca]
                                                          refine m_orNone s14 ?_
                                                          try simp only [zwr_rne, zwr_req, upd_ne, upd_eq, ne_eq, Nat.reduceEqDiff, not_false_eq_true, ca]
                                                          refine ⟨s5, ?_⟩
                                                          unfold Rall
                                                          simp only [zwr_rne, zwr_req, upd_ne, upd_eq, ne_eq, Nat.reduceEqDiff, not_false_eq_true]
                                                          subst gN
                                                          exact ⟨⟨k1, k2, k3, k4, k5, k6, k7, k8, k9⟩, kas.setC enc_m1.symm (by decide) (by rw [tim1]; omega), kcl, kda, kdh, kpl, kkp, ksh, kwt, ktp, klw, ksd, Rwx_stale, Rwx_stale⟩
                                                  · try simp only [zwr_rne, zwr_req, upd_ne, upd_eq, ne_eq, Nat.reduceEqDiff, not_false_eq_true, ca] at g99
                                                    try omega
                                                    all_goals
                                                      try simp only [zwr_rne, zwr_req, upd_ne, upd_eq, ne_eq, Nat.reduceEqDiff, not_false_eq_true, ca]
                                                      exact ⟨by first | rfl | trivial, hh⟩
                                              · try simp only [zwr_rne, zwr_req, upd_ne, upd_eq, ne_eq, Nat.reduceEqDiff, not_false_eq_true, ca] at g98
                                                try omega
                                                all_goals
                                                  try simp only [zwr_rne, zwr_req, upd_ne, upd_eq, ne_eq, Nat.reduceEqDiff, not_false_eq_true, ca]
                                                  exact ⟨by first | rfl | trivial, hh⟩
                                      · try simp only [zwr_rne, zwr_req, upd_ne, upd_eq, ne_eq, Nat.reduceEqDiff, not_false_eq_true, ca] at g95
                                        try omega
                                        all_goals
                                          try simp only [one_ne, zero_eq, if_false, if_true, or_true, true_or, or_false, false_or]
                                          try simp only [zwr_rne, zwr_req, upd_ne, upd_eq, ne_eq, Nat.reduceEqDiff, not_false_eq_true, ca]
                                          exact ⟨by first | rfl | trivial, hh⟩
                              · try simp only [zwr_rne, zwr_req, upd_ne, upd_eq, ne_eq, Nat.reduceEqDiff, not_false_eq_true, ca] at g88
                                try omega
                                all_goals
                                  try simp only [one_ne, zero_eq, if_false, if_true, or_true, true_or, or_false, false_or]
                                  try simp only [zwr_rne, zwr_req, upd_ne, upd_eq, ne_eq, Nat.reduceEqDiff, not_false_eq_true, ca]
                                  exact ⟨by first | rfl | trivial, hh⟩
                      · try simp only [zwr_rne, zwr_req, upd_ne, upd_eq, ne_eq, Nat.reduceEqDiff, not_false_eq_true, ca] at g73
                        try omega
                        all_goals
                          refine en_X12_charge ?_
                          try simp only [zwr_rne, zwr_req, upd_ne, upd_eq, ne_eq, Nat.reduceEqDiff, not_false_eq_true, ca]
                          refine m_isAsset (by first | omega | (simp only [zwr_rne, zwr_req, upd_ne, upd_eq, ne_eq, Nat.reduceEqDiff, not_false_eq_true, ca]; omega)) (fun g101 g101' => ?_) (fun g101 => ?_)
                          · try simp only [zwr_rne, zwr_req, upd_ne, upd_eq, ne_eq, Nat.reduceEqDiff, not_false_eq_true, ca] at g101
                            try simp only [zwr_rne, zwr_req, upd_ne, upd_eq, ne_eq, Nat.reduceEqDiff, not_false_eq_true, ca] at g101'
                            try omega
                            all_goals
                              try simp only [one_ne, zero_eq, if_false, if_true, or_true, true_or, or_false, false_or]
                              try simp only [zwr_rne, zwr_req, upd_ne, upd_eq, ne_eq, Nat.reduceEqDiff, not_false_eq_true, ca]
                              refine zeq (fun g102 => ?_) (fun g102 => ?_)
                              · try simp only [zwr_rne, zwr_req, upd_ne, upd_eq, ne_eq, Nat.reduceEqDiff, not_false_eq_true, ca] at g102
                                try omega
                                all_goals
                                  try simp only [zwr_rne, zwr_req, upd_ne, upd_eq, ne_eq, Nat.reduceEqDiff, not_false_eq_true, ca]
                                  refine zeq (fun g103 => ?_) (fun g103 => ?_)
                                  · try simp only [zwr_rne, zwr_req, upd_ne, upd_eq, ne_eq, Nat.reduceEqDiff, not_false_eq_true, ca] at g103
                                    try omega
                                    all_goals
                                      try simp only [zwr_rne, zwr_req, upd_ne, upd_eq, ne_eq, Nat.reduceEqDiff, not_false_eq_true, ca]
                                      refine ⟨by first | assumption | exact vin (by omega) | exact vp_in_I.mpr (by omega), ?_⟩
                                      refine zeq (fun g104 => ?_) (fun g104 => ?_)
                                      · try simp only [zwr_rne, zwr_req, upd_ne, upd_eq, ne_eq, Nat.reduceEqDiff, not_false_eq_true, ca] at g104
                                        try omega
                                        all_goals
                                          try simp only [zwr_rne, zwr_req, upd_ne, upd_eq, ne_eq, Nat.reduceEqDiff, not_false_eq_true, ca]
                                          refine ⟨by first | assumption | exact vin (by omega) | exact vp_in_I.mpr (by omega), ?_⟩
                                          rintro _ rfl
                                          try simp only [zwr_rne, zwr_req, upd_ne, upd_eq, ne_eq, Nat.reduceEqDiff, not_false_eq_true, ca]
                                          refine m_orNone s14 ?_
                                          try simp only [zwr_rne, zwr_req, upd_ne, upd_eq, ne_eq, Nat.reduceEqDiff, not_false_eq_true, ca]
                                          refine ⟨s5, ?_⟩
                                          unfold Rall
                                          simp only [zwr_rne, zwr_req, upd_ne, upd_eq, ne_eq, Nat.reduceEqDiff, not_false_eq_true]
                                          subst gN
                                          exact ⟨⟨k1, k2, k3, k4, k5, k6, k7, k8, k9⟩, kas.setC enc_m1.symm (by decide) (by rw [tim1]; omega), kcl, kda, kdh, kpl, kkp, ksh, kwt, ktp, klw, ksd, Rwx_stale, Rwx_stale⟩
                                      · try simp only [zwr_rne, zwr_req, upd_ne, upd_eq, ne_eq, Nat.reduceEqDiff, not_false_eq_true, ca] at g104
                                        try omega
                                        all_goals
                                          try simp only [zwr_rne, zwr_req, upd_ne, upd_eq, ne_eq, Nat.reduceEqDiff, not_false_eq_true, ca]
                                          refine ⟨by first | assumption | exact vin (by omega) | exact vp_in_I.mpr (by omega), ?_⟩
                                          rintro _ rfl
                                          try simp only [zwr_rne, zwr_req, upd_ne, upd_eq, ne_eq, Nat.reduceEqDiff, not_false_eq_true, ca]
                                          refine m_orNone s14 ?_
                                          try simp only [zwr_rne, zwr_req, upd_ne, upd_eq, ne_eq, Nat.reduceEqDiff, not_false_eq_true, ca]
                                          refine ⟨s5, ?_⟩
                                          unfold Rall
                                          simp only [zwr_rne, zwr_req, upd_ne, upd_eq, ne_eq, Nat.reduceEqDiff, not_false_eq_true]
                                          subst gN
                                          exact ⟨⟨k1, k2, k3, k4, k5, k6, k7, k8, k9⟩, kas.setC enc_m1.symm (by decide) (by rw [tim1]; omega), kcl, kda, kdh, kpl, kkp, ksh, kwt, ktp, klw, ksd, Rwx_stale, Rwx_stale⟩
                                  · try simp only [zwr_rne, zwr_req, upd_ne, upd_eq, ne_eq, Nat.reduceEqDiff, not_false_eq_true, ca] at g103
                                    try omega
                                    all_goals
                                      try simp only [zwr_rne, zwr_req, upd_ne, upd_eq, ne_eq, Nat.reduceEqDiff, not_false_eq_true, ca]
                                      refine ⟨by first | assumption | exact vin (by omega) | exact vp_in_I.mpr (by omega), ?_⟩
                                      refine zeq (fun g105 => ?_) (fun g105 => ?_)
                                      · try simp only [zwr_rne, zwr_req, upd_ne, upd_eq, ne_eq, Nat.reduceEqDiff, not_false_eq_true, ca] at g105
                                        try omega
                                        all_goals
                                          try simp only [zwr_rne, zwr_req, upd_ne, upd_eq, ne_eq, Nat.reduceEqDiff, not_false_eq_true, ca]
                                          refine ⟨by first | assumption | exact vin (by omega) | exact vp_in_I.mpr (by omega), ?_⟩
                                          refine ⟨by first | assumption | exact vin (by omega) | exact vp_in_I.mpr (by omega), ?_⟩
                                          refine zeq (fun g106 => ?_) (fun g106 => ?_)
                                          · try simp only [zwr_rne, zwr_req, upd_ne, upd_eq, ne_eq, Nat.reduceEqDiff, not_false_eq_true, ca] at g106
                                            try omega
                                            all_goals
                                              try simp only [zwr_rne, zwr_req, upd_ne, upd_eq, ne_eq, Nat.reduceEqDiff, not_false_eq_true, ca]
                                              refine ⟨by first | assumption | exact vin (by omega) | exact vp_in_I.mpr (by omega), ?_⟩
                                              refine zeq (fun g107 => ?_) (fun g107 => ?_)
                                              · try simp only [zwr_rne, zwr_req, upd_ne, upd_eq, ne_eq, Nat.reduceEqDiff, not_false_eq_true, ca] at g107
                                                try omega
                                                all_goals
                                                  try simp only [zwr_rne, zwr_req, upd_ne, upd_eq, ne_eq, Nat.reduceEqDiff, not_false_eq_true, ca]
                                                  refine ⟨by first | assumption | exact vin (by omega) | exact vp_in_I.mpr (by omega), ?_⟩
                                                  rintro _ rfl
                                                  try simp only [zwr_rne, zwr_req, upd_ne, upd_eq, ne_eq, Nat.reduceEqDiff, not_false_eq_true, ca]
                                                  refine m_orNone s14 ?_
                                                  try simp only [zwr_rne, zwr_req, upd_ne, upd_eq, ne_eq, Nat.reduceEqDiff, not_false_eq_true, ca]
                                                  refine ⟨s5, ?_⟩
                                                  unfold Rall
                                                  simp only [zwr_rne, zwr_req, upd_ne, upd_eq, ne_eq, Nat.reduceEqDiff, not_false_eq_true]
                                                  subst gN
                                                  exact ⟨⟨k1, k2, k3, k4, k5, k6, k7, k8, k9⟩, kas.setC enc_m1.symm (by decide) (by rw [tim1]; omega), kcl, kda, kdh, kpl, kkp, ksh, kwt, ktp, klw, ksd, Rwx_stale, Rwx_stale⟩
                                              · try simp only [zwr_rne, zwr_req, upd_ne, upd_eq, ne_eq, Nat.reduceEqDiff, not_false_eq_true, ca] at g107
                                                try omega
                                                all_goals
                                                  try simp only [zwr_rne, zwr_req, upd_ne, upd_eq, ne_eq, Nat.reduceEqDiff, not_false_eq_true, ca]
                                                  refine ⟨by first | assumption | exact vin (by omega) | exact vp_in_I.mpr (by omega), ?_⟩
                                                  rintro _ rfl
                                                  try simp only [zwr_rne, zwr_req, upd_ne, upd_eq, ne_eq, Nat.reduceEqDiff, not_false_eq_true, ca]
                                                  refine m_orNone s14 ?_
                                                  try simp only [zwr_rne, zwr_req, upd_ne, upd_eq, ne_eq, Nat.reduceEqDiff, not_false_eq_true, ca]
                                                  refine ⟨s5, ?_⟩
                                                  unfold Rall
                                                  simp only [zwr_rne, zwr_req, upd_ne, upd_eq, ne_eq, Nat.reduceEqDiff, not_false_eq_true]
                                                  subst gN
                                                  exact ⟨⟨k1, k2, k3, k4, k5, k6, k7, k8, k9⟩, kas.setC enc_m1.symm (by decide) (by rw [tim1]; omega), kcl, kda, kdh, kpl, kkp, ksh, kwt, ktp, klw, ksd, Rwx_stale, Rwx_stale⟩
                                          · try simp only [zwr_rne, zwr_req, upd_ne, upd_eq, ne_eq, Nat.reduceEqDiff, not_false_eq_true, ca] at g106
                                            try omega
                                            all_goals
                                              try simp only [zwr_rne, zwr_req, upd_ne, upd_eq, ne_eq, Nat.reduceEqDiff, not_false_eq_true, ca]
                                              exact ⟨by first | rfl | trivial, hh⟩
                                      · try simp only [zwr_rne, zwr_req, upd_ne, upd_eq, ne_eq, Nat.reduceEqDiff, not_false_eq_true, ca] at g105
                                        try omega
                                        all_goals
                                          try simp only [zwr_rne, zwr_req, upd_ne, upd_eq, ne_eq, Nat.reduceEqDiff, not_false_eq_true, ca]
                                          exact ⟨by first | rfl | trivial, hh⟩
                              · try simp only [zwr_rne, zwr_req, upd_ne, upd_eq, ne_eq, Nat.reduceEqDiff, not_false_eq_true, ca] at g102
                                try omega
                                all_goals
                                  try simp only [zwr_rne, zwr_req, upd_ne, upd_eq, ne_eq, Nat.reduceEqDiff, not_false_eq_true, ca]
                                  refine m_isClaim (by first | omega | (simp only [zwr_rne, zwr_req, upd_ne, upd_eq, ne_eq, Nat.reduceEqDiff, not_false_eq_true, ca]; omega)) (fun g108 g108' => ?_) (fun g108 => ?_)
                                  · try simp only [zwr_rne, zwr_req, upd_ne, upd_eq, ne_eq, Nat.reduceEqDiff, not_false_eq_true, ca] at g108
                                    try simp only [zwr_rne, zwr_req, upd_ne, upd_eq, ne_eq, Nat.reduceEqDiff, not_false_eq_true, ca] at g108'
                                    try omega
                                    all_goals
                                      try simp only [one_ne, zero_eq, if_false, if_true, or_true, true_or, or_false, false_or]
                                      try simp only [zwr_rne, zwr_req, upd_ne, upd_eq, ne_eq, Nat.reduceEqDiff, not_false_eq_true, ca]
                                      refine zeq (fun g109 => ?_) (fun g109 => ?_)
                                      · try simp only [zwr_rne, zwr_req, upd_ne, upd_eq, ne_eq, Nat.reduceEqDiff, not_false_eq_true, ca] at g109
                                        try omega
                                        all_goals
                                          try simp only [zwr_rne, zwr_req, upd_ne, upd_eq, ne_eq, Nat.reduceEqDiff, not_false_eq_true, ca]
                                          refine ⟨by first | assumption | exact vin (by omega) | exact vp_in_I.mpr (by omega), ?_⟩
                                          refine zeq (fun g110 => ?_) (fun g110 => ?_)
                                          · try simp only [zwr_rne, zwr_req, upd_ne, upd_eq, ne_eq, Nat.reduceEqDiff, not_false_eq_true, ca] at g110
                                            try omega
                                            all_goals
                                              try simp only [zwr_rne, zwr_req, upd_ne, upd_eq, ne_eq, Nat.reduceEqDiff, not_false_eq_true, ca]
                                              refine ⟨by first | assumption | exact vin (by omega) | exact vp_in_I.mpr (by omega), ?_⟩
                                              rintro _ rfl
                                              try simp only [zwr_rne, zwr_req, upd_ne, upd_eq, ne_eq, Nat.reduceEqDiff, not_false_eq_true, ca]
                                              refine m_orNone s14 ?_
                                              try simp only [zwr_rne, zwr_req, upd_ne, upd_eq, ne_eq, Nat.reduceEqDiff, not_false_eq_true, ca]
                                              refine ⟨s5, ?_⟩
                                              unfold Rall
                                              simp only [zwr_rne, zwr_req, upd_ne, upd_eq, ne_eq, Nat.reduceEqDiff, not_false_eq_true]
                                              subst gN
                                              exact ⟨⟨k1, k2, k3, k4, k5, k6, k7, k8, k9⟩, kas.setC enc_m1.symm (by decide) (by rw [tim1]; omega), kcl, kda, kdh, kpl, kkp, ksh, kwt, ktp, klw, ksd, Rwx_stale, Rwx_stale⟩
                                          · try simp only [zwr_rne, zwr_req, upd_ne, upd_eq, ne_eq, Nat.reduceEqDiff, not_false_eq_true, ca] at g110
                                            try omega
                                            all_goals
                                              try simp only [zwr_rne, zwr_req, upd_ne, upd_eq, ne_eq, Nat.reduceEqDiff, not_false_eq_true, ca]
                                              refine ⟨by first | assumption | exact vin (by omega) | exact vp_in_I.mpr (by omega), ?_⟩
                                              rintro _ rfl
                                              try simp only [zwr_rne, zwr_req, upd_ne, upd_eq, ne_eq, Nat.reduceEqDiff, not_false_eq_true, ca]
                                              refine m_orNone s14 ?_
                                              try simp only [zwr_rne, zwr_req, upd_ne, upd_eq, ne_eq, Nat.reduceEqDiff, not_false_eq_true, ca]
                                              refine ⟨s5, ?_⟩
                                              unfold Rall
                                              simp only [zwr_rne, zwr_req, upd_ne, upd_eq, ne_eq, Nat.reduceEqDiff, not_false_eq_true]
                                              subst gN
                                              exact ⟨⟨k1, k2, k3, k4, k5, k6, k7, k8, k9⟩, kas.setC enc_m1.symm (by decide) (by rw [tim1]; omega), kcl, kda, kdh, kpl, kkp, ksh, kwt, ktp, klw, ksd, Rwx_stale, Rwx_stale⟩
                                      · try simp only [zwr_rne, zwr_req, upd_ne, upd_eq, ne_eq, Nat.reduceEqDiff, not_false_eq_true, ca] at g109
                                        try omega
                                        all_goals
                                          try simp only [zwr_rne, zwr_req, upd_ne, upd_eq, ne_eq, Nat.reduceEqDiff, not_false_eq_true, ca]
                                          refine ⟨by first | assumption | exact vin (by omega) | exact vp_in_I.mpr (by omega), ?_⟩
                                          refine zeq (fun g111 => ?_) (fun g111 => ?_)
                                          · try simp only [zwr_rne, zwr_req, upd_ne, upd_eq, ne_eq, Nat.reduceEqDiff, not_false_eq_true, ca] at g111
                                            try omega
                                            all_goals
                                              try simp only [zwr_rne, zwr_req, upd_ne, upd_eq, ne_eq, Nat.reduceEqDiff, not_false_eq_true, ca]
                                              refine ⟨by first | assumption | exact vin (by omega) | exact vp_in_I.mpr (by omega), ?_⟩
                                              refine ⟨by first | assumption | exact vin (by omega) | exact vp_in_I.mpr (by omega), ?_⟩
                                              refine zeq (fun g112 => ?_) (fun g112 => ?_)
                                              · try simp only [zwr_rne, zwr_req, upd_ne, upd_eq, ne_eq, Nat.reduceEqDiff, not_false_eq_true, ca] at g112
                                                try omega
                                                all_goals
                                                  try simp only [zwr_rne, zwr_req, upd_ne, upd_eq, ne_eq, Nat.reduceEqDiff, not_false_eq_true, ca]
                                                  refine ⟨by first | assumption | exact vin (by omega) | exact vp_in_I.mpr (by omega), ?_⟩
                                                  refine zeq (fun g113 => ?_) (fun g113 => ?_)
                                                  · try simp only [zwr_rne, zwr_req, upd_ne, upd_eq, ne_eq, Nat.reduceEqDiff, not_false_eq_true, ca] at g113
                                                    try omega
                                                    all_goals
                                                      try simp only [zwr_rne, zwr_req, upd_ne, upd_eq, ne_eq, Nat.reduceEqDiff, not_false_eq_true, ca]
                                                      refine ⟨by first | assumption | exact vin (by omega) | exact vp_in_I.mpr (by omega), ?_⟩
                                                      rintro _ rfl
                                                      try simp only [zwr_rne, zwr_req, upd_ne, upd_eq, ne_eq, Nat.reduceEqDiff, not_false_eq_true, ca]
                                                      refine m_orNone s14 ?_
                                                      try simp only [zwr_rne, zwr_req, upd_ne, upd_eq, ne_eq, Nat.reduceEqDiff, not_false_eq_true, ca]
                                                      refine ⟨s5, ?_⟩
                                                      unfold Rall
                                                      simp only [zwr_rne, zwr_req, upd_ne, upd_eq, ne_eq, Nat.reduceEqDiff, not_false_eq_true]
                                                      subst gN
                                                      exact ⟨⟨k1, k2, k3, k4, k5, k6, k7, k8, k9⟩, kas.setC enc_m1.symm (by decide) (by rw [tim1]; omega), kcl, kda, kdh, kpl, kkp, ksh, kwt, ktp, klw, ksd, Rwx_stale, Rwx_stale⟩
                                                  · try simp only [zwr_rne, zwr_req, upd_ne, upd_eq, ne_eq, Nat.reduceEqDiff, not_false_eq_true, ca] at g113
                                                    try omega
                                                    all_goals
                                                      try simp only [zwr_rne, zwr_req, upd_ne, upd_eq, ne_eq, Nat.reduceEqDiff, not_false_eq_true, ca]
                                                      refine ⟨by first | assumption | exact vin (by omega) | exact vp_in_I.mpr (by omega), ?_⟩
                                                      rintro _ rfl
                                                      try simp only [zwr_rne, zwr_req, upd_ne, upd_eq, ne_eq, Nat.reduceEqDiff, not_false_eq_true, ca]
                                                      refine m_orNone s14 ?_
                                                      try simp only [zwr_rne, zwr_req, upd_ne, upd_eq, ne_eq, Nat.reduceEqDiff, not_false_eq_true, ca]
                                                      refine ⟨s5, ?_⟩
                                                      unfold Rall
                                                      simp only [zwr_rne, zwr_req, upd_ne, upd_eq, ne_eq, Nat.reduceEqDiff, not_false_eq_true]
                                                      subst gN
                                                      exact ⟨⟨k1, k2, k3, k4, k5, k6, k7, k8, k9⟩, kas.setC enc_m1.symm (by decide) (by rw [tim1]; omega), kcl, kda, kdh, kpl, kkp, ksh, kwt, ktp, klw, ksd, Rwx_stale, Rwx_stale⟩
                                              · try simp only [zwr_rne, zwr_req, upd_ne, upd_eq, ne_eq, Nat.reduceEqDiff, not_false_eq_true, ca] at g112
                                                try omega
                                                all_goals
                                                  try simp only [zwr_rne, zwr_req, upd_ne, upd_eq, ne_eq, Nat.reduceEqDiff, not_false_eq_true, ca]
                                                  exact ⟨by first | rfl | trivial, hh⟩
                                          · try simp only [zwr_rne, zwr_req, upd_ne, upd_eq, ne_eq, Nat.reduceEqDiff, not_false_eq_true, ca] at g111
                                            try omega
                                            all_goals
                                              try simp only [zwr_rne, zwr_req, upd_ne, upd_eq, ne_eq, Nat.reduceEqDiff, not_false_eq_true, ca]
                                              exact ⟨by first | rfl | trivial, hh⟩
                                  · try simp only [zwr_rne, zwr_req, upd_ne, upd_eq, ne_eq, Nat.reduceEqDiff, not_false_eq_true, ca] at g108
                                    try omega
                                    all_goals
                                      try simp only [one_ne, zero_eq, if_false, if_true, or_true, true_or, or_false, false_or]
                                      try simp only [zwr_rne, zwr_req, upd_ne, upd_eq, ne_eq, Nat.reduceEqDiff, not_false_eq_true, ca]
                                      exact ⟨by first | rfl | trivial, hh⟩
                          · try simp only [zwr_rne, zwr_req, upd_ne, upd_eq, ne_eq, Nat.reduceEqDiff, not_false_eq_true, ca] at g101
                            try omega
                            all_goals
                              try simp only [one_ne, zero_eq, if_false, if_true, or_true, true_or, or_false, false_or]
                              try simp only [zwr_rne, zwr_req, upd_ne, upd_eq, ne_eq, Nat.reduceEqDiff, not_false_eq_true, ca]
                              exact ⟨by first | rfl | trivial, hh⟩
              · try simp only [zwr_rne, zwr_req, upd_ne, upd_eq, ne_eq, Nat.reduceEqDiff, not_false_eq_true, ca] at g58
                try omega
                all_goals
                  try simp only [one_ne, zero_eq, if_false, if_true, or_true, true_or, or_false, false_or]
                  refine en_X12_charge ?_
                  try simp only [zwr_rne, zwr_req, upd_ne, upd_eq, ne_eq, Nat.reduceEqDiff, not_false_eq_true, ca]
                  refine m_isAsset (by first | omega | (simp only [zwr_rne, zwr_req, upd_ne, upd_eq, ne_eq, Nat.reduceEqDiff, not_false_eq_true, ca]; omega)) (fun g114 g114' => ?_) (fun g114 => ?_)
                  · try simp only [zwr_rne, zwr_req, upd_ne, upd_eq, ne_eq, Nat.reduceEqDiff, not_false_eq_true, ca] at g114
                    try simp only [zwr_rne, zwr_req, upd_ne, upd_eq, ne_eq, Nat.reduceEqDiff, not_false_eq_true, ca] at g114'
                    try omega
                    all_goals
                      try simp only [one_ne, zero_eq, if_false, if_true, or_true, true_or, or_false, false_or]
                      try simp only [zwr_rne, zwr_req, upd_ne, upd_eq, ne_eq, Nat.reduceEqDiff, not_false_eq_true, ca]
                      refine zeq (fun g115 => ?_) (fun g115 => ?_)
                      · try simp only [zwr_rne, zwr_req, upd_ne, upd_eq, ne_eq, Nat.reduceEqDiff, not_false_eq_true, ca] at g115
                        try omega
                        all_goals
                          try simp only [zwr_rne, zwr_req, upd_ne, upd_eq, ne_eq, Nat.reduceEqDiff, not_false_eq_true, ca]
                          refine zeq (fun g116 => ?_) (fun g116 => ?_)
                          · try simp only [zwr_rne, zwr_req, upd_ne, upd_eq, ne_eq, Nat.reduceEqDiff, not_false_eq_true, ca] at g116
                            try omega
                            all_goals
                              try simp only [zwr_rne, zwr_req, upd_ne, upd_eq, ne_eq, Nat.reduceEqDiff, not_false_eq_true, ca]
                              refine ⟨by first | assumption | exact vin (by omega) | exact vp_in_I.mpr (by omega), ?_⟩
                              refine zeq (fun g117 => ?_) (fun g117 => ?_)
                              · try simp only [zwr_rne, zwr_req, upd_ne, upd_eq, ne_eq, Nat.reduceEqDiff, not_false_eq_true, ca] at g117
                                try omega
                                all_goals
                                  try simp only [zwr_rne, zwr_req, upd_ne, upd_eq, ne_eq, Nat.reduceEqDiff, not_false_eq_true, ca]
                                  refine ⟨by first | assumption | exact vin (by omega) | exact vp_in_I.mpr (by omega), ?_⟩
                                  rintro _ rfl
                                  try simp only [zwr_rne, zwr_req, upd_ne, upd_eq, ne_eq, Nat.reduceEqDiff, not_false_eq_true, ca]
                                  refine m_orNone s14 ?_
                                  try simp only [zwr_rne, zwr_req, upd_ne, upd_eq, ne_eq, Nat.reduceEqDiff, not_false_eq_true, ca]
                                  refine ⟨s5, ?_⟩
                                  unfold Rall
                                  simp only [zwr_rne, zwr_req, upd_ne, upd_eq, ne_eq, Nat.reduceEqDiff, not_false_eq_true]
                                  subst gN
                                  exact ⟨⟨k1, k2, k3, k4, k5, k6, k7, k8, k9⟩, kas.setC enc_m1.symm (by decide) (by rw [tim1]; omega), kcl, kda, kdh, kpl, kkp, ksh, kwt, ktp, klw, ksd, Rwx_stale, Rwx_stale⟩
                              · try simp only [zwr_rne, zwr_req, upd_ne, upd_eq, ne_eq, Nat.reduceEqDiff, not_false_eq_true, ca] at g117
                                try omega
                                all_goals
                                  try simp only [zwr_rne, zwr_req, upd_ne, upd_eq, ne_eq, Nat.reduceEqDiff, not_false_eq_true, ca]
                                  refine ⟨by first | assumption | exact vin (by omega) | exact vp_in_I.mpr (by omega), ?_⟩
                                  rintro _ rfl
                                  try simp only [zwr_rne, zwr_req, upd_ne, upd_eq, ne_eq, Nat.reduceEqDiff, not_false_eq_true, ca]
                                  refine m_orNone s14 ?_
                                  try simp only [zwr_rne, zwr_req, upd_ne, upd_eq, ne_eq, Nat.reduceEqDiff, not_false_eq_true, ca]
                                  refine ⟨s5, ?_⟩
                                  unfold Rall
                                  simp only [zwr_rne, zwr_req, upd_ne, upd_eq, ne_eq, Nat.reduceEqDiff, not_false_eq_true]
                                  subst gN
                                  exact ⟨⟨k1, k2, k3, k4, k5, k6, k7, k8, k9⟩, kas.setC enc_m1.symm (by decide) (by rw [tim1]; omega), kcl, kda, kdh, kpl, kkp, ksh, kwt, ktp, klw, ksd, Rwx_stale, Rwx_stale⟩
                          · try simp only [zwr_rne, zwr_req, upd_ne, upd_eq, ne_eq, Nat.reduceEqDiff, not_false_eq_true, ca] at g116
                            try omega
                            all_goals
                              try simp only [zwr_rne, zwr_req, upd_ne, upd_eq, ne_eq, Nat.reduceEqDiff, not_false_eq_true, ca]
                              refine ⟨by first | assumption | exact vin (by omega) | exact vp_in_I.mpr (by omega), ?_⟩
                              refine zeq (fun g118 => ?_) (fun g118 => ?_)
                              · try simp only [zwr_rne, zwr_req, upd_ne, upd_eq, ne_eq, Nat.reduceEqDiff, not_false_eq_true, ca] at g118
                                try omega
                                all_goals
                                  try simp only [zwr_rne, zwr_req, upd_ne, upd_eq, ne_eq, Nat.reduceEqDiff, not_false_eq_true, ca]
                                  refine ⟨by first | assumption | exact vin (by omega) | exact vp_in_I.mpr (by omega), ?_⟩
                                  refine ⟨by first | assumption | exact vin (by omega) | exact vp_in_I.mpr (by omega), ?_⟩
                                  refine zeq (fun g119 => ?_) (fun g119 => ?_)
                                  · try simp only [zwr_rne, zwr_req, upd_ne, upd_eq, ne_eq, Nat.reduceEqDiff, not_false_eq_true, ca] at g119
                                    try omega
                                    all_goals
                                      try simp only [zwr_rne, zwr_req, upd_ne, upd_eq, ne_eq, Nat.reduceEqDiff, not_false_eq_true, ca]
                                      refine ⟨by first | assumption | exact vin (by omega) | exact vp_in_I.mpr (by omega), ?_⟩
                                      refine zeq (fun g120 => ?_) (fun g120 => ?_)
                                      · try simp only [zwr_rne, zwr_req, upd_ne, upd_eq, ne_eq, Nat.reduceEqDiff, not_false_eq_true, ca] at g120
                                        try omega
                                        all_goals
                                          try simp only [zwr_rne, zwr_req, upd_ne, upd_eq, ne_eq, Nat.reduceEqDiff, not_false_eq_true, ca]
                                          refine ⟨by first | assumption | exact vin (by omega) | exact vp_in_I.mpr (by omega), ?_⟩
                                          rintro _ rfl
                                          try simp only [zwr_rne, zwr_req, upd_ne, upd_eq, ne_eq, Nat.reduceEqDiff, not_false_eq_true, ca]
                                          refine m_orNone s14 ?_
                                          try simp only [zwr_rne, zwr_req, upd_ne, upd_eq, ne_eq, Nat.reduceEqDiff, not_false_eq_true, ca]
                                          refine ⟨s5, ?_⟩
                                          unfold Rall
                                          simp only [zwr_rne, zwr_req, upd_ne, upd_eq, ne_eq, Nat.reduceEqDiff, not_false_eq_true]
                                          subst gN
                                          exact ⟨⟨k1, k2, k3, k4, k5, k6, k7, k8, k9⟩, kas.setC enc_m1.symm (by decide) (by rw [tim1]; omega), kcl, kda, kdh, kpl, kkp, ksh, kwt, ktp, klw, ksd, Rwx_stale, Rwx_stale⟩
                                      · try simp only [zwr_rne, zwr_req, upd_ne, upd_eq, ne_eq, Nat.reduceEqDiff, not_false_eq_true, ca] at g120
                                        try omega
                                        all_goals
                                          try simp only [zwr_rne, zwr_req, upd_ne, upd_eq, ne_eq, Nat.reduceEqDiff, not_false_eq_true, ca]
                                          refine ⟨by first | assumption | exact vin (by omega) | exact vp_in_I.mpr (by omega), ?_⟩
                                          rintro _ rfl
                                          try simp only [zwr_rne, zwr_req, upd_ne, upd_eq, ne_eq, Nat.reduceEqDiff, not_false_eq_true, ca]
                                          refine m_orNone s14 ?_
                                          try simp only [zwr_rne, zwr_req, upd_ne, upd_eq, ne_eq, Nat.reduceEqDiff, not_false_eq_true, ca]
                                          refine ⟨s5, ?_⟩
                                          unfold Rall
                                          simp only [zwr_rne, zwr_req, upd_ne, upd_eq, ne_eq, Nat.reduceEqDiff, not_false_eq_true]
                                          subst gN
                                          exact ⟨⟨k1, k2, k3, k4, k5, k6, k7, k8, k9⟩, kas.setC enc_m1.symm (by decide) (by rw [tim1]; omega), kcl, kda, kdh, kpl, kkp, ksh, kwt, ktp, klw, ksd, Rwx_stale, Rwx_stale⟩
                                  · try simp only [zwr_rne, zwr_req, upd_ne, upd_eq, ne_eq, Nat.reduceEqDiff, not_false_eq_true, ca] at g119
                                    try omega
                                    all_goals
                                      try simp only [zwr_rne, zwr_req, upd_ne, upd_eq, ne_eq, Nat.reduceEqDiff, not_false_eq_true, ca]
                                      exact ⟨by first | rfl | trivial, hh⟩
                              · try simp only [zwr_rne, zwr_req, upd_ne, upd_eq, ne_eq, Nat.reduceEqDiff, not_false_eq_true, ca] at g118
                                try omega
                                all_goals
                                  try simp only [zwr_rne, zwr_req, upd_ne, upd_eq, ne_eq, Nat.reduceEqDiff, not_false_eq_true, ca]
                                  exact ⟨by first | rfl | trivial, hh⟩
                      · try simp only [zwr_rne, zwr_req, upd_ne, upd_eq, ne_eq, Nat.reduceEqDiff, not_false_eq_true, ca] at g115
                        try omega
                        all_goals
                          try simp only [zwr_rne, zwr_req, upd_ne, upd_eq, ne_eq, Nat.reduceEqDiff, not_false_eq_true, ca]
                          refine m_isClaim (by first | omega | (simp only [zwr_rne, zwr_req, upd_ne, upd_eq, ne_eq, Nat.reduceEqDiff, not_false_eq_true, ca]; omega)) (fun g121 g121' => ?_) (fun g121 => ?_)
                          · try simp only [zwr_rne, zwr_req, upd_ne, upd_eq, ne_eq, Nat.reduceEqDiff, not_false_eq_true, ca] at g121
                            try simp only [zwr_rne, zwr_req, upd_ne, upd_eq, ne_eq, Nat.reduceEqDiff, not_false_eq_true, ca] at g121'
                            try omega
                            all_goals
                              try simp only [one_ne, zero_eq, if_false, if_true, or_true, true_or, or_false, false_or]
                              try simp only [zwr_rne, zwr_req, upd_ne, upd_eq, ne_eq, Nat.reduceEqDiff, not_false_eq_true, ca]
                              refine zeq (fun g122 => ?_) (fun g122 => ?_)
                              · try simp only [zwr_rne, zwr_req, upd_ne, upd_eq, ne_eq, Nat.reduceEqDiff, not_false_eq_true, ca] at g122
                                try omega
                                all_goals
                                  try simp only [zwr_rne, zwr_req, upd_ne, upd_eq, ne_eq, Nat.reduceEqDiff, not_false_eq_true, ca]
                                  refine ⟨by first | assumption | exact vin (by omega) | exact vp_in_I.mpr (by omega), ?_⟩
                                  refine zeq (fun g123 => ?_) (fun g123 => ?_)
                                  · try simp only [zwr_rne, zwr_req, upd_ne, upd_eq, ne_eq, Nat.reduceEqDiff, not_false_eq_true, ca] at g123
                                    try omega
                                    all_goals
                                      try simp only [zwr_rne, zwr_req, upd_ne, upd_eq, ne_eq, Nat.reduceEqDiff, not_false_eq_true, ca]
                                      refine ⟨by first | assumption | exact vin (by omega) | exact vp_in_I.mpr (by omega), ?_⟩
                                      rintro _ rfl
                                      try simp only [zwr_rne, zwr_req, upd_ne, upd_eq, ne_eq, Nat.reduceEqDiff, not_false_eq_true, ca]
                                      refine m_orNone s14 ?_
                                      try simp only [zwr_rne, zwr_req, upd_ne, upd_eq, ne_eq, Nat.reduceEqDiff, not_false_eq_true, ca]
                                      refine ⟨s5, ?_⟩
                                      unfold Rall
                                      simp only [zwr_rne, zwr_req, upd_ne, upd_eq, ne_eq, Nat.reduceEqDiff, not_false_eq_true]
                                      subst gN
                                      exact ⟨⟨k1, k2, k3, k4, k5, k6, k7, k8, k9⟩, kas.setC enc_m1.symm (by decide) (by rw [tim1]; omega), kcl, kda, kdh, kpl, kkp, ksh, kwt, ktp, klw, ksd, Rwx_stale, Rwx_stale⟩
                                  · try simp only [zwr_rne, zwr_req, upd_ne, upd_eq, ne_eq, Nat.reduceEqDiff, not_false_eq_true, ca] at g123
                                    try omega
                                    all_goals
                                      try simp only [zwr_rne, zwr_req, upd_ne, upd_eq, ne_eq, Nat.reduceEqDiff, not_false_eq_true, ca]
                                      refine ⟨by first | assumption | exact vin (by omega) | exact vp_in_I.mpr (by omega), ?_⟩
                                      rintro _ rfl
                                      try simp only [zwr_rne, zwr_req, upd_ne, upd_eq, ne_eq, Nat.reduceEqDiff, not_false_eq_true, ca]
                                      refine m_orNone s14 ?_
                                      try simp only [zwr_rne, zwr_req, upd_ne, upd_eq, ne_eq, Nat.reduceEqDiff, not_false_eq_true, ca]
                                      refine ⟨s5, ?_⟩
                                      unfold Rall
                                      simp only [zwr_rne, zwr_req, upd_ne, upd_eq, ne_eq, Nat.reduceEqDiff, not_false_eq_true]
                                      subst gN
                                      exact ⟨⟨k1, k2, k3, k4, k5, k6, k7, k8, k9⟩, kas.setC enc_m1.symm (by decide) (by rw [tim1]; omega), kcl, kda, kdh, kpl, kkp, ksh, kwt, ktp, klw, ksd, Rwx_stale, Rwx_stale⟩
                              · try simp only [zwr_rne, zwr_req, upd_ne, upd_eq, ne_eq, Nat.reduceEqDiff, not_false_eq_true, ca] at g122
                                try omega
                                all_goals
                                  try simp only [zwr_rne, zwr_req, upd_ne, upd_eq, ne_eq, Nat.reduceEqDiff, not_false_eq_true, ca]
                                  refine ⟨by first | assumption | exact vin (by omega) | exact vp_in_I.mpr (by omega), ?_⟩
                                  refine zeq (fun g124 => ?_) (fun g124 => ?_)
                                  · try simp only [zwr_rne, zwr_req, upd_ne, upd_eq, ne_eq, Nat.reduceEqDiff, not_false_eq_true, ca] at g124
                                    try omega
                                    all_goals
                                      try simp only [zwr_rne, zwr_req, upd_ne, upd_eq, ne_eq, Nat.reduceEqDiff, not_false_eq_true, ca]
                                      refine ⟨by first | assumption | exact vin (by omega) | exact vp_in_I.mpr (by omega), ?_⟩
                                      refine ⟨by first | assumption | exact vin (by omega) | exact vp_in_I.mpr (by omega), ?_⟩
                                      refine zeq (fun g125 => ?_) (fun g125 => ?_)
                                      · try simp only [zwr_rne, zwr_req, upd_ne, upd_eq, ne_eq, Nat.reduceEqDiff, not_false_eq_true, ca] at g125
                                        try omega
                                        all_goals
                                          try simp only [zwr_rne, zwr_req, upd_ne, upd_eq, ne_eq, Nat.reduceEqDiff, not_false_eq_true, ca]
                                          refine ⟨by first | assumption | exact vin (by omega) | exact vp_in_I.mpr (by omega), ?_⟩
                                          refine zeq (fun g126 => ?_) (fun g126 => ?_)
                                          · try simp only [zwr_rne, zwr_req, upd_ne, upd_eq, ne_eq, Nat.reduceEqDiff, not_false_eq_true, ca] at g126
                                            try omega
                                            all_goals
                                              try simp only [zwr_rne, zwr_req, upd_ne, upd_eq, ne_eq, Nat.reduceEqDiff, not_false_eq_true, ca]
                                              refine ⟨by first | assumption | exact vin (by omega) | exact vp_in_I.mpr (by omega), ?_⟩
                                              rintro _ rfl
                                              try simp only [zwr_rne, zwr_req, upd_ne, upd_eq, ne_eq, Nat.reduceEqDiff, not_false_eq_true, ca]
                                              refine m_orNone s14 ?_
                                              try simp only [zwr_rne, zwr_req, upd_ne, upd_eq, ne_eq, Nat.reduceEqDiff, not_false_eq_true, ca]
                                              refine ⟨s5, ?_⟩
                                              unfold Rall
                                              simp only [zwr_rne, zwr_req, upd_ne, upd_eq, ne_eq, Nat.reduceEqDiff, not_false_eq_true]
                                              subst gN
                                              exact ⟨⟨k1, k2, k3, k4, k5, k6, k7, k8, k9⟩, kas.setC enc_m1.symm (by decide) (by rw [tim1]; omega), kcl, kda, kdh, kpl, kkp, ksh, kwt, ktp, klw, ksd, Rwx_stale, Rwx_stale⟩
                                          · try simp only [zwr_rne, zwr_req, upd_ne, upd_eq, ne_eq, Nat.reduceEqDiff, not_false_eq_true, ca] at g126
                                            try omega
                                            all_goals
                                              try simp only [zwr_rne, zwr_req, upd_ne, upd_eq, ne_eq, Nat.reduceEqDiff, not_false_eq_true, ca]
                                              refine ⟨by first | assumption | exact vin (by omega) | exact vp_in_I.mpr (by omega), ?_⟩
                                              rintro _ rfl
                                              try simp only [zwr_rne, zwr_req, upd_ne, upd_eq, ne_eq, Nat.reduceEqDiff, not_false_eq_true, ca]
                                              refine m_orNone s14 ?_
                                              try simp only [zwr_rne, zwr_req, upd_ne, upd_eq, ne_eq, Nat.reduceEqDiff, not_false_eq_true, ca]
                                              refine ⟨s5, ?_⟩
                                              unfold Rall
                                              simp only [zwr_rne, zwr_req, upd_ne, upd_eq, ne_eq, Nat.reduceEqDiff, not_false_eq_true]
                                              subst gN
                                              exact ⟨⟨k1, k2, k3, k4, k5, k6, k7, k8, k9⟩, kas.setC enc_m1.symm (by decide) (by rw [tim1]; omega), kcl, kda, kdh, kpl, kkp, ksh, kwt, ktp, klw, ksd, Rwx_stale, Rwx_stale⟩
                                      · try simp only [zwr_rne, zwr_req, upd_ne, upd_eq, ne_eq, Nat.reduceEqDiff, not_false_eq_true, ca] at g125
                                        try omega
                                        all_goals
                                          try simp only [zwr_rne, zwr_req, upd_ne, upd_eq, ne_eq, Nat.reduceEqDiff, not_false_eq_true, ca]
                                          exact ⟨by first | rfl | trivial, hh⟩
                                  · try simp only [zwr_rne, zwr_req, upd_ne, upd_eq, ne_eq, Nat.reduceEqDiff, not_false_eq_true, ca] at g124
                                    try omega
                                    all_goals
                                      try simp only [zwr_rne, zwr_req, upd_ne, upd_eq, ne_eq, Nat.reduceEqDiff, not_false_eq_true, ca]
                                      exact ⟨by first | rfl | trivial, hh⟩
                          · try simp only [zwr_rne, zwr_req, upd_ne, upd_eq, ne_eq, Nat.reduceEqDiff, not_false_eq_true, ca] at g121
                            try omega
                            all_goals
                              try simp only [one_ne, zero_eq, if_false, if_true, or_true, true_or, or_false, false_or]
                              try simp only [zwr_rne, zwr_req, upd_ne, upd_eq, ne_eq, Nat.reduceEqDiff, not_false_eq_true, ca]
                              exact ⟨by first | rfl | trivial, hh⟩
                  · try simp only [zwr_rne, zwr_req, upd_ne, upd_eq, ne_eq, Nat.reduceEqDiff, not_false_eq_true, ca] at g114
                    try omega
                    all_goals
                      try simp only [one_ne, zero_eq, if_false, if_true, or_true, true_or, or_false, false_or]
                      try simp only [zwr_rne, zwr_req, upd_ne, upd_eq, ne_eq, Nat.reduceEqDiff, not_false_eq_true, ca]
                      exact ⟨by first | rfl | trivial, hh⟩
      · try simp only [zwr_rne, zwr_req, upd_ne, upd_eq, ne_eq, Nat.reduceEqDiff, not_false_eq_true, ca] at g1
        try omega
        all_goals
          try simp only [one_ne, zero_eq, if_false, if_true, or_true, true_or, or_false, false_or]
          refine en_X12_charge ?_
          try simp only [zwr_rne, zwr_req, upd_ne, upd_eq, ne_eq, Nat.reduceEqDiff, not_false_eq_true, ca]
          refine m_isAsset (by first | omega | (simp only [zwr_rne, zwr_req, upd_ne, upd_eq, ne_eq, Nat.reduceEqDiff, not_false_eq_true, ca]; omega)) (fun g127 g127' => ?_) (fun g127 => ?_)
          · try simp only [zwr_rne, zwr_req, upd_ne, upd_eq, ne_eq, Nat.reduceEqDiff, not_false_eq_true, ca] at g127
            try simp only [zwr_rne, zwr_req, upd_ne, upd_eq, ne_eq, Nat.reduceEqDiff, not_false_eq_true, ca] at g127'
            try omega
            all_goals
              try simp only [one_ne, zero_eq, if_false, if_true, or_true, true_or, or_false, false_or]
              try simp only [zwr_rne, zwr_req, upd_ne, upd_eq, ne_eq, Nat.reduceEqDiff, not_false_eq_true, ca]
              refine zeq (fun g128 => ?_) (fun g128 => ?_)
              · try simp only [zwr_rne, zwr_req, upd_ne, upd_eq, ne_eq, Nat.reduceEqDiff, not_false_eq_true, ca] at g128
                try omega
                all_goals
                  try simp only [zwr_rne, zwr_req, upd_ne, upd_eq, ne_eq, Nat.reduceEqDiff, not_false_eq_true, ca]
                  refine zeq (fun g129 => ?_) (fun g129 => ?_)
                  · try simp only [zwr_rne, zwr_req, upd_ne, upd_eq, ne_eq, Nat.reduceEqDiff, not_false_eq_true, ca] at g129
                    try omega
                    all_goals
                      try simp only [zwr_rne, zwr_req, upd_ne, upd_eq, ne_eq, Nat.reduceEqDiff, not_false_eq_true, ca]
                      refine ⟨by first | assumption | exact vin (by omega) | exact vp_in_I.mpr (by omega), ?_⟩
                      refine zeq (fun g130 => ?_) (fun g130 => ?_)
                      · try simp only [zwr_rne, zwr_req, upd_ne, upd_eq, ne_eq, Nat.reduceEqDiff, not_false_eq_true, ca] at g130
                        try omega
                        all_goals
                          try simp only [zwr_rne, zwr_req, upd_ne, upd_eq, ne_eq, Nat.reduceEqDiff, not_false_eq_true, ca]
                          refine ⟨by first | assumption | exact vin (by omega) | exact vp_in_I.mpr (by omega), ?_⟩
                          rintro _ rfl
                          try simp only [zwr_rne, zwr_req, upd_ne, upd_eq, ne_eq, Nat.reduceEqDiff, not_false_eq_true, ca]
                          refine m_orNone s14 ?_
                          try simp only [zwr_rne, zwr_req, upd_ne, upd_eq, ne_eq, Nat.reduceEqDiff, not_false_eq_true, ca]
                          refine ⟨s5, ?_⟩
                          unfold Rall
                          simp only [zwr_rne, zwr_req, upd_ne, upd_eq, ne_eq, Nat.reduceEqDiff, not_false_eq_true]
                          subst gN
                          exact ⟨⟨k1, k2, k3, k4, k5, k6, k7, k8, k9⟩, kas.setC enc_m1.symm (by decide) (by rw [tim1]; omega), kcl, kda, kdh, kpl, kkp, ksh, kwt, ktp, klw, ksd, Rwx_stale, Rwx_stale⟩
                      · try simp only [zwr_rne, zwr_req, upd_ne, upd_eq, ne_eq, Nat.reduceEqDiff, not_false_eq_true, ca] at g130
                        try omega
                        all_goals
                          try simp only [zwr_rne, zwr_req, upd_ne, upd_eq, ne_eq, Nat.reduceEqDiff, not_false_eq_true, ca]
                          refine ⟨by first | assumption | exact vin (by omega) | exact vp_in_I.mpr (by omega), ?_⟩
                          rintro _ rfl
                          try simp only [zwr_rne, zwr_req, upd_ne, upd_eq, ne_eq, Nat.reduceEqDiff, not_false_eq_true, ca]
                          refine m_orNone s14 ?_
                          try simp only [zwr_rne, zwr_req, upd_ne, upd_eq, ne_eq, Nat.reduceEqDiff, not_false_eq_true, ca]
                          refine ⟨s5, ?_⟩
                          unfold Rall
                          simp only [zwr_rne, zwr_req, upd_ne, upd_eq, ne_eq, Nat.reduceEqDiff, not_false_eq_true]
                          subst gN
                          exact ⟨⟨k1, k2, k3, k4, k5, k6, k7, k8, k9⟩, kas.setC enc_m1.symm (by decide) (by rw [tim1]; omega), kcl, kda, kdh, kpl, kkp, ksh, kwt, ktp, klw, ksd, Rwx_stale, Rwx_stale⟩
                  · try simp only [zwr_rne, zwr_req, upd_ne, upd_eq, ne_eq, Nat.reduceEqDiff, not_false_eq_true, ca] at g129
                    try omega
                    all_goals
                      try simp only [zwr_rne, zwr_req, upd_ne, upd_eq, ne_eq, Nat.reduceEqDiff, not_false_eq_true, ca]
                      refine ⟨by first | assumption | exact vin (by omega) | exact vp_in_I.mpr (by omega), ?_⟩
                      refine zeq (fun g131 => ?_) (fun g131 => ?_)
                      · try simp only [zwr_rne, zwr_req, upd_ne, upd_eq, ne_eq, Nat.reduceEqDiff, not_false_eq_true, ca] at g131
                        try omega
                        all_goals
                          try simp only [zwr_rne, zwr_req, upd_ne, upd_eq, ne_eq, Nat.reduceEqDiff, not_false_eq_true, ca]
                          refine ⟨by first | assumption | exact vin (by omega) | exact vp_in_I.mpr (by omega), ?_⟩
                          refine ⟨by first | assumption | exact vin (by omega) | exact vp_in_I.mpr (by omega), ?_⟩
                          refine zeq (fun g132 => ?_) (fun g132 => ?_)
                          · try simp only [zwr_rne, zwr_req, upd_ne, upd_eq, ne_eq, Nat.reduceEqDiff, not_false_eq_true, ca] at g132
                            try omega
                            all_goals
                              try simp only [zwr_rne, zwr_req, upd_ne, upd_eq, ne_eq, Nat.reduceEqDiff, not_false_eq_true, ca]
                              refine ⟨by first | assumption | exact vin (by omega) | exact vp_in_I.mpr (by omega), ?_⟩
                              refine zeq (fun g133 => ?_) (fun g133 => ?_)
                              · try simp only [zwr_rne, zwr_req, upd_ne, upd_eq, ne_eq, Nat.reduceEqDiff, not_false_eq_true, ca] at g133
                                try omega
                                all_goals
                                  try simp only [zwr_rne, zwr_req, upd_ne, upd_eq, ne_eq, Nat.reduceEqDiff, not_false_eq_true, ca]
                                  refine ⟨by first | assumption | exact vin (by omega) | exact vp_in_I.mpr (by omega), ?_⟩
                                  rintro _ rfl
                                  try simp only [zwr_rne, zwr_req, upd_ne, upd_eq, ne_eq, Nat.reduceEqDiff, not_false_eq_true, ca]
                                  refine m_orNone s14 ?_
                                  try simp only [zwr_rne, zwr_req, upd_ne, upd_eq, ne_eq, Nat.reduceEqDiff, not_false_eq_true, ca]
                                  refine ⟨s5, ?_⟩
                                  unfold Rall
                                  simp only [zwr_rne, zwr_req, upd_ne, upd_eq, ne_eq, Nat.reduceEqDiff, not_false_eq_true]
                                  subst gN
                                  exact ⟨⟨k1, k2, k3, k4, k5, k6, k7, k8, k9⟩, kas.setC enc_m1.symm (by decide) (by rw [tim1]; omega), kcl, kda, kdh, kpl, kkp, ksh, kwt, ktp, klw, ksd, Rwx_stale, Rwx_stale⟩
                              · try simp only [zwr_rne, zwr_req, upd_ne, upd_eq, ne_eq, Nat.reduceEqDiff, not_false_eq_true, ca] at g133
                                try omega
                                all_goals
                                  try simp only [zwr_rne, zwr_req, upd_ne, upd_eq, ne_eq, Nat.reduceEqDiff, not_false_eq_true, ca]
                                  refine ⟨by first | assumption | exact vin (by omega) | exact vp_in_I.mpr (by omega), ?_⟩
                                  rintro _ rfl
                                  try simp only [zwr_rne, zwr_req, upd_ne, upd_eq, ne_eq, Nat.reduceEqDiff, not_false_eq_true, ca]
                                  refine m_orNone s14 ?_
                                  try simp only [zwr_rne, zwr_req, upd_ne, upd_eq, ne_eq, Nat.reduceEqDiff, not_false_eq_true, ca]
                                  refine ⟨s5, ?_⟩
                                  unfold Rall
                                  simp only [zwr_rne, zwr_req, upd_ne, upd_eq, ne_eq, Nat.reduceEqDiff, not_false_eq_true]
                                  subst gN
                                  exact ⟨⟨k1, k2, k3, k4, k5, k6, k7, k8, k9⟩, kas.setC enc_m1.symm (by decide) (by rw [tim1]; omega), kcl, kda, kdh, kpl, kkp, ksh, kwt, ktp, klw, ksd, Rwx_stale, Rwx_stale⟩
                          · try simp only [zwr_rne, zwr_req, upd_ne, upd_eq, ne_eq, Nat.reduceEqDiff, not_false_eq_true, ca] at g132
                            try omega
                            all_goals
                              try simp only [zwr_rne, zwr_req, upd_ne, upd_eq, ne_eq, Nat.reduceEqDiff, not_false_eq_true, ca]
                              exact ⟨by first | rfl | trivial, hh⟩
                      · try simp only [zwr_rne, zwr_req, upd_ne, upd_eq, ne_eq, Nat.reduceEqDiff, not_false_eq_true, ca] at g131
                        try omega
                        all_goals
                          try simp only [zwr_rne, zwr_req, upd_ne, upd_eq, ne_eq, Nat.reduceEqDiff, not_false_eq_true, ca]
                          exact ⟨by first | rfl | trivial, hh⟩
              · try simp only [zwr_rne, zwr_req, upd_ne, upd_eq, ne_eq, Nat.reduceEqDiff, not_false_eq_true, ca] at g128
                try omega
                all_goals
                  try simp only [zwr_rne, zwr_req, upd_ne, upd_eq, ne_eq, Nat.reduceEqDiff, not_false_eq_true, ca]
                  refine m_isClaim (by first | omega | (simp only [zwr_rne, zwr_req, upd_ne, upd_eq, ne_eq, Nat.reduceEqDiff, not_false_eq_true, ca]; omega)) (fun g134 g134' => ?_) (fun g134 => ?_)
                  · try simp only [zwr_rne, zwr_req, upd_ne, upd_eq, ne_eq, Nat.reduceEqDiff, not_false_eq_true, ca] at g134
                    try simp only [zwr_rne, zwr_req, upd_ne, upd_eq, ne_eq, Nat.reduceEqDiff, not_false_eq_true, ca] at g134'
                    try omega
                    all_goals
                      try simp only [one_ne, zero_eq, if_false, if_true, or_true, true_or, or_false, false_or]
                      try simp only [zwr_rne, zwr_req, upd_ne, upd_eq, ne_eq, Nat.reduceEqDiff, not_false_eq_true, ca]
                      refine zeq (fun g135 => ?_) (fun g135 => ?_)
                      · try simp only [zwr_rne, zwr_req, upd_ne, upd_eq, ne_eq, Nat.reduceEqDiff, not_false_eq_true, ca] at g135
                        try omega
                        all_goals
                          try simp only [zwr_rne, zwr_req, upd_ne, upd_eq, ne_eq, Nat.reduceEqDiff, not_false_eq_true, ca]
                          refine ⟨by first | assumption | exact vin (by omega) | exact vp_in_I.mpr (by omega), ?_⟩
                          refine zeq (fun g136 => ?_) (fun g136 => ?_)
                          · try simp only [zwr_rne, zwr_req, upd_ne, upd_eq, ne_eq, Nat.reduceEqDiff, not_false_eq_true, ca] at g136
                            try omega
                            all_goals
                              try simp only [zwr_rne, zwr_req, upd_ne, upd_eq, ne_eq, Nat.reduceEqDiff, not_false_eq_true, ca]
                              refine ⟨by first | assumption | exact vin (by omega) | exact vp_in_I.mpr (by omega), ?_⟩
                              rintro _ rfl
                              try simp only [zwr_rne, zwr_req, upd_ne, upd_eq, ne_eq, Nat.reduceEqDiff, not_false_eq_true, ca]
                              refine m_orNone s14 ?_
                              try simp only [zwr_rne, zwr_req, upd_ne, upd_eq, ne_eq, Nat.reduceEqDiff, not_false_eq_true, ca]
                              refine ⟨s5, ?_⟩
                              unfold Rall
                              simp only [zwr_rne, zwr_req, upd_ne, upd_eq, ne_eq, Nat.reduceEqDiff, not_false_eq_true]
                              subst gN
                              exact ⟨⟨k1, k2, k3, k4, k5, k6, k7, k8, k9⟩, kas.setC enc_m1.symm (by decide) (by rw [tim1]; omega), kcl, kda, kdh, kpl, kkp, ksh, kwt, ktp, klw, ksd, Rwx_stale, Rwx_stale⟩
                          · try simp only [zwr_rne, zwr_req, upd_ne, upd_eq, ne_eq, Nat.reduceEqDiff, not_false_eq_true, ca] at g136
                            try omega
                            all_goals
                              try simp only [zwr_rne, zwr_req, upd_ne, upd_eq, ne_eq, Nat.reduceEqDiff, not_false_eq_true, ca]
                              refine ⟨by first | assumption | exact vin (by omega) | exact vp_in_I.mpr (by omega), ?_⟩
                              rintro _ rfl
                              try simp only [zwr_rne, zwr_req, upd_ne, upd_eq, ne_eq, Nat.reduceEqDiff, not_false_eq_true, ca]
                              refine m_orNone s14 ?_
                              try simp only [zwr_rne, zwr_req, upd_ne, upd_eq, ne_eq, Nat.reduceEqDiff, not_false_eq_true, ca]
                              refine ⟨s5, ?_⟩
                              unfold Rall
                              simp only [zwr_rne, zwr_req, upd_ne, upd_eq, ne_eq, Nat.reduceEqDiff, not_false_eq_true]
                              subst gN
                              exact ⟨⟨k1, k2, k3, k4, k5, k6, k7, k8, k9⟩, kas.setC enc_m1.symm (by decide) (by rw [tim1]; omega), kcl, kda, kdh, kpl, kkp, ksh, kwt, ktp, klw, ksd, Rwx_stale, Rwx_stale⟩
                      · try simp only [zwr_rne, zwr_req, upd_ne, upd_eq, ne_eq, Nat.reduceEqDiff, not_false_eq_true, ca] at g135
                        try omega
                        all_goals
                          try simp only [zwr_rne, zwr_req, upd_ne, upd_eq, ne_eq, Nat.reduceEqDiff, not_false_eq_true, ca]
                          refine ⟨by first | assumption | exact vin (by omega) | exact vp_in_I.mpr (by omega), ?_⟩
                          refine zeq (fun g137 => ?_) (fun g137 => ?_)
                          · try simp only [zwr_rne, zwr_req, upd_ne, upd_eq, ne_eq, Nat.reduceEqDiff, not_false_eq_true, ca] at g137
                            try omega
                            all_goals
                              try simp only [zwr_rne, zwr_req, upd_ne, upd_eq, ne_eq, Nat.reduceEqDiff, not_false_eq_true, ca]
                              refine ⟨by first | assumption | exact vin (by omega) | exact vp_in_I.mpr (by omega), ?_⟩
                              refine ⟨by first | assumption | exact vin (by omega) | exact vp_in_I.mpr (by omega), ?_⟩
                              refine zeq (fun g138 => ?_) (fun g138 => ?_)
                              · try simp only [zwr_rne, zwr_req, upd_ne, upd_eq, ne_eq, Nat.reduceEqDiff, not_false_eq_true, ca] at g138
                                try omega
                                all_goals
                                  try simp only [zwr_rne, zwr_req, upd_ne, upd_eq, ne_eq, Nat.reduceEqDiff, not_false_eq_true, ca]
                                  refine ⟨by first | assumption | exact vin (by omega) | exact vp_in_I.mpr (by omega), ?_⟩
                                  refine zeq (fun g139 => ?_) (fun g139 => ?_)
                                  · try simp only [zwr_rne, zwr_req, upd_ne, upd_eq, ne_eq, Nat.reduceEqDiff, not_false_eq_true, ca] at g139
                                    try omega
                                    all_goals
                                      try simp only [zwr_rne, zwr_req, upd_ne, upd_eq, ne_eq, Nat.reduceEqDiff, not_false_eq_true, ca]
                                      refine ⟨by first | assumption | exact vin (by omega) | exact vp_in_I.mpr (by omega), ?_⟩
                                      rintro _ rfl
                                      try simp only [zwr_rne, zwr_req, upd_ne, upd_eq, ne_eq, Nat.reduceEqDiff, not_false_eq_true, ca]
                                      refine m_orNone s14 ?_
                                      try simp only [zwr_rne, zwr_req, upd_ne, upd_eq, ne_eq, Nat.reduceEqDiff, not_false_eq_true, ca]
                                      refine ⟨s5, ?_⟩
                                      unfold Rall
                                      simp only [zwr_rne, zwr_req, upd_ne, upd_eq, ne_eq, Nat.reduceEqDiff, not_false_eq_true]
                                      subst gN
                                      exact ⟨⟨k1, k2, k3, k4, k5, k6, k7, k8, k9⟩, kas.setC enc_m1.symm (by decide) (by rw [tim1]; omega), kcl, kda, kdh, kpl, kkp, ksh, kwt, ktp, klw, ksd, Rwx_stale, Rwx_stale⟩
                                  · try simp only [zwr_rne, zwr_req, upd_ne, upd_eq, ne_eq, Nat.reduceEqDiff, not_false_eq_true, ca] at g139
                                    try omega
                                    all_goals
                                      try simp only [zwr_rne, zwr_req, upd_ne, upd_eq, ne_eq, Nat.reduceEqDiff, not_false_eq_true, ca]
                                      refine ⟨by first | assumption | exact vin (by omega) | exact vp_in_I.mpr (by omega), ?_⟩
                                      rintro _ rfl
                                      try simp only [zwr_rne, zwr_req, upd_ne, upd_eq, ne_eq, Nat.reduceEqDiff, not_false_eq_true, ca]
                                      refine m_orNone s14 ?_
                                      try simp only [zwr_rne, zwr_req, upd_ne, upd_eq, ne_eq, Nat.reduceEqDiff, not_false_eq_true, ca]
                                      refine ⟨s5, ?_⟩
                                      unfold Rall
                                      simp only [zwr_rne, zwr_req, upd_ne, upd_eq, ne_eq, Nat.reduceEqDiff, not_false_eq_true]
                                      subst gN
                                      exact ⟨⟨k1, k2, k3, k4, k5, k6, k7, k8, k9⟩, kas.setC enc_m1.symm (by decide) (by rw [tim1]; omega), kcl, kda, kdh, kpl, kkp, ksh, kwt, ktp, klw, ksd, Rwx_stale, Rwx_stale⟩
                              · try simp only [zwr_rne, zwr_req, upd_ne, upd_eq, ne_eq, Nat.reduceEqDiff, not_false_eq_true, ca] at g138
                                try omega
                                all_goals
                                  try simp only [zwr_rne, zwr_req, upd_ne, upd_eq, ne_eq, Nat.reduceEqDiff, not_false_eq_true, ca]
                                  exact ⟨by first | rfl | trivial, hh⟩
                          · try simp only [zwr_rne, zwr_req, upd_ne, upd_eq, ne_eq, Nat.reduceEqDiff, not_false_eq_true, ca] at g137
                            try omega
                            all_goals
                              try simp only [zwr_rne, zwr_req, upd_ne, upd_eq, ne_eq, Nat.reduceEqDiff, not_false_eq_true, ca]
                              exact ⟨by first | rfl | trivial, hh⟩
                  · try simp only [zwr_rne, zwr_req, upd_ne, upd_eq, ne_eq, Nat.reduceEqDiff, not_false_eq_true, ca] at g134
                    try omega
                    all_goals
                      try simp only [one_ne, zero_eq, if_false, if_true, or_true, true_or, or_false, false_or]
                      try simp only [zwr_rne, zwr_req, upd_ne, upd_eq, ne_eq, Nat.reduceEqDiff, not_false_eq_true, ca]
                      exact ⟨by first | rfl | trivial, hh⟩
          · try simp only [zwr_rne, zwr_req, upd_ne, upd_eq, ne_eq, Nat.reduceEqDiff, not_false_eq_true, ca] at g127
            try omega
            all_goals
              try simp only [one_ne, zero_eq, if_false, if_true, or_true, true_or, or_false, false_or]
              try simp only [zwr_rne, zwr_req, upd_ne, upd_eq, ne_eq, Nat.reduceEqDiff, not_false_eq_true, ca]
              exact ⟨by first | rfl | trivial, hh⟩
    rw [fa_eq, tiN] at gN
    rcases idx_of v2 (σ 72 8) with hb | ⟨c, rfl, hc, hc2⟩
    · refine en_X11_charge ?_
      try simp only [zwr_rne, zwr_req, upd_ne, upd_eq, ne_eq, Nat.reduceEqDiff, not_false_eq_true, ca]
      refine c_hasA (fun g1 g1' => ?_) (fun g1 => ?_)
      · try simp only [zwr_rne, zwr_req, upd_ne, upd_eq, ne_eq, Nat.reduceEqDiff, not_false_eq_true, ca] at g1
        try simp only [zwr_rne, zwr_req, upd_ne, upd_eq, ne_eq, Nat.reduceEqDiff, not_false_eq_true, ca] at g1'
        try omega
        all_goals
          try simp only [one_ne, zero_eq, if_false, if_true, or_true, true_or, or_false, false_or]
          refine zeq (fun g2 => ?_) (fun g2 => ?_)
          · try simp only [zwr_rne, zwr_req, upd_ne, upd_eq, ne_eq, Nat.reduceEqDiff, not_false_eq_true, ca] at g2
            try omega
            all_goals
              refine zeq (fun g3 => ?_) (fun g3 => ?_)
              · try simp only [zwr_rne, zwr_req, upd_ne, upd_eq, ne_eq, Nat.reduceEqDiff, not_false_eq_true, ca] at g3
                try omega
                all_goals
                  refine ⟨by first | assumption | exact vin (by omega) | exact vp_in_I.mpr (by omega), ?_⟩
                  refine ⟨by first | assumption | exact vin (by omega) | exact vp_in_I.mpr (by omega), ?_⟩
                  rintro _ rfl
                  try simp only [zwr_rne, zwr_req, upd_ne, upd_eq, ne_eq, Nat.reduceEqDiff, not_false_eq_true, ca]
                  refine c_changed ?_
                  try simp only [zwr_rne, zwr_req, upd_ne, upd_eq, ne_eq, Nat.reduceEqDiff, not_false_eq_true, ca]
                  refine en_X12_charge ?_
                  try simp only [zwr_rne, zwr_req, upd_ne, upd_eq, ne_eq, Nat.reduceEqDiff, not_false_eq_true, ca]
                  refine m_isAsset (by first | omega | (simp only [zwr_rne, zwr_req, upd_ne, upd_eq, ne_eq, Nat.reduceEqDiff, not_false_eq_true, ca]; omega)) (fun g4 g4' => ?_) (fun g4 => ?_)
                  · try simp only [zwr_rne, zwr_req, upd_ne, upd_eq, ne_eq, Nat.reduceEqDiff, not_false_eq_true, ca] at g4
                    try simp only [zwr_rne, zwr_req, upd_ne, upd_eq, ne_eq, Nat.reduceEqDiff, not_false_eq_true, ca] at g4'
                    try omega
                    all_goals
                      try simp only [one_ne, zero_eq, if_false, if_true, or_true, true_or, or_false, false_or]
                      try simp only [zwr_rne, zwr_req, upd_ne, upd_eq, ne_eq, Nat.reduceEqDiff, not_false_eq_true, ca]
                      refine zeq (fun g5 => ?_) (fun g5 => ?_)
                      · try simp only [zwr_rne, zwr_req, upd_ne, upd_eq, ne_eq, Nat.reduceEqDiff, not_false_eq_true, ca] at g5
                        try omega
                        all_goals
                          try simp only [zwr_rne, zwr_req, upd_ne, upd_eq, ne_eq, Nat.reduceEqDiff, not_false_eq_true, ca]
                          refine zeq (fun g6 => ?_) (fun g6 => ?_)
                          · try simp only [zwr_rne, zwr_req, upd_ne, upd_eq, ne_eq, Nat.reduceEqDiff, not_false_eq_true, ca] at g6
                            try omega
                            all_goals
                              try simp only [zwr_rne, zwr_req, upd_ne, upd_eq, ne_eq, Nat.reduceEqDiff, not_false_eq_true, ca]
                              refine ⟨by first | assumption | exact vin (by omega) | exact vp_in_I.mpr (by omega), ?_⟩
                              refine zeq (fun g7 => ?_) (fun g7 => ?_)
                              · try simp only [zwr_rne, zwr_req, upd_ne, upd_eq, ne_eq, Nat.reduceEqDiff, not_false_eq_true, ca] at g7
                                try omega
                                all_goals
                                  try simp only [zwr_rne, zwr_req, upd_ne, upd_eq, ne_eq, Nat.reduceEqDiff, not_false_eq_true, ca]
                                  refine ⟨by first | assumption | exact vin (by omega) | exact vp_in_I.mpr (by omega), ?_⟩
                                  rintro _ rfl
                                  try simp only [zwr_rne, zwr_req, upd_ne, upd_eq, ne_eq, Nat.reduceEqDiff, not_false_eq_true, ca]
                                  refine m_orNone s14 ?_
                                  try simp only [zwr_rne, zwr_req, upd_ne, upd_eq, ne_eq, Nat.reduceEqDiff, not_false_eq_true, ca]
                                  exact ⟨by first | rfl | trivial, hh⟩
                              · try simp only [zwr_rne, zwr_req, upd_ne, upd_eq, ne_eq, Nat.reduceEqDiff, not_false_eq_true, ca] at g7
                                try omega
                                all_goals
                                  try simp only [zwr_rne, zwr_req, upd_ne, upd_eq, ne_eq, Nat.reduceEqDiff, not_false_eq_true, ca]
                                  refine ⟨by first | assumption | exact vin (by omega) | exact vp_in_I.mpr (by omega), ?_⟩
                                  rintro _ rfl
                                  try simp only [zwr_rne, zwr_req, upd_ne, upd_eq, ne_eq, Nat.reduceEqDiff, not_false_eq_true, ca]
                                  refine m_orNone s14 ?_
                                  try simp only [zwr_rne, zwr_req, upd_ne, upd_eq, ne_eq, Nat.reduceEqDiff, not_false_eq_true, ca]
                                  exact ⟨by first | rfl | trivial, hh⟩
                          · try simp only [zwr_rne, zwr_req, upd_ne, upd_eq, ne_eq, Nat.reduceEqDiff, not_false_eq_true, ca] at g6
                            try omega
                            all_goals
                              try simp only [zwr_rne, zwr_req, upd_ne, upd_eq, ne_eq, Nat.reduceEqDiff, not_false_eq_true, ca]
                              refine ⟨by first | assumption | exact vin (by omega) | exact vp_in_I.mpr (by omega), ?_⟩
                              refine zeq (fun g8 => ?_) (fun g8 => ?_)
                              · try simp only [zwr_rne, zwr_req, upd_ne, upd_eq, ne_eq, Nat.reduceEqDiff, not_false_eq_true, ca] at g8
                                try omega
                                all_goals
                                  try simp only [zwr_rne, zwr_req, upd_ne, upd_eq, ne_eq, Nat.reduceEqDiff, not_false_eq_true, ca]
                                  refine ⟨by first | assumption | exact vin (by omega) | exact vp_in_I.mpr (by omega), ?_⟩
                                  refine ⟨by first | assumption | exact vin (by omega) | exact vp_in_I.mpr (by omega), ?_⟩
                                  refine zeq (fun g9 => ?_) (fun g9 => ?_)
                                  · try simp only [zwr_rne, zwr_req, upd_ne, upd_eq, ne_eq, Nat.reduceEqDiff, not_false_eq_true, ca] at g9
                                    try omega
                                    all_goals
                                      try simp only [zwr_rne, zwr_req, upd_ne, upd_eq, ne_eq, Nat.reduceEqDiff, not_false_eq_true, ca]
                                      refine ⟨by first | assumption | exact vin (by omega) | exact vp_in_I.mpr (by omega), ?_⟩
                                      refine zeq (fun g10 => ?_) (fun g10 => ?_)
                                      · try simp only [zwr_rne, zwr_req, upd_ne, upd_eq, ne_eq, Nat.reduceEqDiff, not_false_eq_true, ca] at g10
                                        try omega
                                        all_goals
                                          try simp only [zwr_rne, zwr_req, upd_ne, upd_eq, ne_eq, Nat.reduceEqDiff, not_false_eq_true, ca]
                                          refine ⟨by first | assumption | exact vin (by omega) | exact vp_in_I.mpr (by omega), ?_⟩
                                          rintro _ rfl
                                          try simp only [zwr_rne, zwr_req, upd_ne, upd_eq, ne_eq, Nat.reduceEqDiff, not_false_eq_true, ca]
                                          refine m_orNone s14 ?_
                                          try simp only [zwr_rne, zwr_req, upd_ne, upd_eq, ne_eq, Nat.reduceEqDiff, not_false_eq_true, ca]
                                          exact ⟨by first | rfl | trivial, hh⟩
                                      · try simp only [zwr_rne, zwr_req, upd_ne, upd_eq, ne_eq, Nat.reduceEqDiff, not_false_eq_true, ca] at g10
                                        try omega
                                        all_goals
                                          try simp only [zwr_rne, zwr_req, upd_ne, upd_eq, ne_eq, Nat.reduceEqDiff, not_false_eq_true, ca]
                                          refine ⟨by first | assumption | exact vin (by omega) | exact vp_in_I.mpr (by omega), ?_⟩
                                          rintro _ rfl
                                          try simp only [zwr_rne, zwr_req, upd_ne, upd_eq, ne_eq, Nat.reduceEqDiff, not_false_eq_true, ca]
                                          refine m_orNone s14 ?_
                                          try simp only [zwr_rne, zwr_req, upd_ne, upd_eq, ne_eq, Nat.reduceEqDiff, not_false_eq_true, ca]
                                          exact ⟨by first | rfl | trivial, hh⟩
                                  · try simp only [zwr_rne, zwr_req, upd_ne, upd_eq, ne_eq, Nat.reduceEqDiff, not_false_eq_true, ca] at g9
                                    try omega
                                    all_goals
                                      try simp only [zwr_rne, zwr_req, upd_ne, upd_eq, ne_eq, Nat.reduceEqDiff, not_false_eq_true, ca]
                                      exact ⟨by first | rfl | trivial, hh⟩
                              · try simp only [zwr_rne, zwr_req, upd_ne, upd_eq, ne_eq, Nat.reduceEqDiff, not_false_eq_true, ca] at g8
                                try omega
                                all_goals
                                  try simp only [zwr_rne, zwr_req, upd_ne, upd_eq, ne_eq, Nat.reduceEqDiff, not_false_eq_true, ca]
                                  exact ⟨by first | rfl | trivial, hh⟩
                      · try simp only [zwr_rne, zwr_req, upd_ne, upd_eq, ne_eq, Nat.reduceEqDiff, not_false_eq_true, ca] at g5
                        try omega
                        all_goals
                          try simp only [zwr_rne, zwr_req, upd_ne, upd_eq, ne_eq, Nat.reduceEqDiff, not_false_eq_true, ca]
                          refine m_isClaim (by first | omega | (simp only [zwr_rne, zwr_req, upd_ne, upd_eq, ne_eq, Nat.reduceEqDiff, not_false_eq_true, ca]; omega)) (fun g11 g11' => ?_) (fun g11 => ?_)
                          · try simp only [zwr_rne, zwr_req, upd_ne, upd_eq, ne_eq, Nat.reduceEqDiff, not_false_eq_true, ca] at g11
                            try simp only [zwr_rne, zwr_req, upd_ne, upd_eq, ne_eq, Nat.reduceEqDiff, not_false_eq_true, ca] at g11'
                            try omega
                            all_goals
                              try simp only [one_ne, zero_eq, if_false, if_true, or_true, true_or, or_false, false_or]
                              try simp only [zwr_rne, zwr_req, upd_ne, upd_eq, ne_eq, Nat.reduceEqDiff, not_false_eq_true, ca]
                              refine zeq (fun g12 => ?_) (fun g12 => ?_)
                              · try simp only [zwr_rne, zwr_req, upd_ne, upd_eq, ne_eq, Nat.reduceEqDiff, not_false_eq_true, ca] at g12
                                try omega
                                all_goals
                                  try simp only [zwr_rne, zwr_req, upd_ne, upd_eq, ne_eq, Nat.reduceEqDiff, not_false_eq_true, ca]
                                  refine ⟨by first | assumption | exact vin (by omega) | exact vp_in_I.mpr (by omega), ?_⟩
                                  refine zeq (fun g13 => ?_) (fun g13 => ?_)
                                  · try simp only [zwr_rne, zwr_req, upd_ne, upd_eq, ne_eq, Nat.reduceEqDiff, not_false_eq_true, ca] at g13
                                    try omega
                                    all_goals
                                      try simp only [zwr_rne, zwr_req, upd_ne, upd_eq, ne_eq, Nat.reduceEqDiff, not_false_eq_true, ca]
                                      refine ⟨by first | assumption | exact vin (by omega) | exact vp_in_I.mpr (by omega), ?_⟩
                                      rintro _ rfl
                                      try simp only [zwr_rne, zwr_req, upd_ne, upd_eq, ne_eq, Nat.reduceEqDiff, not_false_eq_true, ca]
                                      refine m_orNone s14 ?_
                                      try simp only [zwr_rne, zwr_req, upd_ne, upd_eq, ne_eq, Nat.reduceEqDiff, not_false_eq_true, ca]
                                      exact ⟨by first | rfl | trivial, hh⟩
                                  · try simp only [zwr_rne, zwr_req, upd_ne, upd_eq, ne_eq, Nat.reduceEqDiff, not_false_eq_true, ca] at g13
                                    try omega
                                    all_goals
                                      try simp only [zwr_rne, zwr_req, upd_ne, upd_eq, ne_eq, Nat.reduceEqDiff, not_false_eq_true, ca]
                                      refine ⟨by first | assumption | exact vin (by omega) | exact vp_in_I.mpr (by omega), ?_⟩
                                      rintro _ rfl
                                      try simp only [zwr_rne, zwr_req, upd_ne, upd_eq, ne_eq, Nat.reduceEqDiff, not_false_eq_true, ca]
                                      refine m_orNone s14 ?_
                                      try simp only [zwr_rne, zwr_req, upd_ne, upd_eq, ne_eq, Nat.reduceEqDiff, not_false_eq_true, ca]
                                      exact ⟨by first | rfl | trivial, hh⟩
                              · try simp only [zwr_rne, zwr_req, upd_ne, upd_eq, ne_eq, Nat.reduceEqDiff, not_false_eq_true, ca] at g12
                                try omega
                                all_goals
                                  try simp only [zwr_rne, zwr_req, upd_ne, upd_eq, ne_eq, Nat.reduceEqDiff, not_false_eq_true, ca]
                                  refine ⟨by first | assumption | exact vin (by omega) | exact vp_in_I.mpr (by omega), ?_⟩
                                  refine zeq (fun g14 => ?_) (fun g14 => ?_)
                                  · try simp only [zwr_rne, zwr_req, upd_ne, upd_eq, ne_eq, Nat.reduceEqDiff, not_false_eq_true, ca] at g14
                                    try omega
                                    all_goals
                                      try simp only [zwr_rne, zwr_req, upd_ne, upd_eq, ne_eq, Nat.reduceEqDiff, not_false_eq_true, ca]
                                      refine ⟨by first | assumption | exact vin (by omega) | exact vp_in_I.mpr (by omega), ?_⟩
                                      refine ⟨by first | assumption | exact vin (by omega) | exact vp_in_I.mpr (by omega), ?_⟩
                                      refine zeq (fun g15 => ?_) (fun g15 => ?_)
                                      · try simp only [zwr_rne, zwr_req, upd_ne, upd_eq, ne_eq, Nat.reduceEqDiff, not_false_eq_true, ca] at g15
                                        try omega
                                        all_goals
                                          try simp only [zwr_rne, zwr_req, upd_ne, upd_eq, ne_eq, Nat.reduceEqDiff, not_false_eq_true, ca]
                                          refine ⟨by first | assumption | exact vin (by omega) | exact vp_in_I.mpr (by omega), ?_⟩
                                          refine zeq (fun g16 => ?_) (fun g16 => ?_)
                                          · try simp only [zwr_rne, zwr_req, upd_ne, upd_eq, ne_eq, Nat.reduceEqDiff, not_false_eq_true, ca] at g16
                                            try omega
                                            all_goals
                                              try simp only [zwr_rne, zwr_req, upd_ne, upd_eq, ne_eq, Nat.reduceEqDiff, not_false_eq_true, ca]
                                              refine ⟨by first | assumption | exact vin (by omega) | exact vp_in_I.mpr (by omega), ?_⟩
                                              rintro _ rfl
                                              try simp only [zwr_rne, zwr_req, upd_ne, upd_eq, ne_eq, Nat.reduceEqDiff, not_false_eq_true, ca]
                                              refine m_orNone s14 ?_
                                              try simp only [zwr_rne, zwr_req, upd_ne, upd_eq, ne_eq, Nat.reduceEqDiff, not_false_eq_true, ca]
                                              exact ⟨by first | rfl | trivial, hh⟩
                                          · try simp only [zwr_rne, zwr_req, upd_ne, upd_eq, ne_eq, Nat.reduceEqDiff, not_false_eq_true, ca] at g16
                                            try omega
                                            all_goals
                                              try simp only [zwr_rne, zwr_req, upd_ne, upd_eq, ne_eq, Nat.reduceEqDiff, not_false_eq_true, ca]
                                              refine ⟨by first | assumption | exact vin (by omega) | exact vp_in_I.mpr (by omega), ?_⟩
                                              rintro _ rfl
                                              try simp only [zwr_rne, zwr_req, upd_ne, upd_eq, ne_eq, Nat.reduceEqDiff, not_false_eq_true, ca]
                                              refine m_orNone s14 ?_
                                              try simp only [zwr_rne, zwr_req, upd_ne, upd_eq, ne_eq, Nat.reduceEqDiff, not_false_eq_true, ca]
                                              exact ⟨by first | rfl | trivial, hh⟩
                                      · try simp only [zwr_rne, zwr_req, upd_ne, upd_eq, ne_eq, Nat.reduceEqDiff, not_false_eq_true, ca] at g15
                                        try omega
                                        all_goals
                                          try simp only [zwr_rne, zwr_req, upd_ne, upd_eq, ne_eq, Nat.reduceEqDiff, not_false_eq_true, ca]
                                          exact ⟨by first | rfl | trivial, hh⟩
                                  · try simp only [zwr_rne, zwr_req, upd_ne, upd_eq, ne_eq, Nat.reduceEqDiff, not_false_eq_true, ca] at g14
                                    try omega
                                    all_goals
                                      try simp only [zwr_rne, zwr_req, upd_ne, upd_eq, ne_eq, Nat.reduceEqDiff, not_false_eq_true, ca]
                                      exact ⟨by first | rfl | trivial, hh⟩
                          · try simp only [zwr_rne, zwr_req, upd_ne, upd_eq, ne_eq, Nat.reduceEqDiff, not_false_eq_true, ca] at g11
                            try omega
                            all_goals
                              try simp only [one_ne, zero_eq, if_false, if_true, or_true, true_or, or_false, false_or]
                              try simp only [zwr_rne, zwr_req, upd_ne, upd_eq, ne_eq, Nat.reduceEqDiff, not_false_eq_true, ca]
                              exact ⟨by first | rfl | trivial, hh⟩
                  · try simp only [zwr_rne, zwr_req, upd_ne, upd_eq, ne_eq, Nat.reduceEqDiff, not_false_eq_true, ca] at g4
                    try omega
                    all_goals
                      try simp only [one_ne, zero_eq, if_false, if_true, or_true, true_or, or_false, false_or]
                      try simp only [zwr_rne, zwr_req, upd_ne, upd_eq, ne_eq, Nat.reduceEqDiff, not_false_eq_true, ca]
                      exact ⟨by first | rfl | trivial, hh⟩
              · try simp only [zwr_rne, zwr_req, upd_ne, upd_eq, ne_eq, Nat.reduceEqDiff, not_false_eq_true, ca] at g3
                try omega
                all_goals
                  refine ⟨by first | assumption | exact vin (by omega) | exact vp_in_I.mpr (by omega), ?_⟩
                  refine zeq (fun g17 => ?_) (fun g17 => ?_)
                  · try simp only [zwr_rne, zwr_req, upd_ne, upd_eq, ne_eq, Nat.reduceEqDiff, not_false_eq_true, ca] at g17
                    try omega
                    all_goals
                      refine ⟨by first | assumption | exact vin (by omega) | exact vp_in_I.mpr (by omega), ?_⟩
                      refine ⟨by first | assumption | exact vin (by omega) | exact vp_in_I.mpr (by omega), ?_⟩
                      refine zeq (fun g18 => ?_) (fun g18 => ?_)
                      · try simp only [zwr_rne, zwr_req, upd_ne, upd_eq, ne_eq, Nat.reduceEqDiff, not_false_eq_true, ca] at g18
                        try omega
                        all_goals
                          refine ⟨by first | assumption | exact vin (by omega) | exact vp_in_I.mpr (by omega), ?_⟩
                          refine ⟨by first | assumption | exact vin (by omega) | exact vp_in_I.mpr (by omega), ?_⟩
                          rintro _ rfl
                          try simp only [zwr_rne, zwr_req, upd_ne, upd_eq, ne_eq, Nat.reduceEqDiff, not_false_eq_true, ca]
                          refine c_changed ?_
                          try simp only [zwr_rne, zwr_req, upd_ne, upd_eq, ne_eq, Nat.reduceEqDiff, not_false_eq_true, ca]
                          refine en_X12_charge ?_
                          try simp only [zwr_rne, zwr_req, upd_ne, upd_eq, ne_eq, Nat.reduceEqDiff, not_false_eq_true, ca]
                          refine m_isAsset (by first | omega | (simp only [zwr_rne, zwr_req, upd_ne, upd_eq, ne_eq, Nat.reduceEqDiff, not_false_eq_true, ca]; omega)) (fun g19 g19' => ?_) (fun g19 => ?_)
                          · try simp only [zwr_rne, zwr_req, upd_ne, upd_eq, ne_eq, Nat.reduceEqDiff, not_false_eq_true, ca] at g19
                            try simp only [zwr_rne, zwr_req, upd_ne, upd_eq, ne_eq, Nat.reduceEqDiff, not_false_eq_true, ca] at g19'
                            try omega
                            all_goals
                              try simp only [one_ne, zero_eq, if_false, if_true, or_true, true_or, or_false, false_or]
                              try simp only [zwr_rne, zwr_req, upd_ne, upd_eq, ne_eq, Nat.reduceEqDiff, not_false_eq_true, ca]
                              refine zeq (fun g20 => ?_) (fun g20 => ?_)
                              · try simp only [zwr_rne, zwr_req, upd_ne, upd_eq, ne_eq, Nat.reduceEqDiff, not_false_eq_true, ca] at g20
                                try omega
                                all_goals
                                  try simp only [zwr_rne, zwr_req, upd_ne, upd_eq, ne_eq, Nat.reduceEqDiff, not_false_eq_true, ca]
                                  refine zeq (fun g21 => ?_) (fun g21 => ?_)
                                  · try simp only [zwr_rne, zwr_req, upd_ne, upd_eq, ne_eq, Nat.reduceEqDiff, not_false_eq_true, ca] at g21
                                    try omega
                                    all_goals
                                      try simp only [zwr_rne, zwr_req, upd_ne, upd_eq, ne_eq, Nat.reduceEqDiff, not_false_eq_true, ca]
                                      refine ⟨by first | assumption | exact vin (by omega) | exact vp_in_I.mpr (by omega), ?_⟩
                                      refine zeq (fun g22 => ?_) (fun g22 => ?_)
                                      · try simp only [zwr_rne, zwr_req, upd_ne, upd_eq, ne_eq, Nat.reduceEqDiff, not_false_eq_true, ca] at g22
                                        try omega
                                        all_goals
                                          try simp only [zwr_rne, zwr_req, upd_ne, upd_eq, ne_eq, Nat.reduceEqDiff, not_false_eq_true, ca]
                                          refine ⟨by first | assumption | exact vin (by omega) | exact vp_in_I.mpr (by omega), ?_⟩
                                          rintro _ rfl
                                          try simp only [zwr_rne, zwr_req, upd_ne, upd_eq, ne_eq, Nat.reduceEqDiff, not_false_eq_true, ca]
                                          refine m_orNone s14 ?_
                                          try simp only [zwr_rne, zwr_req, upd_ne, upd_eq, ne_eq, Nat.reduceEqDiff, not_false_eq_true, ca]
                                          exact ⟨by first | rfl | trivial, hh⟩
                                      · try simp only [zwr_rne, zwr_req, upd_ne, upd_eq, ne_eq, Nat.reduceEqDiff, not_false_eq_true, ca] at g22
                                        try omega
                                        all_goals
                                          try simp only [zwr_rne, zwr_req, upd_ne, upd_eq, ne_eq, Nat.reduceEqDiff, not_false_eq_true, ca]
                                          refine ⟨by first | assumption | exact vin (by omega) | exact vp_in_I.mpr (by omega), ?_⟩
                                          rintro _ rfl
                                          try simp only [zwr_rne, zwr_req, upd_ne, upd_eq, ne_eq, Nat.reduceEqDiff, not_false_eq_true, ca]
                                          refine m_orNone s14 ?_
                                          try simp only [zwr_rne, zwr_req, upd_ne, upd_eq, ne_eq, Nat.reduceEqDiff, not_false_eq_true, ca]
                                          exact ⟨by first | rfl | trivial, hh⟩
                                  · try simp only [zwr_rne, zwr_req, upd_ne, upd_eq, ne_eq, Nat.reduceEqDiff, not_false_eq_true, ca] at g21
                                    try omega
                                    all_goals
                                      try simp only [zwr_rne, zwr_req, upd_ne, upd_eq, ne_eq, Nat.reduceEqDiff, not_false_eq_true, ca]
                                      refine ⟨by first | assumption | exact vin (by omega) | exact vp_in_I.mpr (by omega), ?_⟩
                                      refine zeq (fun g23 => ?_) (fun g23 => ?_)
                                      · try simp only [zwr_rne, zwr_req, upd_ne, upd_eq, ne_eq, Nat.reduceEqDiff, not_false_eq_true, ca] at g23
                                        try omega
                                        all_goals
                                          try simp only [zwr_rne, zwr_req, upd_ne, upd_eq, ne_eq, Nat.reduceEqDiff, not_false_eq_true, ca]
                                          refine ⟨by first | assumption | exact vin (by omega) | exact vp_in_I.mpr (by omega), ?_⟩
                                          refine ⟨by first | assumption | exact vin (by omega) | exact vp_in_I.mpr (by omega), ?_⟩
                                          refine zeq (fun g24 => ?_) (fun g24 => ?_)
                                          · try simp only [zwr_rne, zwr_req, upd_ne, upd_eq, ne_eq, Nat.reduceEqDiff, not_false_eq_true, ca] at g24
                                            try omega
                                            all_goals
                                              try simp only [zwr_rne, zwr_req, upd_ne, upd_eq, ne_eq, Nat.reduceEqDiff, not_false_eq_true, ca]
                                              refine ⟨by first | assumption | exact vin (by omega) | exact vp_in_I.mpr (by omega), ?_⟩
                                              refine zeq (fun g25 => ?_) (fun g25 => ?_)
                                              · try simp only [zwr_rne, zwr_req, upd_ne, upd_eq, ne_eq, Nat.reduceEqDiff, not_false_eq_true, ca] at g25
                                                try omega
                                                all_goals
                                                  try simp only [zwr_rne, zwr_req, upd_ne, upd_eq, ne_eq, Nat.reduceEqDiff, not_false_eq_true, ca]
                                                  refine ⟨by first | assumption | exact vin (by omega) | exact vp_in_I.mpr (by omega), ?_⟩
                                                  rintro _ rfl
                                                  try simp only [zwr_rne, zwr_req, upd_ne, upd_eq, ne_eq, Nat.reduceEqDiff, not_false_eq_true, ca]
                                                  refine m_orNone s14 ?_
                                                  try simp only [zwr_rne, zwr_req, upd_ne, upd_eq, ne_eq, Nat.reduceEqDiff, not_false_eq_true, ca]
                                                  exact ⟨by first | rfl | trivial, hh⟩
                                              · try simp only [zwr_rne, zwr_req, upd_ne, upd_eq, ne_eq, Nat.reduceEqDiff, not_false_eq_true, ca] at g25
                                                try omega
                                                all_goals
                                                  try simp only [zwr_rne, zwr_req, upd_ne, upd_eq, ne_eq, Nat.reduceEqDiff, not_false_eq_true, ca]
                                                  refine ⟨by first | assumption | exact vin (by omega) | exact vp_in_I.mpr (by omega), ?_⟩
                                                  rintro _ rfl
                                                  try simp only [zwr_rne, zwr_req, upd_ne, upd_eq, ne_eq, Nat.reduceEqDiff, not_false_eq_true, ca]
                                                  refine m_orNone s14 ?_
                                                  try simp only [zwr_rne, zwr_req, upd_ne, upd_eq, ne_eq, Nat.reduceEqDiff, not_false_eq_true, ca]
                                                  exact ⟨by first | rfl | trivial, hh⟩
                                          · try simp only [zwr_rne, zwr_req, upd_ne, upd_eq, ne_eq, Nat.reduceEqDiff, not_false_eq_true, ca] at g24
                                            try omega
                                            all_goals
                                              try simp only [zwr_rne, zwr_req, upd_ne, upd_eq, ne_eq, Nat.reduceEqDiff, not_false_eq_true, ca]
                                              exact ⟨by first | rfl | trivial, hh⟩
                                      · try simp only [zwr_rne, zwr_req, upd_ne, upd_eq, ne_eq, Nat.reduceEqDiff, not_false_eq_true, ca] at g23
                                        try omega
                                        all_goals
                                          try simp only [zwr_rne, zwr_req, upd_ne, upd_eq, ne_eq, Nat.reduceEqDiff, not_false_eq_true, ca]
                                          exact ⟨by first | rfl | trivial, hh⟩
                              · try simp only [zwr_rne, zwr_req, upd_ne, upd_eq, ne_eq, Nat.reduceEqDiff, not_false_eq_true, ca] at g20
                                try omega
                                all_goals
                                  try simp only [zwr_rne, zwr_req, upd_ne, upd_eq, ne_eq, Nat.reduceEqDiff, not_false_eq_true, ca]
                                  refine m_isClaim (by first | omega | (simp only [zwr_rne, zwr_req, upd_ne, upd_eq, ne_eq, Nat.reduceEqDiff, not_false_eq_true, ca]; omega)) (fun g26 g26' => ?_) (fun g26 => ?_)
                                  · try simp only [zwr_rne, zwr_req, upd_ne, upd_eq, ne_eq, Nat.reduceEqDiff, not_false_eq_true, ca] at g26
                                    try simp only [zwr_rne, zwr_req, upd_ne, upd_eq, ne_eq, Nat.reduceEqDiff, not_false_eq_true, ca] at g26'
                                    try omega
                                    all_goals
                                      try simp only [one_ne, zero_eq, if_false, if_true, or_true, true_or, or_false, false_or]
                                      try simp only [zwr_rne, zwr_req, upd_ne, upd_eq, ne_eq, Nat.reduceEqDiff, not_false_eq_true, ca]
                                      refine zeq (fun g27 => ?_) (fun g27 => ?_)
                                      · try simp only [zwr_rne, zwr_req, upd_ne, upd_eq, ne_eq, Nat.reduceEqDiff, not_false_eq_true, ca] at g27
                                        try omega
                                        all_goals
                                          try simp only [zwr_rne, zwr_req, upd_ne, upd_eq, ne_eq, Nat.reduceEqDiff, not_false_eq_true, ca]
                                          refine ⟨by first | assumption | exact vin (by omega) | exact vp_in_I.mpr (by omega), ?_⟩
                                          refine zeq (fun g28 => ?_) (fun g28 => ?_)
                                          · try simp only [zwr_rne, zwr_req, upd_ne, upd_eq, ne_eq, Nat.reduceEqDiff, not_false_eq_true, ca] at g28
                                            try omega
                                            all_goals
                                              try simp only [zwr_rne, zwr_req, upd_ne, upd_eq, ne_eq, Nat.reduceEqDiff, not_false_eq_true, ca]
                                              refine ⟨by first | assumption | exact vin (by omega) | exact vp_in_I.mpr (by omega), ?_⟩
                                              rintro _ rfl
                                              try simp only [zwr_rne, zwr_req, upd_ne, upd_eq, ne_eq, Nat.reduceEqDiff, not_false_eq_true, ca]
                                              refine m_orNone s14 ?_
                                              try simp only [zwr_rne, zwr_req, upd_ne, upd_eq, ne_eq, Nat.reduceEqDiff, not_false_eq_true, ca]
                                              exact ⟨by first | rfl | trivial, hh⟩
                                          · try simp only [zwr_rne, zwr_req, upd_ne, upd_eq, ne_eq, Nat.reduceEqDiff, not_false_eq_true, ca] at g28
                                            try omega
                                            all_goals
                                              try simp only [zwr_rne, zwr_req, upd_ne, upd_eq, ne_eq, Nat.reduceEqDiff, not_false_eq_true, ca]
                                              refine ⟨by first | assumption | exact vin (by omega) | exact vp_in_I.mpr (by omega), ?_⟩
                                              rintro _ rfl
                                              try simp only [zwr_rne, zwr_req, upd_ne, upd_eq, ne_eq, Nat.reduceEqDiff, not_false_eq_true, ca]
                                              refine m_orNone s14 ?_
                                              try simp only [zwr_rne, zwr_req, upd_ne, upd_eq, ne_eq, Nat.reduceEqDiff, not_false_eq_true, ca]
                                              exact ⟨by first | rfl | trivial, hh⟩
                                      · try simp only [zwr_rne, zwr_req, upd_ne, upd_eq, ne_eq, Nat.reduceEqDiff, not_false_eq_true, ca] at g27
                                        try omega
                                        all_goals
                                          try simp only [zwr_rne, zwr_req, upd_ne, upd_eq, ne_eq, Nat.reduceEqDiff, not_false_eq_true, ca]
                                          refine ⟨by first | assumption | exact vin (by omega) | exact vp_in_I.mpr (by omega), ?_⟩
                                          refine zeq (fun g29 => ?_) (fun g29 => ?_)
                                          · try simp only [zwr_rne, zwr_req, upd_ne, upd_eq, ne_eq, Nat.reduceEqDiff, not_false_eq_true, ca] at g29
                                            try omega
                                            all_goals
                                              try simp only [zwr_rne, zwr_req, upd_ne, upd_eq, ne_eq, Nat.reduceEqDiff, not_false_eq_true, ca]
                                              refine ⟨by first | assumption | exact vin (by omega) | exact vp_in_I.mpr (by omega), ?_⟩
                                              refine ⟨by first | assumption | exact vin (by omega) | exact vp_in_I.mpr (by omega), ?_⟩
                                              refine zeq (fun g30 => ?_) (fun g30 => ?_)
                                              · try simp only [zwr_rne, zwr_req, upd_ne, upd_eq, ne_eq, Nat.reduceEqDiff, not_false_eq_true, ca] at g30
                                                try omega
                                                all_goals
                                                  try simp only [zwr_rne, zwr_req, upd_ne, upd_eq, ne_eq, Nat.reduceEqDiff, not_false_eq_true, ca]
                                                  refine ⟨by first | assumption | exact vin (by omega) | exact vp_in_I.mpr (by omega), ?_⟩
                                                  refine zeq (fun g31 => ?_) (fun g31 => ?_)
                                                  · try simp only [zwr_rne, zwr_req, upd_ne, upd_eq, ne_eq, Nat.reduceEqDiff, not_false_eq_true, ca] at g31
                                                    try omega
                                                    all_goals
                                                      try simp only [zwr_rne, zwr_req, upd_ne, upd_eq, ne_eq, Nat.reduceEqDiff, not_false_eq_true, ca]
                                                      refine ⟨by first | assumption | exact vin (by omega) | exact vp_in_I.mpr (by omega), ?_⟩
                                                      rintro _ rfl
                                                      try simp only [zwr_rne, zwr_req, upd_ne, upd_eq, ne_eq, Nat.reduceEqDiff, not_false_eq_true, ca]
                                                      refine m_orNone s14 ?_
                                                      try simp only [zwr_rne, zwr_req, upd_ne, upd_eq, ne_eq, Nat.reduceEqDiff, not_false_eq_true, ca]
                                                      exact ⟨by first | rfl | trivial, hh⟩
                                                  · try simp only [zwr_rne, zwr_req, upd_ne, upd_eq, ne_eq, Nat.reduceEqDiff, not_false_eq_true, ca] at g31
                                                    try omega
                                                    all_goals
                                                      try simp only [zwr_rne, zwr_req, upd_ne, upd_eq, ne_eq, Nat.reduceEqDiff, not_false_eq_true, ca]
                                                      refine ⟨by first | assumption | exact vin (by omega) | exact vp_in_I.mpr (by omega), ?_⟩
                                                      rintro _ rfl
                                                      try simp only [zwr_rne, zwr_req, upd_ne, upd_eq, ne_eq, Nat.reduceEqDiff, not_false_eq_true, ca]
                                                      refine m_orNone s14 ?_
                                                      try simp only [zwr_rne, zwr_req, upd_ne, upd_eq, ne_eq, Nat.reduceEqDiff, not_false_eq_true, ca]
                                                      exact ⟨by first | rfl | trivial, hh⟩
                                              · try simp only [zwr_rne, zwr_req, upd_ne, upd_eq, ne_eq, Nat.reduceEqDiff, not_false_eq_true, ca] at g30
                                                try omega
                                                all_goals
                                                  try simp only [zwr_rne, zwr_req, upd_ne, upd_eq, ne_eq, Nat.reduceEqDiff, not_false_eq_true, ca]
                                                  exact ⟨by first | rfl | trivial, hh⟩
                                          · try simp only [zwr_rne, zwr_req, upd_ne, upd_eq, ne_eq, Nat.reduceEqDiff, not_false_eq_true, ca] at g29
                                            try omega
                                            all_goals
                                              try simp only [zwr_rne, zwr_req, upd_ne, upd_eq, ne_eq, Nat.reduceEqDiff, not_false_eq_true, ca]
                                              exact ⟨by first | rfl | trivial, hh⟩
                                  · try simp only [zwr_rne, zwr_req, upd_ne, upd_eq, ne_eq, Nat.reduceEqDiff, not_false_eq_true, ca] at g26
                                    try omega
                                    all_goals
                                      try simp only [one_ne, zero_eq, if_false, if_true, or_true, true_or, or_false, false_or]
                                      try simp only [zwr_rne, zwr_req, upd_ne, upd_eq, ne_eq, Nat.reduceEqDiff, not_false_eq_true, ca]
                                      exact ⟨by first | rfl | trivial, hh⟩
                          · try simp only [zwr_rne, zwr_req, upd_ne, upd_eq, ne_eq, Nat.reduceEqDiff, not_false_eq_true, ca] at g19
                            try omega
                            all_goals
                              try simp only [one_ne, zero_eq, if_false, if_true, or_true, true_or, or_false, false_or]
                              try simp only [zwr_rne, zwr_req, upd_ne, upd_eq, ne_eq, Nat.reduceEqDiff, not_false_eq_true, ca]
                              exact ⟨by first | rfl | trivial, hh⟩
                      · try simp only [zwr_rne, zwr_req, upd_ne, upd_eq, ne_eq, Nat.reduceEqDiff, not_false_eq_true, ca] at g18
                        try omega
                        all_goals
                          refine en_X12_charge ?_
                          try simp only [zwr_rne, zwr_req, upd_ne, upd_eq, ne_eq, Nat.reduceEqDiff, not_false_eq_true, ca]
                          refine m_isAsset (by first | omega | (simp only [zwr_rne, zwr_req, upd_ne, upd_eq, ne_eq, Nat.reduceEqDiff, not_false_eq_true, ca]; omega)) (fun g32 g32' => ?_) (fun g32 => ?_)
                          · try simp only [zwr_rne, zwr_req, upd_ne, upd_eq, ne_eq, Nat.reduceEqDiff, not_false_eq_true, ca] at g32
                            try simp only [zwr_rne, zwr_req, upd_ne, upd_eq, ne_eq, Nat.reduceEqDiff, not_false_eq_true, ca] at g32'
                            try omega
                            all_goals
                              try simp only [one_ne, zero_eq, if_false, if_true, or_true, true_or, or_false, false_or]
                              try simp only [zwr_rne, zwr_req, upd_ne, upd_eq, ne_eq, Nat.reduceEqDiff, not_false_eq_true, ca]
                              refine zeq (fun g33 => ?_) (fun g33 => ?_)
                              · try simp only [zwr_rne, zwr_req, upd_ne, upd_eq, ne_eq, Nat.reduceEqDiff, not_false_eq_true, ca] at g33
                                try omega
                                all_goals
                                  try simp only [zwr_rne, zwr_req, upd_ne, upd_eq, ne_eq, Nat.reduceEqDiff, not_false_eq_true, ca]
                                  refine zeq (fun g34 => ?_) (fun g34 => ?_)
                                  · try simp only [zwr_rne, zwr_req, upd_ne, upd_eq, ne_eq, Nat.reduceEqDiff, not_false_eq_true, ca] at g34
                                    try omega
                                    all_goals
                                      try simp only [zwr_rne, zwr_req, upd_ne, upd_eq, ne_eq, Nat.reduceEqDiff, not_false_eq_true, ca]
                                      refine ⟨by first | assumption | exact vin (by omega) | exact vp_in_I.mpr (by omega), ?_⟩
                                      refine zeq (fun g35 => ?_) (fun g35 => ?_)
                                      · try simp only [zwr_rne, zwr_req, upd_ne, upd_eq, ne_eq, Nat.reduceEqDiff, not_false_eq_true, ca] at g35
                                        try omega
                                        all_goals
                                          try simp only [zwr_rne, zwr_req, upd_ne, upd_eq, ne_eq, Nat.reduceEqDiff, not_false_eq_true, ca]
                                          refine ⟨by first | assumption | exact vin (by omega) | exact vp_in_I.mpr (by omega), ?_⟩
                                          rintro _ rfl
                                          try simp only [zwr_rne, zwr_req, upd_ne, upd_eq, ne_eq, Nat.reduceEqDiff, not_false_eq_true, ca]
                                          refine m_orNone s14 ?_
                                          try simp only [zwr_rne, zwr_req, upd_ne, upd_eq, ne_eq, Nat.reduceEqDiff, not_false_eq_true, ca]
                                          exact ⟨by first | rfl | trivial, hh⟩
                                      · try simp only [zwr_rne, zwr_req, upd_ne, upd_eq, ne_eq, Nat.reduceEqDiff, not_false_eq_true, ca] at g35
                                        try omega
                                        all_goals
                                          try simp only [zwr_rne, zwr_req, upd_ne, upd_eq, ne_eq, Nat.reduceEqDiff, not_false_eq_true, ca]
                                          refine ⟨by first | assumption | exact vin (by omega) | exact vp_in_I.mpr (by omega), ?_⟩
                                          rintro _ rfl
                                          try simp only [zwr_rne, zwr_req, upd_ne, upd_eq, ne_eq, Nat.reduceEqDiff, not_false_eq_true, ca]
                                          refine m_orNone s14 ?_
                                          try simp only [zwr_rne, zwr_req, upd_ne, upd_eq, ne_eq, Nat.reduceEqDiff, not_false_eq_true, ca]
                                          exact ⟨by first | rfl | trivial, hh⟩
                                  · try simp only [zwr_rne, zwr_req, upd_ne, upd_eq, ne_eq, Nat.reduceEqDiff, not_false_eq_true, ca] at g34
                                    try omega
                                    all_goals
                                      try simp only [zwr_rne, zwr_req, upd_ne, upd_eq, ne_eq, Nat.reduceEqDiff, not_false_eq_true, ca]
                                      refine ⟨by first | assumption | exact vin (by omega) | exact vp_in_I.mpr (by omega), ?_⟩
                                      refine zeq (fun g36 => ?_) (fun g36 => ?_)
                                      · try simp only [zwr_rne, zwr_req, upd_ne, upd_eq, ne_eq, Nat.reduceEqDiff, not_false_eq_true, ca] at g36
                                        try omega
                                        all_goals
                                          try simp only [zwr_rne, zwr_req, upd_ne, upd_eq, ne_eq, Nat.reduceEqDiff, not_false_eq_true, ca]
                                          refine ⟨by first | assumption | exact vin (by omega) | exact vp_in_I.mpr (by omega), ?_⟩
                                          refine ⟨by first | assumption | exact vin (by omega) | exact vp_in_I.mpr (by omega), ?_⟩
                                          refine zeq (fun g37 => ?_) (fun g37 => ?_)
                                          · try simp only [zwr_rne, zwr_req, upd_ne, upd_eq, ne_eq, Nat.reduceEqDiff, not_false_eq_true, ca] at g37
                                            try omega
                                            all_goals
                                              try simp only [zwr_rne, zwr_req, upd_ne, upd_eq, ne_eq, Nat.reduceEqDiff, not_false_eq_true, ca]
                                              refine ⟨by first | assumption | exact vin (by omega) | exact vp_in_I.mpr (by omega), ?_⟩
                                              refine zeq (fun g38 => ?_) (fun g38 => ?_)
                                              · try simp only [zwr_rne, zwr_req, upd_ne, upd_eq, ne_eq, Nat.reduceEqDiff, not_false_eq_true, ca] at g38
                                                try omega
                                                all_goals
                                                  try simp only [zwr_rne, zwr_req, upd_ne, upd_eq, ne_eq, Nat.reduceEqDiff, not_false_eq_true, ca]
                                                  refine ⟨by first | assumption | exact vin (by omega) | exact vp_in_I.mpr (by omega), ?_⟩
                                                  rintro _ rfl
                                                  try simp only [zwr_rne, zwr_req, upd_ne, upd_eq, ne_eq, Nat.reduceEqDiff, not_false_eq_true, ca]
                                                  refine m_orNone s14 ?_
                                                  try simp only [zwr_rne, zwr_req, upd_ne, upd_eq, ne_eq, Nat.reduceEqDiff, not_false_eq_true, ca]
                                                  exact ⟨by first | rfl | trivial, hh⟩
                                              · try simp only [zwr_rne, zwr_req, upd_ne, upd_eq, ne_eq, Nat.reduceEqDiff, not_false_eq_true, ca] at g38
                                                try omega
                                                all_goals
                                                  try simp only [zwr_rne, zwr_req, upd_ne, upd_eq, ne_eq, Nat.reduceEqDiff, not_false_eq_true, ca]
                                                  refine ⟨by first | assumption | exact vin (by omega) | exact vp_in_I.mpr (by omega), ?_⟩
                                                  rintro _ rfl
                                                  try simp only [zwr_rne, zwr_req, upd_ne, upd_eq, ne_eq, Nat.reduceEqDiff, not_false_eq_true, ca]
                                                  refine m_orNone s14 ?_
                                                  try simp only [zwr_rne, zwr_req, upd_ne, upd_eq, ne_eq, Nat.reduceEqDiff, not_false_eq_true, ca]
                                                  exact ⟨by first | rfl | trivial, hh⟩
                                          · try simp only [zwr_rne, zwr_req, upd_ne, upd_eq, ne_eq, Nat.reduceEqDiff, not_false_eq_true, ca] at g37
                                            try omega
                                            all_goals
                                              try simp only [zwr_rne, zwr_req, upd_ne, upd_eq, ne_eq, Nat.reduceEqDiff, not_false_eq_true, ca]
                                              exact ⟨by first | rfl | trivial, hh⟩
                                      · try simp only [zwr_rne, zwr_req, upd_ne, upd_eq, ne_eq, Nat.reduceEqDiff, not_false_eq_true, ca] at g36
                                        try omega
                                        all_goals
                                          try simp only [zwr_rne, zwr_req, upd_ne, upd_eq, ne_eq, Nat.reduceEqDiff, not_false_eq_true, ca]
                                          exact ⟨by first | rfl | trivial, hh⟩
                              · try simp only [zwr_rne, zwr_req, upd_ne, upd_eq, ne_eq, Nat.reduceEqDiff, not_false_eq_true, ca] at g33
                                try omega
                                all_goals
                                  try simp only [zwr_rne, zwr_req, upd_ne, upd_eq, ne_eq, Nat.reduceEqDiff, not_false_eq_true, ca]
                                  refine m_isClaim (by first | omega | (simp only [zwr_rne, zwr_req, upd_ne, upd_eq, ne_eq, Nat.reduceEqDiff, not_false_eq_true, ca]; omega)) (fun g39 g39' => ?_) (fun g39 => ?_)
                                  · try simp only [zwr_rne, zwr_req, upd_ne, upd_eq, ne_eq, Nat.reduceEqDiff, not_false_eq_true, ca] at g39
                                    try simp only [zwr_rne, zwr_req, upd_ne, upd_eq, ne_eq, Nat.reduceEqDiff, not_false_eq_true, ca] at g39'
                                    try omega
                                    all_goals
                                      try simp only [one_ne, zero_eq, if_false, if_true, or_true, true_or, or_false, false_or]
                                      try simp only [zwr_rne, zwr_req, upd_ne, upd_eq, ne_eq, Nat.reduceEqDiff, not_false_eq_true, ca]
                                      refine zeq (fun g40 => ?_) (fun g40 => ?_)
                                      · try simp only [zwr_rne, zwr_req, upd_ne, upd_eq, ne_eq, Nat.reduceEqDiff, not_false_eq_true, ca] at g40
                                        try omega
                                        all_goals
                                          try simp only [zwr_rne, zwr_req, upd_ne, upd_eq, ne_eq, Nat.reduceEqDiff, not_false_eq_true, ca]
                                          refine ⟨by first | assumption | exact vin (by omega) | exact vp_in_I.mpr (by omega), ?_⟩
                                          refine zeq (fun g41 => ?_) (fun g41 => ?_)
                                          · try simp only [zwr_rne, zwr_req, upd_ne, upd_eq, ne_eq, Nat.reduceEqDiff, not_false_eq_true, ca] at g41
                                            try omega
                                            all_goals
                                              try simp only [zwr_rne, zwr_req, upd_ne, upd_eq, ne_eq, Nat.reduceEqDiff, not_false_eq_true, ca]
                                              refine ⟨by first | assumption | exact vin (by omega) | exact vp_in_I.mpr (by omega), ?_⟩
                                              rintro _ rfl
                                              try simp only [zwr_rne, zwr_req, upd_ne, upd_eq, ne_eq, Nat.reduceEqDiff, not_false_eq_true, ca]
                                              refine m_orNone s14 ?_
                                              try simp only [zwr_rne, zwr_req, upd_ne, upd_eq, ne_eq, Nat.reduceEqDiff, not_false_eq_true, ca]
                                              exact ⟨by first | rfl | trivial, hh⟩
                                          · try simp only [zwr_rne, zwr_req, upd_ne, upd_eq, ne_eq, Nat.reduceEqDiff, not_false_eq_true, ca] at g41
                                            try omega
                                            all_goals
                                              try simp only [zwr_rne, zwr_req, upd_ne, upd_eq, ne_eq, Nat.reduceEqDiff, not_false_eq_true, ca]
                                              refine ⟨by first | assumption | exact vin (by omega) | exact vp_in_I.mpr (by omega), ?_⟩
                                              rintro _ rfl
                                              try simp only [zwr_rne, zwr_req, upd_ne, upd_eq, ne_eq, Nat.reduceEqDiff, not_false_eq_true, ca]
                                              refine m_orNone s14 ?_
                                              try simp only [zwr_rne, zwr_req, upd_ne, upd_eq, ne_eq, Nat.reduceEqDiff, not_false_eq_true, ca]
                                              exact ⟨by first | rfl | trivial, hh⟩
                                      · try simp only [zwr_rne, zwr_req, upd_ne, upd_eq, ne_eq, Nat.reduceEqDiff, not_false_eq_true, ca] at g40
                                        try omega
                                        all_goals
                                          try simp only [zwr_rne, zwr_req, upd_ne, upd_eq, ne_eq, Nat.reduceEqDiff, not_false_eq_true, ca]
                                          refine ⟨by first | assumption | exact vin (by omega) | exact vp_in_I.mpr (by omega), ?_⟩
                                          refine zeq (fun g42 => ?_) (fun g42 => ?_)
                                          · try simp only [zwr_rne, zwr_req, upd_ne, upd_eq, ne_eq, Nat.reduceEqDiff, not_false_eq_true, ca] at g42
                                            try omega
                                            all_goals
                                              try simp only [zwr_rne, zwr_req, upd_ne, upd_eq, ne_eq, Nat.reduceEqDiff, not_false_eq_true, ca]
                                              refine ⟨by first | assumption | exact vin (by omega) | exact vp_in_I.mpr (by omega), ?_⟩
                                              refine ⟨by first | assumption | exact vin (by omega) | exact vp_in_I.mpr (by omega), ?_⟩
                                              refine zeq (fun g43 => ?_) (fun g43 => ?_)
                                              · try simp only [zwr_rne, zwr_req, upd_ne, upd_eq, ne_eq, Nat.reduceEqDiff, not_false_eq_true, ca] at g43
                                                try omega
                                                all_goals
                                                  try simp only [zwr_rne, zwr_req, upd_ne, upd_eq, ne_eq, Nat.reduceEqDiff, not_false_eq_true, ca]
                                                  refine ⟨by first | assumption | exact vin (by omega) | exact vp_in_I.mpr (by omega), ?_⟩
                                                  refine zeq (fun g44 => ?_) (fun g44 => ?_)
                                                  · try simp only [zwr_rne, zwr_req, upd_ne, upd_eq, ne_eq, Nat.reduceEqDiff, not_false_eq_true, ca] at g44
                                                    try omega
                                                    all_goals
                                                      try simp only [zwr_rne, zwr_req, upd_ne, upd_eq, ne_eq, Nat.reduceEqDiff, not_false_eq_true, ca]
                                                      refine ⟨by first | assumption | exact vin (by omega) | exact vp_in_I.mpr (by omega), ?_⟩
                                                      rintro _ rfl
                                                      try simp only [zwr_rne, zwr_req, upd_ne, upd_eq, ne_eq, Nat.reduceEqDiff, not_false_eq_true, ca]
                                                      refine m_orNone s14 ?_
                                                      try simp only [zwr_rne, zwr_req, upd_ne, upd_eq, ne_eq, Nat.reduceEqDiff, not_false_eq_true, ca]
                                                      exact ⟨by first | rfl | trivial, hh⟩
                                                  · try simp only [zwr_rne, zwr_req, upd_ne, upd_eq, ne_eq, Nat.reduceEqDiff, not_false_eq_true, ca] at g44
                                                    try omega
                                                    all_goals
                                                      try simp only [zwr_rne, zwr_req, upd_ne, upd_eq, ne_eq, Nat.reduceEqDiff, not_false_eq_true, ca]
                                                      refine ⟨by first | assumption | exact vin (by omega) | exact vp_in_I.mpr (by omega), ?_⟩
                                                      rintro _ rfl
                                                      try simp only [zwr_rne, zwr_req, upd_ne, upd_eq, ne_eq, Nat.reduceEqDiff, not_false_eq_true, ca]
                                                      refine m_orNone s14 ?_
                                                      try simp only [zwr_rne, zwr_req, upd_ne, upd_eq, ne_eq, Nat.reduceEqDiff, not_false_eq_true, ca]
                                                      exact ⟨by first | rfl | trivial, hh⟩
                                              · try simp only [zwr_rne, zwr_req, upd_ne, upd_eq, ne_eq, Nat.reduceEqDiff, not_false_eq_true, ca] at g43
                                                try omega
                                                all_goals
                                                  try simp only [zwr_rne, zwr_req, upd_ne, upd_eq, ne_eq, Nat.reduceEqDiff, not_false_eq_true, ca]
                                                  exact ⟨by first | rfl | trivial, hh⟩
                                          · try simp only [zwr_rne, zwr_req, upd_ne, upd_eq, ne_eq, Nat.reduceEqDiff, not_false_eq_true, ca] at g42
                                            try omega
                                            all_goals
                                              try simp only [zwr_rne, zwr_req, upd_ne, upd_eq, ne_eq, Nat.reduceEqDiff, not_false_eq_true, ca]
                                              exact ⟨by first | rfl | trivial, hh⟩
                                  · try simp only [zwr_rne, zwr_req, upd_ne, upd_eq, ne_eq, Nat.reduceEqDiff, not_false_eq_true, ca] at g39
                                    try omega
                                    all_goals
                                      try simp only [one_ne, zero_eq, if_false, if_true, or_true, true_or, or_false, false_or]
                                      try simp only [zwr_rne, zwr_req, upd_ne, upd_eq, ne_eq, Nat.reduceEqDiff, not_false_eq_true, ca]
                                      exact ⟨by first | rfl | trivial, hh⟩
                          · try simp only [zwr_rne, zwr_req, upd_ne, upd_eq, ne_eq, Nat.reduceEqDiff, not_false_eq_true, ca] at g32
                            try omega
                            all_goals
                              try simp only [one_ne, zero_eq, if_false, if_true, or_true, true_or, or_false, false_or]
                              try simp only [zwr_rne, zwr_req, upd_ne, upd_eq, ne_eq, Nat.reduceEqDiff, not_false_eq_true, ca]
                              exact ⟨by first | rfl | trivial, hh⟩
                  · try simp only [zwr_rne, zwr_req, upd_ne, upd_eq, ne_eq, Nat.reduceEqDiff, not_false_eq_true, ca] at g17
                    try omega
                    all_goals
                      refine en_X12_charge ?_
                      try simp only [zwr_rne, zwr_req, upd_ne, upd_eq, ne_eq, Nat.reduceEqDiff, not_false_eq_true, ca]
                      refine m_isAsset (by first | omega | (simp only [zwr_rne, zwr_req, upd_ne, upd_eq, ne_eq, Nat.reduceEqDiff, not_false_eq_true, ca]; omega)) (fun g45 g45' => ?_) (fun g45 => ?_)
                      · try simp only [zwr_rne, zwr_req, upd_ne, upd_eq, ne_eq, Nat.reduceEqDiff, not_false_eq_true, ca] at g45
                        try simp only [zwr_rne, zwr_req, upd_ne, upd_eq, ne_eq, Nat.reduceEqDiff, not_false_eq_true, ca] at g45'
                        try omega
                        all_goals
                          try simp only [one_ne, zero_eq, if_false, if_true, or_true, true_or, or_false, false_or]
                          try simp only [zwr_rne, zwr_req, upd_ne, upd_eq, ne_eq, Nat.reduceEqDiff, not_false_eq_true, ca]
                          refine zeq (fun g46 => ?_) (fun g46 => ?_)
                          · try simp only [zwr_rne, zwr_req, upd_ne, upd_eq, ne_eq, Nat.reduceEqDiff, not_false_eq_true, ca] at g46
                            try omega
                            all_goals
                              try simp only [zwr_rne, zwr_req, upd_ne, upd_eq, ne_eq, Nat.reduceEqDiff, not_false_eq_true, ca]
                              refine zeq (fun g47 => ?_) (fun g47 => ?_)
                              · try simp only [zwr_rne, zwr_req, upd_ne, upd_eq, ne_eq, Nat.reduceEqDiff, not_false_eq_true, ca] at g47
                                try omega
                                all_goals
                                  try simp only [zwr_rne, zwr_req, upd_ne, upd_eq, ne_eq, Nat.reduceEqDiff, not_false_eq_true, ca]
                                  refine ⟨by first | assumption | exact vin (by omega) | exact vp_in_I.mpr (by omega), ?_⟩
                                  refine zeq (fun g48 => ?_) (fun g48 => ?_)
                                  · try simp only [zwr_rne, zwr_req, upd_ne, upd_eq, ne_eq, Nat.reduceEqDiff, not_false_eq_true, ca] at g48
                                    try omega
                                    all_goals
                                      try simp only [zwr_rne, zwr_req, upd_ne, upd_eq, ne_eq, Nat.reduceEqDiff, not_false_eq_true, ca]
                                      refine ⟨by first | assumption | exact vin (by omega) | exact vp_in_I.mpr (by omega), ?_⟩
                                      rintro _ rfl
                                      try simp only [zwr_rne, zwr_req, upd_ne, upd_eq, ne_eq, Nat.reduceEqDiff, not_false_eq_true, ca]
                                      refine m_orNone s14 ?_
                                      try simp only [zwr_rne, zwr_req, upd_ne, upd_eq, ne_eq, Nat.reduceEqDiff, not_false_eq_true, ca]
                                      exact ⟨by first | rfl | trivial, hh⟩
                                  · try simp only [zwr_rne, zwr_req, upd_ne, upd_eq, ne_eq, Nat.reduceEqDiff, not_false_eq_true, ca] at g48
                                    try omega
                                    all_goals
                                      try simp only [zwr_rne, zwr_req, upd_ne, upd_eq, ne_eq, Nat.reduceEqDiff, not_false_eq_true, ca]
                                      refine ⟨by first | assumption | exact vin (by omega) | exact vp_in_I.mpr (by omega), ?_⟩
                                      rintro _ rfl
                                      try simp only [zwr_rne, zwr_req, upd_ne, upd_eq, ne_eq, Nat.reduceEqDiff, not_false_eq_true, ca]
                                      refine m_orNone s14 ?_
                                      try simp only [zwr_rne, zwr_req, upd_ne, upd_eq, ne_eq, Nat.reduceEqDiff, not_false_eq_true, ca]
                                      exact ⟨by first | rfl | trivial, hh⟩
                              · try simp only [zwr_rne, zwr_req, upd_ne, upd_eq, ne_eq, Nat.reduceEqDiff, not_false_eq_true, ca] at g47
                                try omega
                                all_goals
                                  try simp only [zwr_rne, zwr_req, upd_ne, upd_eq, ne_eq, Nat.reduceEqDiff, not_false_eq_true, ca]
                                  refine ⟨by first | assumption | exact vin (by omega) | exact vp_in_I.mpr (by omega), ?_⟩
                                  refine zeq (fun g49 => ?_) (fun g49 => ?_)
                                  · try simp only [zwr_rne, zwr_req, upd_ne, upd_eq, ne_eq, Nat.reduceEqDiff, not_false_eq_true, ca] at g49
                                    try omega
                                    all_goals
                                      try simp only [zwr_rne, zwr_req, upd_ne, upd_eq, ne_eq, Nat.reduceEqDiff, not_false_eq_true, ca]
                                      refine ⟨by first | assumption | exact vin (by omega) | exact vp_in_I.mpr (by omega), ?_⟩
                                      refine ⟨by first | assumption | exact vin (by omega) | exact vp_in_I.mpr (by omega), ?_⟩
                                      refine zeq (fun g50 => ?_) (fun g50 => ?_)
                                      · try simp only [zwr_rne, zwr_req, upd_ne, upd_eq, ne_eq, Nat.reduceEqDiff, not_false_eq_true, ca] at g50
                                        try omega
                                        all_goals
                                          try simp only [zwr_rne, zwr_req, upd_ne, upd_eq, ne_eq, Nat.reduceEqDiff, not_false_eq_true, ca]
                                          refine ⟨by first | assumption | exact vin (by omega) | exact vp_in_I.mpr (by omega), ?_⟩
                                          refine zeq (fun g51 => ?_) (fun g51 => ?_)
                                          · try simp only [zwr_rne, zwr_req, upd_ne, upd_eq, ne_eq, Nat.reduceEqDiff, not_false_eq_true, ca] at g51
                                            try omega
                                            all_goals
                                              try simp only [zwr_rne, zwr_req, upd_ne, upd_eq, ne_eq, Nat.reduceEqDiff, not_false_eq_true, ca]
                                              refine ⟨by first | assumption | exact vin (by omega) | exact vp_in_I.mpr (by omega), ?_⟩
                                              rintro _ rfl
                                              try simp only [zwr_rne, zwr_req, upd_ne, upd_eq, ne_eq, Nat.reduceEqDiff, not_false_eq_true, ca]
                                              refine m_orNone s14 ?_
                                              try simp only [zwr_rne, zwr_req, upd_ne, upd_eq, ne_eq, Nat.reduceEqDiff, not_false_eq_true, ca]
                                              exact ⟨by first | rfl | trivial, hh⟩
                                          · try simp only [zwr_rne, zwr_req, upd_ne, upd_eq, ne_eq, Nat.reduceEqDiff, not_false_eq_true, ca] at g51
                                            try omega
                                            all_goals
                                              try simp only [zwr_rne, zwr_req, upd_ne, upd_eq, ne_eq, Nat.reduceEqDiff, not_false_eq_true, ca]
                                              refine ⟨by first | assumption | exact vin (by omega) | exact vp_in_I.mpr (by omega), ?_⟩
                                              rintro _ rfl
                                              try simp only [zwr_rne, zwr_req, upd_ne, upd_eq, ne_eq, Nat.reduceEqDiff, not_false_eq_true, ca]
                                              refine m_orNone s14 ?_
                                              try simp only [zwr_rne, zwr_req, upd_ne, upd_eq, ne_eq, Nat.reduceEqDiff, not_false_eq_true, ca]
                                              exact ⟨by first | rfl | trivial, hh⟩
                                      · try simp only [zwr_rne, zwr_req, upd_ne, upd_eq, ne_eq, Nat.reduceEqDiff, not_false_eq_true, ca] at g50
                                        try omega
                                        all_goals
                                          try simp only [zwr_rne, zwr_req, upd_ne, upd_eq, ne_eq, Nat.reduceEqDiff, not_false_eq_true, ca]
                                          exact ⟨by first | rfl | trivial, hh⟩
                                  · try simp only [zwr_rne, zwr_req, upd_ne, upd_eq, ne_eq, Nat.reduceEqDiff, not_false_eq_true, ca] at g49
                                    try omega
                                    all_goals
                                      try simp only [zwr_rne, zwr_req, upd_ne, upd_eq, ne_eq, Nat.reduceEqDiff, not_false_eq_true, ca]
                                      exact ⟨by first | rfl | trivial, hh⟩
                          · try simp only [zwr_rne, zwr_req, upd_ne, upd_eq, ne_eq, Nat.reduceEqDiff, not_false_eq_true, ca] at g46
                            try omega
                            all_goals
                              try simp only [zwr_rne, zwr_req, upd_ne, upd_eq, ne_eq, Nat.reduceEqDiff, not_false_eq_true, ca]
                              refine m_isClaim (by first | omega | (simp only [zwr_rne, zwr_req, upd_ne, upd_eq, ne_eq, Nat.reduceEqDiff, not_false_eq_true, ca]; omega)) (fun g52 g52' => ?_) (fun g52 => ?_)
                              · try simp only [zwr_rne, zwr_req, upd_ne, upd_eq, ne_eq, Nat.reduceEqDiff, not_false_eq_true, ca] at g52
                                try simp only [zwr_rne, zwr_req, upd_ne, upd_eq, ne_eq, Nat.reduceEqDiff, not_false_eq_true, ca] at g52'
                                try omega
                                all_goals
                                  try simp only [one_ne, zero_eq, if_false, if_true, or_true, true_or, or_false, false_or]
                                  try simp only [zwr_rne, zwr_req, upd_ne, upd_eq, ne_eq, Nat.reduceEqDiff, not_false_eq_true, ca]
                                  refine zeq (fun g53 => ?_) (fun g53 => ?_)
                                  · try simp only [zwr_rne, zwr_req, upd_ne, upd_eq, ne_eq, Nat.reduceEqDiff, not_false_eq_true, ca] at g53
                                    try omega
                                    all_goals
                                      try simp only [zwr_rne, zwr_req, upd_ne, upd_eq, ne_eq, Nat.reduceEqDiff, not_false_eq_true, ca]
                                      refine ⟨by first | assumption | exact vin (by omega) | exact vp_in_I.mpr (by omega), ?_⟩
                                      refine zeq (fun g54 => ?_) (fun g54 => ?_)
                                      · try simp only [zwr_rne, zwr_req, upd_ne, upd_eq, ne_eq, Nat.reduceEqDiff, not_false_eq_true, ca] at g54
                                        try omega
                                        all_goals
                                          try simp only [zwr_rne, zwr_req, upd_ne, upd_eq, ne_eq, Nat.reduceEqDiff, not_false_eq_true, ca]
                                          refine ⟨by first | assumption | exact vin (by omega) | exact vp_in_I.mpr (by omega), ?_⟩
                                          rintro _ rfl
                                          try simp only [zwr_rne, zwr_req, upd_ne, upd_eq, ne_eq, Nat.reduceEqDiff, not_false_eq_true, ca]
                                          refine m_orNone s14 ?_
                                          try simp only [zwr_rne, zwr_req, upd_ne, upd_eq, ne_eq, Nat.reduceEqDiff, not_false_eq_true, ca]
                                          exact ⟨by first | rfl | trivial, hh⟩
                                      · try simp only [zwr_rne, zwr_req, upd_ne, upd_eq, ne_eq, Nat.reduceEqDiff, not_false_eq_true, ca] at g54
                                        try omega
                                        all_goals
                                          try simp only [zwr_rne, zwr_req, upd_ne, upd_eq, ne_eq, Nat.reduceEqDiff, not_false_eq_true, ca]
                                          refine ⟨by first | assumption | exact vin (by omega) | exact vp_in_I.mpr (by omega), ?_⟩
                                          rintro _ rfl
                                          try simp only [zwr_rne, zwr_req, upd_ne, upd_eq, ne_eq, Nat.reduceEqDiff, not_false_eq_true, ca]
                                          refine m_orNone s14 ?_
                                          try simp only [zwr_rne, zwr_req, upd_ne, upd_eq, ne_eq, Nat.reduceEqDiff, not_false_eq_true, ca]
                                          exact ⟨by first | rfl | trivial, hh⟩
                                  · try simp only [zwr_rne, zwr_req, upd_ne, upd_eq, ne_eq, Nat.reduceEqDiff, not_false_eq_true, ca] at g53
                                    try omega
                                    all_goals
                                      try simp only [zwr_rne, zwr_req, upd_ne, upd_eq, ne_eq, Nat.reduceEqDiff, not_false_eq_true, ca]
                                      refine ⟨by first | assumption | exact vin (by omega) | exact vp_in_I.mpr (by omega), ?_⟩
                                      refine zeq (fun g55 => ?_) (fun g55 => ?_)
                                      · try simp only [zwr_rne, zwr_req, upd_ne, upd_eq, ne_eq, Nat.reduceEqDiff, not_false_eq_true, ca] at g55
                                        try omega
                                        all_goals
                                          try simp only [zwr_rne, zwr_req, upd_ne, upd_eq, ne_eq, Nat.reduceEqDiff, not_false_eq_true, ca]
                                          refine ⟨by first | assumption | exact vin (by omega) | exact vp_in_I.mpr (by omega), ?_⟩
                                          refine ⟨by first | assumption | exact vin (by omega) | exact vp_in_I.mpr (by omega), ?_⟩
                                          refine zeq (fun g56 => ?_) (fun g56 => ?_)
                                          · try simp only [zwr_rne, zwr_req, upd_ne, upd_eq, ne_eq, Nat.reduceEqDiff, not_false_eq_true, ca] at g56
                                            try omega
                                            all_goals
                                              try simp only [zwr_rne, zwr_req, upd_ne, upd_eq, ne_eq, Nat.reduceEqDiff, not_false_eq_true, ca]
                                              refine ⟨by first | assumption | exact vin (by omega) | exact vp_in_I.mpr (by omega), ?_⟩
                                              refine zeq (fun g57 => ?_) (fun g57 => ?_)
                                              · try simp only [zwr_rne, zwr_req, upd_ne, upd_eq, ne_eq, Nat.reduceEqDiff, not_false_eq_true, ca] at g57
                                                try omega
                                                all_goals
                                                  try simp only [zwr_rne, zwr_req, upd_ne, upd_eq, ne_eq, Nat.reduceEqDiff, not_false_eq_true, ca]
                                                  refine ⟨by first | assumption | exact vin (by omega) | exact vp_in_I.mpr (by omega), ?_⟩
                                                  rintro _ rfl
                                                  try simp only [zwr_rne, zwr_req, upd_ne, upd_eq, ne_eq, Nat.reduceEqDiff, not_false_eq_true, ca]
                                                  refine m_orNone s14 ?_
                                                  try simp only [zwr_rne, zwr_req, upd_ne, upd_eq, ne_eq, Nat.reduceEqDiff, not_false_eq_true, ca]
                                                  exact ⟨by first | rfl | trivial, hh⟩
                                              · try simp only [zwr_rne, zwr_req, upd_ne, upd_eq, ne_eq, Nat.reduceEqDiff, not_false_eq_true, ca] at g57
                                                try omega
                                                all_goals
                                                  try simp only [zwr_rne, zwr_req, upd_ne, upd_eq, ne_eq, Nat.reduceEqDiff, not_false_eq_true, ca]
                                                  refine ⟨by first | assumption | exact vin (by omega) | exact vp_in_I.mpr (by omega), ?_⟩
                                                  rintro _ rfl
                                                  try simp only [zwr_rne, zwr_req, upd_ne, upd_eq, ne_eq, Nat.reduceEqDiff, not_false_eq_true, ca]
                                                  refine m_orNone s14 ?_
                                                  try simp only [zwr_rne, zwr_req, upd_ne, upd_eq, ne_eq, Nat.reduceEqDiff, not_false_eq_true, ca]
                                                  exact ⟨by first | rfl | trivial, hh⟩
                                          · try simp only [zwr_rne, zwr_req, upd_ne, upd_eq, ne_eq, Nat.reduceEqDiff, not_false_eq_true, ca] at g56
                                            try omega
                                            all_goals
                                              try simp only [zwr_rne, zwr_req, upd_ne, upd_eq, ne_eq, Nat.reduceEqDiff, not_false_eq_true, ca]
                                              exact ⟨by first | rfl | trivial, hh⟩
                                      · try simp only [zwr_rne, zwr_req, upd_ne, upd_eq, ne_eq, Nat.reduceEqDiff, not_false_eq_true, ca] at g55
                                        try omega
                                        all_goals
                                          try simp only [zwr_rne, zwr_req, upd_ne, upd_eq, ne_eq, Nat.reduceEqDiff, not_false_eq_true, ca]
                                          exact ⟨by first | rfl | trivial, hh⟩
                              · try simp only [zwr_rne, zwr_req, upd_ne, upd_eq, ne_eq, Nat.reduceEqDiff, not_false_eq_true, ca] at g52
                                try omega
                                all_goals
                                  try simp only [one_ne, zero_eq, if_false, if_true, or_true, true_or, or_false, false_or]
                                  try simp only [zwr_rne, zwr_req, upd_ne, upd_eq, ne_eq, Nat.reduceEqDiff, not_false_eq_true, ca]
                                  exact ⟨by first | rfl | trivial, hh⟩
                      · try simp only [zwr_rne, zwr_req, upd_ne, upd_eq, ne_eq, Nat.reduceEqDiff, not_false_eq_true, ca] at g45
                        try omega
                        all_goals
                          try simp only [one_ne, zero_eq, if_false, if_true, or_true, true_or, or_false, false_or]
                          try simp only [zwr_rne, zwr_req, upd_ne, upd_eq, ne_eq, Nat.reduceEqDiff, not_false_eq_true, ca]
                          exact ⟨by first | rfl | trivial, hh⟩
          · try simp only [zwr_rne, zwr_req, upd_ne, upd_eq, ne_eq, Nat.reduceEqDiff, not_false_eq_true, ca] at g2
            try omega
            all_goals
              refine c_hasC (fun g58 g58' => ?_) (fun g58 => ?_)
              · try simp only [zwr_rne, zwr_req, upd_ne, upd_eq, ne_eq, Nat.reduceEqDiff, not_false_eq_true, ca] at g58
                try simp only [zwr_rne, zwr_req, upd_ne, upd_eq, ne_eq, Nat.reduceEqDiff, not_false_eq_true, ca] at g58'
                try omega
                all_goals
                  try simp only [one_ne, zero_eq, if_false, if_true, or_true, true_or, or_false, false_or]
                  refine zeq (fun g59 => ?_) (fun g59 => ?_)
                  · try simp only [zwr_rne, zwr_req, upd_ne, upd_eq, ne_eq, Nat.reduceEqDiff, not_false_eq_true, ca] at g59
                    try omega
                    all_goals
                      refine ⟨by first | assumption | exact vin (by omega) | exact vp_in_I.mpr (by omega), ?_⟩
                      refine ⟨by first | assumption | exact vin (by omega) | exact vp_in_I.mpr (by omega), ?_⟩
                      rintro _ rfl
                      try simp only [zwr_rne, zwr_req, upd_ne, upd_eq, ne_eq, Nat.reduceEqDiff, not_false_eq_true, ca]
                      refine c_changed ?_
                      try simp only [zwr_rne, zwr_req, upd_ne, upd_eq, ne_eq, Nat.reduceEqDiff, not_false_eq_true, ca]
                      refine en_X12_charge ?_
                      try simp only [zwr_rne, zwr_req, upd_ne, upd_eq, ne_eq, Nat.reduceEqDiff, not_false_eq_true, ca]
                      refine m_isAsset (by first | omega | (simp only [zwr_rne, zwr_req, upd_ne, upd_eq, ne_eq, Nat.reduceEqDiff, not_false_eq_true, ca]; omega)) (fun g60 g60' => ?_) (fun g60 => ?_)
                      · try simp only [zwr_rne, zwr_req, upd_ne, upd_eq, ne_eq, Nat.reduceEqDiff, not_false_eq_true, ca] at g60
                        try simp only [zwr_rne, zwr_req, upd_ne, upd_eq, ne_eq, Nat.reduceEqDiff, not_false_eq_true, ca] at g60'
                        try omega
                        all_goals
                          try simp only [one_ne, zero_eq, if_false, if_true, or_true, true_or, or_false, false_or]
                          try simp only [zwr_rne, zwr_req, upd_ne, upd_eq, ne_eq, Nat.reduceEqDiff, not_false_eq_true, ca]
                          refine zeq (fun g61 => ?_) (fun g61 => ?_)
                          · try simp only [zwr_rne, zwr_req, upd_ne, upd_eq, ne_eq, Nat.reduceEqDiff, not_false_eq_true, ca] at g61
                            try omega
                            all_goals
                              try simp only [zwr_rne, zwr_req, upd_ne, upd_eq, ne_eq, Nat.reduceEqDiff, not_false_eq_true, ca]
                              refine zeq (fun g62 => ?_) (fun g62 => ?_)
                              · try simp only [zwr_rne, zwr_req, upd_ne, upd_eq, ne_eq, Nat.reduceEqDiff, not_false_eq_true, ca] at g62
                                try omega
                                all_goals
                                  try simp only [zwr_rne, zwr_req, upd_ne, upd_eq, ne_eq, Nat.reduceEqDiff, not_false_eq_true, ca]
                                  refine ⟨by first | assumption | exact vin (by omega) | exact vp_in_I.mpr (by omega), ?_⟩
                                  refine zeq (fun g63 => ?_) (fun g63 => ?_)
                                  · try simp only [zwr_rne, zwr_req, upd_ne, upd_eq, ne_eq, Nat.reduceEqDiff, not_false_eq_true, ca] at g63
                                    try omega
                                    all_goals
                                      try simp only [zwr_rne, zwr_req, upd_ne, upd_eq, ne_eq, Nat.reduceEqDiff, not_false_eq_true, ca]
                                      refine ⟨by first | assumption | exact vin (by omega) | exact vp_in_I.mpr (by omega), ?_⟩
                                      rintro _ rfl
                                      try simp only [zwr_rne, zwr_req, upd_ne, upd_eq, ne_eq, Nat.reduceEqDiff, not_false_eq_true, ca]
                                      refine m_orNone s14 ?_
                                      try simp only [zwr_rne, zwr_req, upd_ne, upd_eq, ne_eq, Nat.reduceEqDiff, not_false_eq_true, ca]
                                      exact ⟨by first | rfl | trivial, hh⟩
                                  · try simp only [zwr_rne, zwr_req, upd_ne, upd_eq, ne_eq, Nat.reduceEqDiff, not_false_eq_true, ca] at g63
                                    try omega
                                    all_goals
                                      try simp only [zwr_rne, zwr_req, upd_ne, upd_eq, ne_eq, Nat.reduceEqDiff, not_false_eq_true, ca]
                                      refine ⟨by first | assumption | exact vin (by omega) | exact vp_in_I.mpr (by omega), ?_⟩
                                      rintro _ rfl
                                      try simp only [zwr_rne, zwr_req, upd_ne, upd_eq, ne_eq, Nat.reduceEqDiff, not_false_eq_true, ca]
                                      refine m_orNone s14 ?_
                                      try simp only [zwr_rne, zwr_req, upd_ne, upd_eq, ne_eq, Nat.reduceEqDiff, not_false_eq_true, ca]
                                      exact ⟨by first | rfl | trivial, hh⟩
                              · try simp only [zwr_rne, zwr_req, upd_ne, upd_eq, ne_eq, Nat.reduceEqDiff, not_false_eq_true, ca] at g62
                                try omega
                                all_goals
                                  try simp only [zwr_rne, zwr_req, upd_ne, upd_eq, ne_eq, Nat.reduceEqDiff, not_false_eq_true, ca]
                                  refine ⟨by first | assumption | exact vin (by omega) | exact vp_in_I.mpr (by omega), ?_⟩
                                  refine zeq (fun g64 => ?_) (fun g64 => ?_)
                                  · try simp only [zwr_rne, zwr_req, upd_ne, upd_eq, ne_eq, Nat.reduceEqDiff, not_false_eq_true, ca] at g64
                                    try omega
                                    all_goals
                                      try simp only [zwr_rne, zwr_req, upd_ne, upd_eq, ne_eq, Nat.reduceEqDiff, not_false_eq_true, ca]
                                      refine ⟨by first | assumption | exact vin (by omega) | exact vp_in_I.mpr (by omega), ?_⟩
                                      refine ⟨by first | assumption | exact vin (by omega) | exact vp_in_I.mpr (by omega), ?_⟩
                                      refine zeq (fun g65 => ?_) (fun g65 => ?_)
                                      · try simp only [zwr_rne, zwr_req, upd_ne, upd_eq, ne_eq, Nat.reduceEqDiff, not_false_eq_true, ca] at g65
                                        try omega
                                        all_goals
                                          try simp only [zwr_rne, zwr_req, upd_ne, upd_eq, ne_eq, Nat.reduceEqDiff, not_false_eq_true, ca]
                                          refine ⟨by first | assumption | exact vin (by omega) | exact vp_in_I.mpr (by omega), ?_⟩
                                          refine zeq (fun g66 => ?_) (fun g66 => ?_)
                                          · try simp only [zwr_rne, zwr_req, upd_ne, upd_eq, ne_eq, Nat.reduceEqDiff, not_false_eq_true, ca] at g66
                                            try omega
                                            all_goals
                                              try simp only [zwr_rne, zwr_req, upd_ne, upd_eq, ne_eq, Nat.reduceEqDiff, not_false_eq_true, ca]
                                              refine ⟨by first | assumption | exact vin (by omega) | exact vp_in_I.mpr (by omega), ?_⟩
                                              rintro _ rfl
                                              try simp only [zwr_rne, zwr_req, upd_ne, upd_eq, ne_eq, Nat.reduceEqDiff, not_false_eq_true, ca]
                                              refine m_orNone s14 ?_
                                              try simp only [zwr_rne, zwr_req, upd_ne, upd_eq, ne_eq, Nat.reduceEqDiff, not_false_eq_true, ca]
                                              exact ⟨by first | rfl | trivial, hh⟩
                                          · try simp only [zwr_rne, zwr_req, upd_ne, upd_eq, ne_eq, Nat.reduceEqDiff, not_false_eq_true, ca] at g66
                                            try omega
                                            all_goals
                                              try simp only [zwr_rne, zwr_req, upd_ne, upd_eq, ne_eq, Nat.reduceEqDiff, not_false_eq_true, ca]
                                              refine ⟨by first | assumption | exact vin (by omega) | exact vp_in_I.mpr (by omega), ?_⟩
                                              rintro _ rfl
                                              try simp only [zwr_rne, zwr_req, upd_ne, upd_eq, ne_eq, Nat.reduceEqDiff, not_false_eq_true, ca]
                                              refine m_orNone s14 ?_
                                              try simp only [zwr_rne, zwr_req, upd_ne, upd_eq, ne_eq, Nat.reduceEqDiff, not_false_eq_true, ca]
                                              exact ⟨by first | rfl | trivial, hh⟩
                                      · try simp only [zwr_rne, zwr_req, upd_ne, upd_eq, ne_eq, Nat.reduceEqDiff, not_false_eq_true, ca] at g65
                                        try omega
                                        all_goals
                                          try simp only [zwr_rne, zwr_req, upd_ne, upd_eq, ne_eq, Nat.reduceEqDiff, not_false_eq_true, ca]
                                          exact ⟨by first | rfl | trivial, hh⟩
                                  · try simp only [zwr_rne, zwr_req, upd_ne, upd_eq, ne_eq, Nat.reduceEqDiff, not_false_eq_true, ca] at g64
                                    try omega
                                    all_goals
                                      try simp only [zwr_rne, zwr_req, upd_ne, upd_eq, ne_eq, Nat.reduceEqDiff, not_false_eq_true, ca]
                                      exact ⟨by first | rfl | trivial, hh⟩
                          · try simp only [zwr_rne, zwr_req, upd_ne, upd_eq, ne_eq, Nat.reduceEqDiff, not_false_eq_true, ca] at g61
                            try omega
                            all_goals
                              try simp only [zwr_rne, zwr_req, upd_ne, upd_eq, ne_eq, Nat.reduceEqDiff, not_false_eq_true, ca]
                              refine m_isClaim (by first | omega | (simp only [zwr_rne, zwr_req, upd_ne, upd_eq, ne_eq, Nat.reduceEqDiff, not_false_eq_true, ca]; omega)) (fun g67 g67' => ?_) (fun g67 => ?_)
                              · try simp only [zwr_rne, zwr_req, upd_ne, upd_eq, ne_eq, Nat.reduceEqDiff, not_false_eq_true, ca] at g67
                                try simp only [zwr_rne, zwr_req, upd_ne, upd_eq, ne_eq, Nat.reduceEqDiff, not_false_eq_true, ca] at g67'
                                try omega
                                all_goals
                                  try simp only [one_ne, zero_eq, if_false, if_true, or_true, true_or, or_false, false_or]
                                  try simp only [zwr_rne, zwr_req, upd_ne, upd_eq, ne_eq, Nat.reduceEqDiff, not_false_eq_true, ca]
                                  refine zeq (fun g68 => ?_) (fun g68 => ?_)
                                  · try simp only [zwr_rne, zwr_req, upd_ne, upd_eq, ne_eq, Nat.reduceEqDiff, not_false_eq_true, ca] at g68
                                    try omega
                                    all_goals
                                      try simp only [zwr_rne, zwr_req, upd_ne, upd_eq, ne_eq, Nat.reduceEqDiff, not_false_eq_true, ca]
                                      refine ⟨by first | assumption | exact vin (by omega) | exact vp_in_I.mpr (by omega), ?_⟩
                                      refine zeq (fun g69 => ?_) (fun g69 => ?_)
                                      · try simp only [zwr_rne, zwr_req, upd_ne, upd_eq, ne_eq, Nat.reduceEqDiff, not_false_eq_true, ca] at g69
                                        try omega
                                        all_goals
                                          try simp only [zwr_rne, zwr_req, upd_ne, upd_eq, ne_eq, Nat.reduceEqDiff, not_false_eq_true, ca]
                                          refine ⟨by first | assumption | exact vin (by omega) | exact vp_in_I.mpr (by omega), ?_⟩
                                          rintro _ rfl
                                          try simp only [zwr_rne, zwr_req, upd_ne, upd_eq, ne_eq, Nat.reduceEqDiff, not_false_eq_true, ca]
                                          refine m_orNone s14 ?_
                                          try simp only [zwr_rne, zwr_req, upd_ne, upd_eq, ne_eq, Nat.reduceEqDiff, not_false_eq_true, ca]
                                          exact ⟨by first | rfl | trivial, hh⟩
                                      · try simp only [zwr_rne, zwr_req, upd_ne, upd_eq, ne_eq, Nat.reduceEqDiff, not_false_eq_true, ca] at g69
                                        try omega
                                        all_goals
                                          try simp only [zwr_rne, zwr_req, upd_ne, upd_eq, ne_eq, Nat.reduceEqDiff, not_false_eq_true, ca]
                                          refine ⟨by first | assumption | exact vin (by omega) | exact vp_in_I.mpr (by omega), ?_⟩
                                          rintro _ rfl
                                          try simp only [zwr_rne, zwr_req, upd_ne, upd_eq, ne_eq, Nat.reduceEqDiff, not_false_eq_true, ca]
                                          refine m_orNone s14 ?_
                                          try simp only [zwr_rne, zwr_req, upd_ne, upd_eq, ne_eq, Nat.reduceEqDiff, not_false_eq_true, ca]
                                          exact ⟨by first | rfl | trivial, hh⟩
                                  · try simp only [zwr_rne, zwr_req, upd_ne, upd_eq, ne_eq, Nat.reduceEqDiff, not_false_eq_true, ca] at g68
                                    try omega
                                    all_goals
                                      try simp only [zwr_rne, zwr_req, upd_ne, upd_eq, ne_eq, Nat.reduceEqDiff, not_false_eq_true, ca]
                                      refine ⟨by first | assumption | exact vin (by omega) | exact vp_in_I.mpr (by omega), ?_⟩
                                      refine zeq (fun g70 => ?_) (fun g70 => ?_)
                                      · try simp only [zwr_rne, zwr_req, upd_ne, upd_eq, ne_eq, Nat.reduceEqDiff, not_false_eq_true, ca] at g70
                                        try omega
                                        all_goals
                                          try simp only [zwr_rne, zwr_req, upd_ne, upd_eq, ne_eq, Nat.reduceEqDiff, not_false_eq_true, ca]
                                          refine ⟨by first | assumption | exact vin (by omega) | exact vp_in_I.mpr (by omega), ?_⟩
                                          refine ⟨by first | assumption | exact vin (by omega) | exact vp_in_I.mpr (by omega), ?_⟩
                                          refine zeq (fun g71 => ?_) (fun g71 => ?_)
                                          · try simp only [zwr_rne, zwr_req, upd_ne, upd_eq, ne_eq, Nat.reduceEqDiff, not_false_eq_true, ca] at g71
                                            try omega
                                            all_goals
                                              try simp only [zwr_rne, zwr_req, upd_ne, upd_eq, ne_eq, Nat.reduceEqDiff, not_false_eq_true, ca]
                                              refine ⟨by first | assumption | exact vin (by omega) | exact vp_in_I.mpr (by omega), ?_⟩
                                              refine zeq (fun g72 => ?_) (fun g72 => ?_)
                                              · try simp only [zwr_rne, zwr_req, upd_ne, upd_eq, ne_eq, Nat.reduceEqDiff, not_false_eq_true, ca] at g72
                                                try omega
                                                all_goals
                                                  try simp only [zwr_rne, zwr_req, upd_ne, upd_eq, ne_eq, Nat.reduceEqDiff, not_false_eq_true, ca]
                                                  refine ⟨by first | assumption | exact vin (by omega) | exact vp_in_I.mpr (by omega), ?_⟩
                                                  rintro _ rfl
                                                  try simp only [zwr_rne, zwr_req, upd_ne, upd_eq, ne_eq, Nat.reduceEqDiff, not_false_eq_true, ca]
                                                  refine m_orNone s14 ?_
                                                  try simp only [zwr_rne, zwr_req, upd_ne, upd_eq, ne_eq, Nat.reduceEqDiff, not_false_eq_true, ca]
                                                  exact ⟨by first | rfl | trivial, hh⟩
                                              · try simp only [zwr_rne, zwr_req, upd_ne, upd_eq, ne_eq, Nat.reduceEqDiff, not_false_eq_true, ca] at g72
                                                try omega
                                                all_goals
                                                  try simp only [zwr_rne, zwr_req, upd_ne, upd_eq, ne_eq, Nat.reduceEqDiff, not_false_eq_true, ca]
                                                  refine ⟨by first | assumption | exact vin (by omega) | exact vp_in_I.mpr (by omega), ?_⟩
                                                  rintro _ rfl
                                                  try simp only [zwr_rne, zwr_req, upd_ne, upd_eq, ne_eq, Nat.reduceEqDiff, not_false_eq_true, ca]
                                                  refine m_orNone s14 ?_
                                                  try simp only [zwr_rne, zwr_req, upd_ne, upd_eq, ne_eq, Nat.reduceEqDiff, not_false_eq_true, ca]
                                                  exact ⟨by first | rfl | trivial, hh⟩
                                          · try simp only [zwr_rne, zwr_req, upd_ne, upd_eq, ne_eq, Nat.reduceEqDiff, not_false_eq_true, ca] at g71
                                            try omega
                                            all_goals
                                              try simp only [zwr_rne, zwr_req, upd_ne, upd_eq, ne_eq, Nat.reduceEqDiff, not_false_eq_true, ca]
                                              exact ⟨by first | rfl | trivial, hh⟩
                                      · try simp only [zwr_rne, zwr_req, upd_ne, upd_eq, ne_eq, Nat.reduceEqDiff, not_false_eq_true, ca] at g70
                                        try omega
                                        all_goals
                                          try simp only [zwr_rne, zwr_req, upd_ne, upd_eq, ne_eq, Nat.reduceEqDiff, not_false_eq_true, ca]
                                          exact ⟨by first | rfl | trivial, hh⟩
                              · try simp only [zwr_rne, zwr_req, upd_ne, upd_eq, ne_eq, Nat.reduceEqDiff, not_false_eq_true, ca] at g67
                                try omega
                                all_goals
                                  try simp only [one_ne, zero_eq, if_false, if_true, or_true, true_or, or_false, false_or]
                                  try simp only [zwr_rne, zwr_req, upd_ne, upd_eq, ne_eq, Nat.reduceEqDiff, not_false_eq_true, ca]
                                  exact ⟨by first | rfl | trivial, hh⟩
                      · try simp only [zwr_rne, zwr_req, upd_ne, upd_eq, ne_eq, Nat.reduceEqDiff, not_false_eq_true, ca] at g60
                        try omega
                        all_goals
                          try simp only [one_ne, zero_eq, if_false, if_true, or_true, true_or, or_false, false_or]
                          try simp only [zwr_rne, zwr_req, upd_ne, upd_eq, ne_eq, Nat.reduceEqDiff, not_false_eq_true, ca]
                          exact ⟨by first | rfl | trivial, hh⟩
                  · try simp only [zwr_rne, zwr_req, upd_ne, upd_eq, ne_eq, Nat.reduceEqDiff, not_false_eq_true, ca] at g59
                    try omega
                    all_goals
                      refine ⟨by first | assumption | exact vin (by omega) | exact vp_in_I.mpr (by omega), ?_⟩
                      refine zeq (fun g73 => ?_) (fun g73 => ?_)
                      · try simp only [zwr_rne, zwr_req, upd_ne, upd_eq, ne_eq, Nat.reduceEqDiff, not_false_eq_true, ca] at g73
                        try omega
                        all_goals
                          refine ⟨by first | assumption | exact vin (by omega) | exact vp_in_I.mpr (by omega), ?_⟩
                          refine ⟨by first | assumption | exact vin (by omega) | exact vp_in_I.mpr (by omega), ?_⟩
                          refine zeq (fun g74 => ?_) (fun g74 => ?_)
                          · try simp only [zwr_rne, zwr_req, upd_ne, upd_eq, ne_eq, Nat.reduceEqDiff, not_false_eq_true, ca] at g74
                            try omega
                            all_goals
                              refine ⟨by first | assumption | exact vin (by omega) | exact vp_in_I.mpr (by omega), ?_⟩
                              refine ⟨by first | assumption | exact vin (by omega) | exact vp_in_I.mpr (by omega), ?_⟩
                              rintro _ rfl
                              try simp only [zwr_rne, zwr_req, upd_ne, upd_eq, ne_eq, Nat.reduceEqDiff, not_false_eq_true, ca]
                              refine c_changed ?_
                              try simp only [zwr_rne, zwr_req, upd_ne, upd_eq, ne_eq, Nat.reduceEqDiff, not_false_eq_true, ca]
                              refine en_X12_charge ?_
                              try simp only [zwr_rne, zwr_req, upd_ne, upd_eq, ne_eq, Nat.reduceEqDiff, not_false_eq_true, ca]
                              refine m_isAsset (by first | omega | (simp only [zwr_rne, zwr_req, upd_ne, upd_eq, ne_eq, Nat.reduceEqDiff, not_false_eq_true, ca]; omega)) (fun g75 g75' => ?_) (fun g75 => ?_)
                              · try simp only [zwr_rne, zwr_req, upd_ne, upd_eq, ne_eq, Nat.reduceEqDiff, not_false_eq_true, ca] at g75
                                try simp only [zwr_rne, zwr_req, upd_ne, upd_eq, ne_eq, Nat.reduceEqDiff, not_false_eq_true, ca] at g75'
                                try omega
                                all_goals
                                  try simp only [one_ne, zero_eq, if_false, if_true, or_true, true_or, or_false, false_or]
                                  try simp only [zwr_rne, zwr_req, upd_ne, upd_eq, ne_eq, Nat.reduceEqDiff, not_false_eq_true, ca]
                                  refine zeq (fun g76 => ?_) (fun g76 => ?_)
                                  · try simp only [zwr_rne, zwr_req, upd_ne, upd_eq, ne_eq, Nat.reduceEqDiff, not_false_eq_true, ca] at g76
                                    try omega
                                    all_goals
                                      try simp only [zwr_rne, zwr_req, upd_ne, upd_eq, ne_eq, Nat.reduceEqDiff, not_false_eq_true, ca]
                                      refine zeq (fun g77 => ?_) (fun g77 => ?_)
                                      · try simp only [zwr_rne, zwr_req, upd_ne, upd_eq, ne_eq, Nat.reduceEqDiff, not_false_eq_true, ca] at g77
                                        try omega
                                        all_goals
                                          try simp only [zwr_rne, zwr_req, upd_ne, upd_eq, ne_eq, Nat.reduceEqDiff, not_false_eq_true, ca]
                                          refine ⟨by first | assumption | exact vin (by omega) | exact vp_in_I.mpr (by omega), ?_⟩
                                          refine zeq (fun g78 => ?_) (fun g78 => ?_)
                                          · try simp only [zwr_rne, zwr_req, upd_ne, upd_eq, ne_eq, Nat.reduceEqDiff, not_false_eq_true, ca] at g78
                                            try omega
                                            all_goals
                                              try simp only [zwr_rne, zwr_req, upd_ne, upd_eq, ne_eq, Nat.reduceEqDiff, not_false_eq_true, ca]
                                              refine ⟨by first | assumption | exact vin (by omega) | exact vp_in_I.mpr (by omega), ?_⟩
                                              rintro _ rfl
                                              try simp only [zwr_rne, zwr_req, upd_ne, upd_eq, ne_eq, Nat.reduceEqDiff, not_false_eq_true, ca]
                                              refine m_orNone s14 ?_
                                              try simp only [zwr_rne, zwr_req, upd_ne, upd_eq, ne_eq, Nat.reduceEqDiff, not_false_eq_true, ca]
                                              exact ⟨by first | rfl | trivial, hh⟩
                                          · try simp only [zwr_rne, zwr_req, upd_ne, upd_eq, ne_eq, Nat.reduceEqDiff, not_false_eq_true, ca] at g78
                                            try omega
                                            all_goals
                                              try simp only [zwr_rne, zwr_req, upd_ne, upd_eq, ne_eq, Nat.reduceEqDiff, not_false_eq_true, ca]
                                              refine ⟨by first | assumption | exact vin (by omega) | exact vp_in_I.mpr (by omega), ?_⟩
                                              rintro _ rfl
                                              try simp only [zwr_rne, zwr_req, upd_ne, upd_eq, ne_eq, Nat.reduceEqDiff, not_false_eq_true, ca]
                                              refine m_orNone s14 ?_
                                              try simp only [zwr_rne, zwr_req, upd_ne, upd_eq, ne_eq, Nat.reduceEqDiff, not_false_eq_true, ca]
                                              exact ⟨by first | rfl | trivial, hh⟩
                                      · try simp only [zwr_rne, zwr_req, upd_ne, upd_eq, ne_eq, Nat.reduceEqDiff, not_false_eq_true, ca] at g77
                                        try omega
                                        all_goals
                                          try simp only [zwr_rne, zwr_req, upd_ne, upd_eq, ne_eq, Nat.reduceEqDiff, not_false_eq_true, ca]
                                          refine ⟨by first | assumption | exact vin (by omega) | exact vp_in_I.mpr (by omega), ?_⟩
                                          refine zeq (fun g79 => ?_) (fun g79 => ?_)
                                          · try simp only [zwr_rne, zwr_req, upd_ne, upd_eq, ne_eq, Nat.reduceEqDiff, not_false_eq_true, ca] at g79
                                            try omega
                                            all_goals
                                              try simp only [zwr_rne, zwr_req, upd_ne, upd_eq, ne_eq, Nat.reduceEqDiff, not_false_eq_true, ca]
                                              refine ⟨by first | assumption | exact vin (by omega) | exact vp_in_I.mpr (by omega), ?_⟩
                                              refine ⟨by first | assumption | exact vin (by omega) | exact vp_in_I.mpr (by omega), ?_⟩
                                              refine zeq (fun g80 => ?_) (fun g80 => ?_)
                                              · try simp only [zwr_rne, zwr_req, upd_ne, upd_eq, ne_eq, Nat.reduceEqDiff, not_false_eq_true, ca] at g80
                                                try omega
                                                all_goals
                                                  try simp only [zwr_rne, zwr_req, upd_ne, upd_eq, ne_eq, Nat.reduceEqDiff, not_false_eq_true, ca]
                                                  refine ⟨by first | assumption | exact vin (by omega) | exact vp_in_I.mpr (by omega), ?_⟩
                                                  refine zeq (fun g81 => ?_) (fun g81 => ?_)
                                                  · try simp only [zwr_rne, zwr_req, upd_ne, upd_eq, ne_eq, Nat.reduceEqDiff, not_false_eq_true, ca] at g81
                                                    try omega
                                                    all_goals
                                                      try simp only [zwr_rne, zwr_req, upd_ne, upd_eq, ne_eq, Nat.reduceEqDiff, not_false_eq_true, ca]
                                                      refine ⟨by first | assumption | exact vin (by omega) | exact vp_in_I.mpr (by omega), ?_⟩
                                                      rintro _ rfl
                                                      try simp only [zwr_rne, zwr_req, upd_ne, upd_eq, ne_eq, Nat.reduceEqDiff, not_false_eq_true, ca]
                                                      refine m_orNone s14 ?_
                                                      try simp only [zwr_rne, zwr_req, upd_ne, upd_eq, ne_eq, Nat.reduceEqDiff, not_false_eq_true, ca]
                                                      exact ⟨by first | rfl | trivial, hh⟩
                                                  · try simp only [zwr_rne, zwr_req, upd_ne, upd_eq, ne_eq, Nat.reduceEqDiff, not_false_eq_true, ca] at g81
                                                    try omega
                                                    all_goals
                                                      try simp only [zwr_rne, zwr_req, upd_ne, upd_eq, ne_eq, Nat.reduceEqDiff, not_false_eq_true, ca]
                                                      refine ⟨by first | assumption | exact vin (by omega) | exact vp_in_I.mpr (by omega), ?_⟩
                                                      rintro _ rfl
                                                      try simp only [zwr_rne, zwr_req, upd_ne, upd_eq, ne_eq, Nat.reduceEqDiff, not_false_eq_true, ca]
                                                      refine m_orNone s14 ?_
                                                      try simp only [zwr_rne, zwr_req, upd_ne, upd_eq, ne_eq, Nat.reduceEqDiff, not_false_eq_true, ca]
                                                      exact ⟨by first | rfl | trivial, hh⟩
                                              · try simp only [zwr_rne, zwr_req, upd_ne, upd_eq, ne_eq, Nat.reduceEqDiff, not_false_eq_true, ca] at g80
                                                try omega
                                                all_goals
                                                  try simp only [zwr_rne, zwr_req, upd_ne, upd_eq, ne_eq, Nat.reduceEqDiff, not_false_eq_true, ca]
                                                  exact ⟨by first | rfl | trivial, hh⟩
                                          · try simp only [zwr_rne, zwr_req, upd_ne, upd_eq, ne_eq, Nat.reduceEqDiff, not_false_eq_true, ca] at g79
                                            try omega
                                            all_goals
                                              try simp only [zwr_rne, zwr_req, upd_ne, upd_eq, ne_eq, Nat.reduceEqDiff, not_false_eq_true, ca]
                                              exact ⟨by first | rfl | trivial, hh⟩
                                  · try simp only [zwr_rne, zwr_req, upd_ne, upd_eq, ne_eq, Nat.reduceEqDiff, not_false_eq_true, ca] at g76
                                    try omega
                                    all_goals
                                      try simp only [zwr_rne, zwr_req, upd_ne, upd_eq, ne_eq, Nat.reduceEqDiff, not_false_eq_true, ca]
                                      refine m_isClaim (by first | omega | (simp only [zwr_rne, zwr_req, upd_ne, upd_eq, ne_eq, Nat.reduceEqDiff, not_false_eq_true, ca]; omega)) (fun g82 g82' => ?_) (fun g82 => ?_)
                                      · try simp only [zwr_rne, zwr_req, upd_ne, upd_eq, ne_eq, Nat.reduceEqDiff, not_false_eq_true, ca] at g82
                                        try simp only [zwr_rne, zwr_req, upd_ne, upd_eq, ne_eq, Nat.reduceEqDiff, not_false_eq_true, ca] at g82'
                                        try omega
                                        all_goals
                                          try simp only [one_ne, zero_eq, if_false, if_true, or_true, true_or, or_false, false_or]
                                          try simp only [zwr_rne, zwr_req, upd_ne, upd_eq, ne_eq, Nat.reduceEqDiff, not_false_eq_true, ca]
                                          refine zeq (fun g83 => ?_) (fun g83 => ?_)
                                          · try simp only [zwr_rne, zwr_req, upd_ne, upd_eq, ne_eq, Nat.reduceEqDiff, not_false_eq_true, ca] at g83
                                            try omega
                                            all_goals
                                              try simp only [zwr_rne, zwr_req, upd_ne, upd_eq, ne_eq, Nat.reduceEqDiff, not_false_eq_true, ca]
                                              refine ⟨by first | assumption | exact vin (by omega) | exact vp_in_I.mpr (by omega), ?_⟩
                                              refine zeq (fun g84 => ?_) (fun g84 => ?_)
                                              · try simp only [zwr_rne, zwr_req, upd_ne, upd_eq, ne_eq, Nat.reduceEqDiff, not_false_eq_true, ca] at g84
                                                try omega
                                                all_goals
                                                  try simp only [zwr_rne, zwr_req, upd_ne, upd_eq, ne_eq, Nat.reduceEqDiff, not_false_eq_true, ca]
                                                  refine ⟨by first | assumption | exact vin (by omega) | exact vp_in_I.mpr (by omega), ?_⟩
                                                  rintro _ rfl
                                                  try simp only [zwr_rne, zwr_req, upd_ne, upd_eq, ne_eq, Nat.reduceEqDiff, not_false_eq_true, ca]
                                                  refine m_orNone s14 ?_
                                                  try simp only [zwr_rne, zwr_req, upd_ne, upd_eq, ne_eq, Nat.reduceEqDiff, not_false_eq_true, ca]
                                                  exact ⟨by first | rfl | trivial, hh⟩
                                              · try simp only [zwr_rne, zwr_req, upd_ne, upd_eq, ne_eq, Nat.reduceEqDiff, not_false_eq_true, ca] at g84
                                                try omega
                                                all_goals
                                                  try simp only [zwr_rne, zwr_req, upd_ne, upd_eq, ne_eq, Nat.reduceEqDiff, not_false_eq_true, ca]
                                                  refine ⟨by first | assumption | exact vin (by omega) | exact vp_in_I.mpr (by omega), ?_⟩
                                                  rintro _ rfl
                                                  try simp only [zwr_rne, zwr_req, upd_ne, upd_eq, ne_eq, Nat.reduceEqDiff, not_false_eq_true, ca]
                                                  refine m_orNone s14 ?_
                                                  try simp only [zwr_rne, zwr_req, upd_ne, upd_eq, ne_eq, Nat.reduceEqDiff, not_false_eq_true, ca]
                                                  exact ⟨by first | rfl | trivial, hh⟩
                                          · try simp only [zwr_rne, zwr_req, upd_ne, upd_eq, ne_eq, Nat.reduceEqDiff, not_false_eq_true, ca] at g83
                                            try omega
                                            all_goals
                                              try simp only [zwr_rne, zwr_req, upd_ne, upd_eq, ne_eq, Nat.reduceEqDiff, not_false_eq_true, ca]
                                              refine ⟨by first | assumption | exact vin (by omega) | exact vp_in_I.mpr (by omega), ?_⟩
                                              refine zeq (fun g85 => ?_) (fun g85 => ?_)
                                              · try simp only [zwr_rne, zwr_req, upd_ne, upd_eq, ne_eq, Nat.reduceEqDiff, not_false_eq_true, ca] at g85
                                                try omega
                                                all_goals
                                                  try simp only [zwr_rne, zwr_req, upd_ne, upd_eq, ne_eq, Nat.reduceEqDiff, not_false_eq_true, ca]
                                                  refine ⟨by first | assumption | exact vin (by omega) | exact vp_in_I.mpr (by omega), ?_⟩
                                                  refine ⟨by first | assumption | exact vin (by omega) | exact vp_in_I.mpr (by omega), ?_⟩
                                                  refine zeq (fun g86 => ?_) (fun g86 => ?_)
                                                  · try simp only [zwr_rne, zwr_req, upd_ne, upd_eq, ne_eq, Nat.reduceEqDiff, not_false_eq_true, ca] at g86
                                                    try omega
                                                    all_goals
                                                      try simp only [zwr_rne, zwr_req, upd_ne, upd_eq, ne_eq, Nat.reduceEqDiff, not_false_eq_true, ca]
                                                      refine ⟨by first | assumption | exact vin (by omega) | exact vp_in_I.mpr (by omega), ?_⟩
                                                      refine zeq (fun g87 => ?_) (fun g87 => ?_)
                                                      · try simp only [zwr_rne, zwr_req, upd_ne, upd_eq, ne_eq, Nat.reduceEqDiff, not_false_eq_true, ca] at g87
                                                        try omega
                                                        all_goals
                                                          try simp only [zwr_rne, zwr_req, upd_ne, upd_eq, ne_eq, Nat.reduceEqDiff, not_false_eq_true, ca]
                                                          refine ⟨by first | assumption | exact vin (by omega) | exact vp_in_I.mpr (by omega), ?_⟩
                                                          rintro _ rfl
                                                          try simp only [zwr_rne, zwr_req, upd_ne, upd_eq, ne_eq, Nat.reduceEqDiff, not_false_eq_true, ca]
                                                          refine m_orNone s14 ?_
                                                          try simp only [zwr_rne, zwr_req, upd_ne, upd_eq, ne_eq, Nat.reduceEqDiff, not_false_eq_true, ca]
                                                          exact ⟨by first | rfl | trivial, hh⟩
                                                      · try simp only [zwr_rne, zwr_req, upd_ne, upd_eq, ne_eq, Nat.reduceEqDiff, not_false_eq_true, ca] at g87
                                                        try omega
                                                        all_goals
                                                          try simp only [zwr_rne, zwr_req, upd_ne, upd_eq, ne_eq, Nat.reduceEqDiff, not_false_eq_true, ca]
                                                          refine ⟨by first | assumption | exact vin (by omega) | exact vp_in_I.mpr (by omega), ?_⟩
                                                          rintro _ rfl
                                                          try simp only [zwr_rne, zwr_req, upd_ne, upd_eq, ne_eq, Nat.reduceEqDiff, not_false_eq_true, ca]
                                                          refine m_orNone s14 ?_
                                                          try simp only [zwr_rne, zwr_req, upd_ne, upd_eq, ne_eq, Nat.reduceEqDiff, not_false_eq_true, ca]
                                                          exact ⟨by first | rfl | trivial, hh⟩
                                                  · try simp only [zwr_rne, zwr_req, upd_ne, upd_eq, ne_eq, Nat.reduceEqDiff, not_false_eq_true, ca] at g86
                                                    try omega
                                                    all_goals
                                                      try simp only [zwr_rne, zwr_req, upd_ne, upd_eq, ne_eq, Nat.reduceEqDiff, not_false_eq_true, ca]
                                                      exact ⟨by first | rfl | trivial, hh⟩
                                              · try simp only [zwr_rne, zwr_req, upd_ne, upd_eq, ne_eq, Nat.reduceEqDiff, not_false_eq_true, ca] at g85
                                                try omega
                                                all_goals
                                                  try simp only [zwr_rne, zwr_req, upd_ne, upd_eq, ne_eq, Nat.reduceEqDiff, not_false_eq_true, ca]
                                                  exact ⟨by first | rfl | trivial, hh⟩
                                      · try simp only [zwr_rne, zwr_req, upd_ne, upd_eq, ne_eq, Nat.reduceEqDiff, not_false_eq_true, ca] at g82
                                        try omega
                                        all_goals
                                          try simp only [one_ne, zero_eq, if_false, if_true, or_true, true_or, or_false, false_or]
                                          try simp only [zwr_rne, zwr_req, upd_ne, upd_eq, ne_eq, Nat.reduceEqDiff, not_false_eq_true, ca]
                                          exact ⟨by first | rfl | trivial, hh⟩
                              · try simp only [zwr_rne, zwr_req, upd_ne, upd_eq, ne_eq, Nat.reduceEqDiff, not_false_eq_true, ca] at g75
                                try omega
                                all_goals
                                  try simp only [one_ne, zero_eq, if_false, if_true, or_true, true_or, or_false, false_or]
                                  try simp only [zwr_rne, zwr_req, upd_ne, upd_eq, ne_eq, Nat.reduceEqDiff, not_false_eq_true, ca]
                                  exact ⟨by first | rfl | trivial, hh⟩
                          · try simp only [zwr_rne, zwr_req, upd_ne, upd_eq, ne_eq, Nat.reduceEqDiff, not_false_eq_true, ca] at g74
                            try omega
                            all_goals
                              refine en_X12_charge ?_
                              try simp only [zwr_rne, zwr_req, upd_ne, upd_eq, ne_eq, Nat.reduceEqDiff, not_false_eq_true, ca]
                              refine m_isAsset (by first | omega | (simp only [zwr_rne, zwr_req, upd_ne, upd_eq, ne_eq, Nat.reduceEqDiff, not_false_eq_true, ca]; omega)) (fun g88 g88' => ?_) (fun g88 => ?_)
                              · try simp only [zwr_rne, zwr_req, upd_ne, upd_eq, ne_eq, Nat.reduceEqDiff, not_false_eq_true, ca] at g88
                                try simp only [zwr_rne, zwr_req, upd_ne, upd_eq, ne_eq, Nat.reduceEqDiff, not_false_eq_true, ca] at g88'
                                try omega
                                all_goals
                                  try simp only [one_ne, zero_eq, if_false, if_true, or_true, true_or, or_false, false_or]
                                  try simp only [zwr_rne, zwr_req, upd_ne, upd_eq, ne_eq, Nat.reduceEqDiff, not_false_eq_true, ca]
                                  refine zeq (fun g89 => ?_) (fun g89 => ?_)
                                  · try simp only [zwr_rne, zwr_req, upd_ne, upd_eq, ne_eq, Nat.reduceEqDiff, not_false_eq_true, ca] at g89
                                    try omega
                                    all_goals
                                      try simp only [zwr_rne, zwr_req, upd_ne, upd_eq, ne_eq, Nat.reduceEqDiff, not_false_eq_true, ca]
                                      refine zeq (fun g90 => ?_) (fun g90 => ?_)
                                      · try simp only [zwr_rne, zwr_req, upd_ne, upd_eq, ne_eq, Nat.reduceEqDiff, not_false_eq_true, ca] at g90
                                        try omega
                                        all_goals
                                          try simp only [zwr_rne, zwr_req, upd_ne, upd_eq, ne_eq, Nat.reduceEqDiff, not_false_eq_true, ca]
                                          refine ⟨by first | assumption | exact vin (by omega) | exact vp_in_I.mpr (by omega), ?_⟩
                                          refine zeq (fun g91 => ?_) (fun g91 => ?_)
                                          · try simp only [zwr_rne, zwr_req, upd_ne, upd_eq, ne_eq, Nat.reduceEqDiff, not_false_eq_true, ca] at g91
                                            try omega
                                            all_goals
                                              try simp only [zwr_rne, zwr_req, upd_ne, upd_eq, ne_eq, Nat.reduceEqDiff, not_false_eq_true, ca]
                                              refine ⟨by first | assumption | exact vin (by omega) | exact vp_in_I.mpr (by omega), ?_⟩
                                              rintro _ rfl
                                              try simp only [zwr_rne, zwr_req, upd_ne, upd_eq, ne_eq, Nat.reduceEqDiff, not_false_eq_true, ca]
                                              refine m_orNone s14 ?_
                                              try simp only [zwr_rne, zwr_req, upd_ne, upd_eq, ne_eq, Nat.reduceEqDiff, not_false_eq_true, ca]
                                              exact ⟨by first | rfl | trivial, hh⟩
                                          · try simp only [zwr_rne, zwr_req, upd_ne, upd_eq, ne_eq, Nat.reduceEqDiff, not_false_eq_true, ca] at g91
                                            try omega
                                            all_goals
                                              try simp only [zwr_rne, zwr_req, upd_ne, upd_eq, ne_eq, Nat.reduceEqDiff, not_false_eq_true, ca]
                                              refine ⟨by first | assumption | exact vin (by omega) | exact vp_in_I.mpr (by omega), ?_⟩
                                              rintro _ rfl
                                              try simp only [zwr_rne, zwr_req, upd_ne, upd_eq, ne_eq, Nat.reduceEqDiff, not_false_eq_true, ca]
                                              refine m_orNone s14 ?_
                                              try simp only [zwr_rne, zwr_req, upd_ne, upd_eq, ne_eq, Nat.reduceEqDiff, not_false_eq_true, ca]
                                              exact ⟨by first | rfl | trivial, hh⟩
                                      · try simp only [zwr_rne, zwr_req, upd_ne, upd_eq, ne_eq, Nat.reduceEqDiff, not_false_eq_true, ca] at g90
                                        try omega
                                        all_goals
                                          try simp only [zwr_rne, zwr_req, upd_ne, upd_eq, ne_eq, Nat.reduceEqDiff, not_false_eq_true, ca]
                                          refine ⟨by first | assumption | exact vin (by omega) | exact vp_in_I.mpr (by omega), ?_⟩
                                          refine zeq (fun g92 => ?_) (fun g92 => ?_)
                                          · try simp only [zwr_rne, zwr_req, upd_ne, upd_eq, ne_eq, Nat.reduceEqDiff, not_false_eq_true, ca] at g92
                                            try omega
                                            all_goals
                                              try simp only [zwr_rne, zwr_req, upd_ne, upd_eq, ne_eq, Nat.reduceEqDiff, not_false_eq_true, ca]
                                              refine ⟨by first | assumption | exact vin (by omega) | exact vp_in_I.mpr (by omega), ?_⟩
                                              refine ⟨by first | assumption | exact vin (by omega) | exact vp_in_I.mpr (by omega), ?_⟩
                                              refine zeq (fun g93 => ?_) (fun g93 => ?_)
                                              · try simp only [zwr_rne, zwr_req, upd_ne, upd_eq, ne_eq, Nat.reduceEqDiff, not_false_eq_true, ca] at g93
                                                try omega
                                                all_goals
                                                  try simp only [zwr_rne, zwr_req, upd_ne, upd_eq, ne_eq, Nat.reduceEqDiff, not_false_eq_true, ca]
                                                  refine ⟨by first | assumption | exact vin (by omega) | exact vp_in_I.mpr (by omega), ?_⟩
                                                  refine zeq (fun g94 => ?_) (fun g94 => ?_)
                                                  · try simp only [zwr_rne, zwr_req, upd_ne, upd_eq, ne_eq, Nat.reduceEqDiff, not_false_eq_true, ca] at g94
                                                    try omega
                                                    all_goals
                                                      try simp only [zwr_rne, zwr_req, upd_ne, upd_eq, ne_eq, Nat.reduceEqDiff, not_false_eq_true, ca]
                                                      refine ⟨by first | assumption | exact vin (by omega) | exact vp_in_I.mpr (by omega), ?_⟩
                                                      rintro _ rfl
                                                      try simp only [zwr_rne, zwr_req, upd_ne, upd_eq, ne_eq, Nat.reduceEqDiff, not_false_eq_true, ca]
                                                      refine m_orNone s14 ?_
                                                      try simp only [zwr_rne, zwr_req, upd_ne, upd_eq, ne_eq, Nat.reduceEqDiff, not_false_eq_true, ca]
                                                      exact ⟨by first | rfl | trivial, hh⟩
                                                  · try simp only [zwr_rne, zwr_req, upd_ne, upd_eq, ne_eq, Nat.reduceEqDiff, not_false_eq_true, ca] at g94
                                                    try omega
                                                    all_goals
                                                      try simp only [zwr_rne, zwr_req, upd_ne, upd_eq, ne_eq, Nat.reduceEqDiff, not_false_eq_true, ca]
                                                      refine ⟨by first | assumption | exact vin (by omega) | exact vp_in_I.mpr (by omega), ?_⟩
                                                      rintro _ rfl
                                                      try simp only [zwr_rne, zwr_req, upd_ne, upd_eq, ne_eq, Nat.reduceEqDiff, not_false_eq_true, ca]
                                                      refine m_orNone s14 ?_
                                                      try simp only [zwr_rne, zwr_req, upd_ne, upd_eq, ne_eq, Nat.reduceEqDiff, not_false_eq_true, ca]
                                                      exact ⟨by first | rfl | trivial, hh⟩
                                              · try simp only [zwr_rne, zwr_req, upd_ne, upd_eq, ne_eq, Nat.reduceEqDiff, not_false_eq_true, ca] at g93
                                                try omega
                                                all_goals
                                                  try simp only [zwr_rne, zwr_req, upd_ne, upd_eq, ne_eq, Nat.reduceEqDiff, not_false_eq_true, ca]
                                                  exact ⟨by first | rfl | trivial, hh⟩
                                          · try simp only [zwr_rne, zwr_req, upd_ne, upd_eq, ne_eq, Nat.reduceEqDiff, not_false_eq_true, ca] at g92
                                            try omega
                                            all_goals
                                              try simp only [zwr_rne, zwr_req, upd_ne, upd_eq, ne_eq, Nat.reduceEqDiff, not_false_eq_true, ca]
                                              exact ⟨by first | rfl | trivial, hh⟩
                                  · try simp only [zwr_rne, zwr_req, upd_ne, upd_eq, ne_eq, Nat.reduceEqDiff, not_false_eq_true, ca] at g89
                                    try omega
                                    all_goals
                                      try simp only [zwr_rne, zwr_req, upd_ne, upd_eq, ne_eq, Nat.reduceEqDiff, not_false_eq_true, ca]
                                      refine m_isClaim (by first | omega | (simp only [zwr_rne, zwr_req, upd_ne, upd_eq, ne_eq, Nat.reduceEqDiff, not_false_eq_true, ca]; omega)) (fun g95 g95' => ?_) (fun g95 => ?_)
                                      · try simp only [zwr_rne, zwr_req, upd_ne, upd_eq, ne_eq, Nat.reduceEqDiff, not_false_eq_true, ca] at g95
                                        try simp only [zwr_rne, zwr_req, upd_ne, upd_eq, ne_eq, Nat.reduceEqDiff, not_false_eq_true, ca] at g95'
                                        try omega
                                        all_goals
                                          try simp only [one_ne, zero_eq, if_false, if_true, or_true, true_or, or_false, false_or]
                                          try simp only [zwr_rne, zwr_req, upd_ne, upd_eq, ne_eq, Nat.reduceEqDiff, not_false_eq_true, ca]
                                          refine zeq (fun g96 => ?_) (fun g96 => ?_)
                                          · try simp only [zwr_rne, zwr_req, upd_ne, upd_eq, ne_eq, Nat.reduceEqDiff, not_false_eq_true, ca] at g96
                                            try omega
                                            all_goals
                                              try simp only [zwr_rne, zwr_req, upd_ne, upd_eq, ne_eq, Nat.reduceEqDiff, not_false_eq_true, ca]
                                              refine ⟨by first | assumption | exact vin (by omega) | exact vp_in_I.mpr (by omega), ?_⟩
                                              refine zeq (fun g97 => ?_) (fun g97 => ?_)
                                              · try simp only [zwr_rne, zwr_req, upd_ne, upd_eq, ne_eq, Nat.reduceEqDiff, not_false_eq_true, ca] at g97
                                                try omega
                                                all_goals
                                                  try simp only [zwr_rne, zwr_req, upd_ne, upd_eq, ne_eq, Nat.reduceEqDiff, not_false_eq_true, ca]
                                                  refine ⟨by first | assumption | exact vin (by omega) | exact vp_in_I.mpr (by omega), ?_⟩
                                                  rintro _ rfl
                                                  try simp only [zwr_rne, zwr_req, upd_ne, upd_eq, ne_eq, Nat.reduceEqDiff, not_false_eq_true, ca]
                                                  refine m_orNone s14 ?_
                                                  try simp only [zwr_rne, zwr_req, upd_ne, upd_eq, ne_eq, Nat.reduceEqDiff, not_false_eq_true, ca]
                                                  exact ⟨by first | rfl | trivial, hh⟩
                                              · try simp only [zwr_rne, zwr_req, upd_ne, upd_eq, ne_eq, Nat.reduceEqDiff, not_false_eq_true, ca] at g97
                                                try omega
                                                all_goals
                                                  try simp only [zwr_rne, zwr_req, upd_ne, upd_eq, ne_eq, Nat.reduceEqDiff, not_false_eq_true, ca]
                                                  refine ⟨by first | assumption | exact vin (by omega) | exact vp_in_I.mpr (by omega), ?_⟩
                                                  rintro _ rfl
                                                  try simp only [zwr_rne, zwr_req, upd_ne, upd_eq, ne_eq, Nat.reduceEqDiff, not_false_eq_true, ca]
                                                  refine m_orNone s14 ?_
                                                  try simp only [zwr_rne, zwr_req, upd_ne, upd_eq, ne_eq, Nat.reduceEqDiff, not_false_eq_true, ca]
                                                  exact ⟨by first | rfl | trivial, hh⟩
                                          · try simp only [zwr_rne, zwr_req, upd_ne, upd_eq, ne_eq, Nat.reduceEqDiff, not_false_eq_true, ca] at g96
                                            try omega
                                            all_goals
                                              try simp only [zwr_rne, zwr_req, upd_ne, upd_eq, ne_eq, Nat.reduceEqDiff, not_false_eq_true, ca]
                                              refine ⟨by first | assumption | exact vin (by omega) | exact vp_in_I.mpr (by omega), ?_⟩
                                              refine zeq (fun g98 => ?_) (fun g98 => ?_)
                                              · try simp only [zwr_rne, zwr_req, upd_ne, upd_eq, ne_eq, Nat.reduceEqDiff, not_false_eq_true, ca] at g98
                                                try omega
                                                all_goals
                                                  try simp only [zwr_rne, zwr_req, upd_ne, upd_eq, ne_eq, Nat.reduceEqDiff, not_false_eq_true, ca]
                                                  refine ⟨by first | assumption | exact vin (by omega) | exact vp_in_I.mpr (by omega), ?_⟩
                                                  refine ⟨by first | assumption | exact vin (by omega) | exact vp_in_I.mpr (by omega), ?_⟩
                                                  refine zeq (fun g99 => ?_) (fun g99 => ?_)
                                                  · try simp only [zwr_rne, zwr_req, upd_ne, upd_eq, ne_eq, Nat.reduceEqDiff, not_false_eq_true, ca] at g99
                                                    try omega
                                                    all_goals
                                                      try simp only [zwr_rne, zwr_req, upd_ne, upd_eq, ne_eq, Nat.reduceEqDiff, not_false_eq_true, ca]
                                                      refine ⟨by first | assumption | exact vin (by omega) | exact vp_in_I.mpr (by omega), ?_⟩
                                                      refine zeq (fun g100 => ?_) (fun g100 => ?_)
                                                      · try simp only [zwr_rne, zwr_req, upd_ne, upd_eq, ne_eq, Nat.reduceEqDiff, not_false_eq_true, ca] at g100
                                                        try omega
                                                        all_goals
                                                          try simp only [zwr_rne, zwr_req, upd_ne, upd_eq, ne_eq, Nat.reduceEqDiff, not_false_eq_true, ca]
                                                          refine ⟨by first | assumption | exact vin (by omega) | exact vp_in_I.mpr (by omega), ?_⟩
                                                          rintro _ rfl
                                                          try simp only [zwr_rne, zwr_req, upd_ne, upd_eq, ne_eq, Nat.reduceEqDiff, not_false_eq_true, ca]
                                                          refine m_orNone s14 ?_
                                                          try simp only [zwr_rne, zwr_req, upd_ne, upd_eq, ne_eq, Nat.reduceEqDiff, not_false_eq_true, ca]
                                                          exact ⟨by first | rfl | trivial, hh⟩
                                                      · try simp only [zwr_rne, zwr_req, upd_ne, upd_eq, ne_eq, Nat.reduceEqDiff, not_false_eq_true, ca] at g100
                                                        try omega
                                                        all_goals
                                                          try simp only [zwr_rne, zwr_req, upd_ne, upd_eq, ne_eq, Nat.reduceEqDiff, not_false_eq_true, ca]
                                                          refine ⟨by first | assumption | exact vin (by omega) | exact vp_in_I.mpr (by omega), ?_⟩
                                                          rintro _ rfl
                                                          try simp only [zwr_rne, zwr_req, upd_ne, upd_eq, ne_eq, Nat.reduceEqDiff, not_false_eq_true, ca]
                                                          refine m_orNone s14 ?_
                                                          try simp only [zwr_rne, zwr_req, upd_ne, upd_eq, ne_eq, Nat.reduceEqDiff, not_false_eq_true, ca]
                                                          exact ⟨by first | rfl | trivial, hh⟩
                                                  · try simp only [zwr_rne, zwr_req, upd_ne, upd_eq, ne_eq, Nat.reduceEqDiff, not_false_eq_true, ca] at g99
                                                    try omega
                                                    all_goals
                                                      try simp only [zwr_rne, zwr_req, upd_ne, upd_eq, ne_eq, Nat.reduceEqDiff, not_false_eq_true, ca]
                                                      exact ⟨by first | rfl | trivial, hh⟩
                                              · try simp only [zwr_rne, zwr_req, upd_ne, upd_eq, ne_eq, Nat.reduceEqDiff, not_false_eq_true, ca] at g98
                                                try omega
                                                all_goals
                                                  try simp only [zwr_rne, zwr_req, upd_ne, upd_eq, ne_eq, Nat.reduceEqDiff, not_false_eq_true, ca]
                                                  exact ⟨by first | rfl | trivial, hh⟩
                                      · try simp only [zwr_rne, zwr_req, upd_ne, upd_eq, ne_eq, Nat.reduceEqDiff, not_false_eq_true, ca] at g95
                                        try omega
                                        all_goals
                                          try simp only [one_ne, zero_eq, if_false, if_true, or_true, true_or, or_false, false_or]
                                          try simp only [zwr_rne, zwr_req, upd_ne, upd_eq, ne_eq, Nat.reduceEqDiff, not_false_eq_true, ca]
                                          exact ⟨by first | rfl | trivial, hh⟩
                              · try simp only [zwr_rne, zwr_req, upd_ne, upd_eq, ne_eq, Nat.reduceEqDiff, not_false_eq_true, ca] at g88
                                try omega
                                all_goals
                                  try simp only [one_ne, zero_eq, if_false, if_true, or_true, true_or, or_false, false_or]
                                  try simp only [zwr_rne, zwr_req, upd_ne, upd_eq, ne_eq, Nat.reduceEqDiff, not_false_eq_true, ca]
                                  exact ⟨by first | rfl | trivial, hh⟩
                      · try simp only [zwr_rne, zwr_req, upd_ne, upd_eq, ne_eq, Nat.reduceEqDiff, not_false_eq_true, ca] at g73
                        try omega
                        all_goals
                          refine en_X12_charge ?_
                          try simp only [zwr_rne, zwr_req, upd_ne, upd_eq, ne_eq, Nat.reduceEqDiff, not_false_eq_true, ca]
                          refine m_isAsset (by first | omega | (simp only [zwr_rne, zwr_req, upd_ne, upd_eq, ne_eq, Nat.reduceEqDiff, not_false_eq_true, ca]; omega)) (fun g101 g101' => ?_) (fun g101 => ?_)
                          · try simp only [zwr_rne, zwr_req, upd_ne, upd_eq, ne_eq, Nat.reduceEqDiff, not_false_eq_true, ca] at g101
                            try simp only [zwr_rne, zwr_req, upd_ne, upd_eq, ne_eq, Nat.reduceEqDiff, not_false_eq_true, ca] at g101'
                            try omega
                            all_goals
                              try simp only [one_ne, zero_eq, if_false, if_true, or_true, true_or, or_false, false_or]
                              try simp only [zwr_rne, zwr_req, upd_ne, upd_eq, ne_eq, Nat.reduceEqDiff, not_false_eq_true, ca]
                              refine zeq (fun g102 => ?_) (fun g102 => ?_)
                              · try simp only [zwr_rne, zwr_req, upd_ne, upd_eq, ne_eq, Nat.reduceEqDiff, not_false_eq_true, ca] at g102
                                try omega
                                all_goals
                                  try simp only [zwr_rne, zwr_req, upd_ne, upd_eq, ne_eq, Nat.reduceEqDiff, not_false_eq_true, ca]
                                  refine zeq (fun g103 => ?_) (fun g103 => ?_)
                                  · try simp only [zwr_rne, zwr_req, upd_ne, upd_eq, ne_eq, Nat.reduceEqDiff, not_false_eq_true, ca] at g103
                                    try omega
                                    all_goals
                                      try simp only [zwr_rne, zwr_req, upd_ne, upd_eq, ne_eq, Nat.reduceEqDiff, not_false_eq_true, ca]
                                      refine ⟨by first | assumption | exact vin (by omega) | exact vp_in_I.mpr (by omega), ?_⟩
                                      refine zeq (fun g104 => ?_) (fun g104 => ?_)
                                      · try simp only [zwr_rne, zwr_req, upd_ne, upd_eq, ne_eq, Nat.reduceEqDiff, not_false_eq_true, ca] at g104
                                        try omega
                                        all_goals
                                          try simp only [zwr_rne, zwr_req, upd_ne, upd_eq, ne_eq, Nat.reduceEqDiff, not_false_eq_true, ca]
                                          refine ⟨by first | assumption | exact vin (by omega) | exact vp_in_I.mpr (by omega), ?_⟩
                                          rintro _ rfl
                                          try simp only [zwr_rne, zwr_req, upd_ne, upd_eq, ne_eq, Nat.reduceEqDiff, not_false_eq_true, ca]
                                          refine m_orNone s14 ?_
                                          try simp only [zwr_rne, zwr_req, upd_ne, upd_eq, ne_eq, Nat.reduceEqDiff, not_false_eq_true, ca]
                                          exact ⟨by first | rfl | trivial, hh⟩
                                      · try simp only [zwr_rne, zwr_req, upd_ne, upd_eq, ne_eq, Nat.reduceEqDiff, not_false_eq_true, ca] at g104
                                        try omega
                                        all_goals
                                          try simp only [zwr_rne, zwr_req, upd_ne, upd_eq, ne_eq, Nat.reduceEqDiff, not_false_eq_true, ca]
                                          refine ⟨by first | assumption | exact vin (by omega) | exact vp_in_I.mpr (by omega), ?_⟩
                                          rintro _ rfl
                                          try simp only [zwr_rne, zwr_req, upd_ne, upd_eq, ne_eq, Nat.reduceEqDiff, not_false_eq_true, ca]
                                          refine m_orNone s14 ?_
                                          try simp only [zwr_rne, zwr_req, upd_ne, upd_eq, ne_eq, Nat.reduceEqDiff, not_false_eq_true, ca]
                                          exact ⟨by first | rfl | trivial, hh⟩
                                  · try simp only [zwr_rne, zwr_req, upd_ne, upd_eq, ne_eq, Nat.reduceEqDiff, not_false_eq_true, ca] at g103
                                    try omega
                                    all_goals
                                      try simp only [zwr_rne, zwr_req, upd_ne, upd_eq, ne_eq, Nat.reduceEqDiff, not_false_eq_true, ca]
                                      refine ⟨by first | assumption | exact vin (by omega) | exact vp_in_I.mpr (by omega), ?_⟩
                                      refine zeq (fun g105 => ?_) (fun g105 => ?_)
                                      · try simp only [zwr_rne, zwr_req, upd_ne, upd_eq, ne_eq, Nat.reduceEqDiff, not_false_eq_true, ca] at g105
                                        try omega
                                        all_goals
                                          try simp only [zwr_rne, zwr_req, upd_ne, upd_eq, ne_eq, Nat.reduceEqDiff, not_false_eq_true, ca]
                                          refine ⟨by first | assumption | exact vin (by omega) | exact vp_in_I.mpr (by omega), ?_⟩
                                          refine ⟨by first | assumption | exact vin (by omega) | exact vp_in_I.mpr (by omega), ?_⟩
                                          refine zeq (fun g106 => ?_) (fun g106 => ?_)
                                          · try simp only [zwr_rne, zwr_req, upd_ne, upd_eq, ne_eq, Nat.reduceEqDiff, not_false_eq_true, ca] at g106
                                            try omega
                                            all_goals
                                              try simp only [zwr_rne, zwr_req, upd_ne, upd_eq, ne_eq, Nat.reduceEqDiff, not_false_eq_true, ca]
                                              refine ⟨by first | assumption | exact vin (by omega) | exact vp_in_I.mpr (by omega), ?_⟩
                                              refine zeq (fun g107 => ?_) (fun g107 => ?_)
                                              · try simp only [zwr_rne, zwr_req, upd_ne, upd_eq, ne_eq, Nat.reduceEqDiff, not_false_eq_true, ca] at g107
                                                try omega
                                                all_goals
                                                  try simp only [zwr_rne, zwr_req, upd_ne, upd_eq, ne_eq, Nat.reduceEqDiff, not_false_eq_true, ca]
                                                  refine ⟨by first | assumption | exact vin (by omega) | exact vp_in_I.mpr (by omega), ?_⟩
                                                  rintro _ rfl
                                                  try simp only [zwr_rne, zwr_req, upd_ne, upd_eq, ne_eq, Nat.reduceEqDiff, not_false_eq_true, ca]
                                                  refine m_orNone s14 ?_
                                                  try simp only [zwr_rne, zwr_req, upd_ne, upd_eq, ne_eq, Nat.reduceEqDiff, not_false_eq_true, ca]
                                                  exact ⟨by first | rfl | trivial, hh⟩
                                              · try simp only [zwr_rne, zwr_req, upd_ne, upd_eq, ne_eq, Nat.reduceEqDiff, not_false_eq_true, ca] at g107
                                                try omega
                                                all_goals
                                                  try simp only [zwr_rne, zwr_req, upd_ne, upd_eq, ne_eq, Nat.reduceEqDiff, not_false_eq_true, ca]
                                                  refine ⟨by first | assumption | exact vin (by omega) | exact vp_in_I.mpr (by omega), ?_⟩
                                                  rintro _ rfl
                                                  try simp only [zwr_rne, zwr_req, upd_ne, upd_eq, ne_eq, Nat.reduceEqDiff, not_false_eq_true, ca]
                                                  refine m_orNone s14 ?_
                                                  try simp only [zwr_rne, zwr_req, upd_ne, upd_eq, ne_eq, Nat.reduceEqDiff, not_false_eq_true, ca]
                                                  exact ⟨by first | rfl | trivial, hh⟩
                                          · try simp only [zwr_rne, zwr_req, upd_ne, upd_eq, ne_eq, Nat.reduceEqDiff, not_false_eq_true, ca] at g106
                                            try omega
                                            all_goals
                                              try simp only [zwr_rne, zwr_req, upd_ne, upd_eq, ne_eq, Nat.reduceEqDiff, not_false_eq_true, ca]
                                              exact ⟨by first | rfl | trivial, hh⟩
                                      · try simp only [zwr_rne, zwr_req, upd_ne, upd_eq, ne_eq, Nat.reduceEqDiff, not_false_eq_true, ca] at g105
                                        try omega
                                        all_goals
                                          try simp only [zwr_rne, zwr_req, upd_ne, upd_eq, ne_eq, Nat.reduceEqDiff, not_false_eq_true, ca]
                                          exact ⟨by first | rfl | trivial, hh⟩
                              · try simp only [zwr_rne, zwr_req, upd_ne, upd_eq, ne_eq, Nat.reduceEqDiff, not_false_eq_true, ca] at g102
                                try omega
                                all_goals
                                  try simp only [zwr_rne, zwr_req, upd_ne, upd_eq, ne_eq, Nat.reduceEqDiff, not_false_eq_true, ca]
                                  refine m_isClaim (by first | omega | (simp only [zwr_rne, zwr_req, upd_ne, upd_eq, ne_eq, Nat.reduceEqDiff, not_false_eq_true, ca]; omega)) (fun g108 g108' => ?_) (fun g108 => ?_)
                                  · try simp only [zwr_rne, zwr_req, upd_ne, upd_eq, ne_eq, Nat.reduceEqDiff, not_false_eq_true, ca] at g108
                                    try simp only [zwr_rne, zwr_req, upd_ne, upd_eq, ne_eq, Nat.reduceEqDiff, not_false_eq_true, ca] at g108'
                                    try omega
                                    all_goals
                                      try simp only [one_ne, zero_eq, if_false, if_true, or_true, true_or, or_false, false_or]
                                      try simp only [zwr_rne, zwr_req, upd_ne, upd_eq, ne_eq, Nat.reduceEqDiff, not_false_eq_true, ca]
                                      refine zeq (fun g109 => ?_) (fun g109 => ?_)
                                      · try simp only [zwr_rne, zwr_req, upd_ne, upd_eq, ne_eq, Nat.reduceEqDiff, not_false_eq_true, ca] at g109
                                        try omega
                                        all_goals
                                          try simp only [zwr_rne, zwr_req, upd_ne, upd_eq, ne_eq, Nat.reduceEqDiff, not_false_eq_true, ca]
                                          refine ⟨by first | assumption | exact vin (by omega) | exact vp_in_I.mpr (by omega), ?_⟩
                                          refine zeq (fun g110 => ?_) (fun g110 => ?_)
                                          · try simp only [zwr_rne, zwr_req, upd_ne, upd_eq, ne_eq, Nat.reduceEqDiff, not_false_eq_true, ca] at g110
                                            try omega
                                            all_goals
                                              try simp only [zwr_rne, zwr_req, upd_ne, upd_eq, ne_eq, Nat.reduceEqDiff, not_false_eq_true, ca]
                                              refine ⟨by first | assumption | exact vin (by omega) | exact vp_in_I.mpr (by omega), ?_⟩
                                              rintro _ rfl
                                              try simp only [zwr_rne, zwr_req, upd_ne, upd_eq, ne_eq, Nat.reduceEqDiff, not_false_eq_true, ca]
                                              refine m_orNone s14 ?_
                                              try simp only [zwr_rne, zwr_req, upd_ne, upd_eq, ne_eq, Nat.reduceEqDiff, not_false_eq_true, ca]
                                              exact ⟨by first | rfl | trivial, hh⟩
                                          · try simp only [zwr_rne, zwr_req, upd_ne, upd_eq, ne_eq, Nat.reduceEqDiff, not_false_eq_true, ca] at g110
                                            try omega
                                            all_goals
                                              try simp only [zwr_rne, zwr_req, upd_ne, upd_eq, ne_eq, Nat.reduceEqDiff, not_false_eq_true, ca]
                                              refine ⟨by first | assumption | exact vin (by omega) | exact vp_in_I.mpr (by omega), ?_⟩
                                              rintro _ rfl
                                              try simp only [zwr_rne, zwr_req, upd_ne, upd_eq, ne_eq, Nat.reduceEqDiff, not_false_eq_true, ca]
                                              refine m_orNone s14 ?_
                                              try simp only [zwr_rne, zwr_req, upd_ne, upd_eq, ne_eq, Nat.reduceEqDiff, not_false_eq_true, ca]
                                              exact ⟨by first | rfl | trivial, hh⟩
                                      · try simp only [zwr_rne, zwr_req, upd_ne, upd_eq, ne_eq, Nat.reduceEqDiff, not_false_eq_true, ca] at g109
                                        try omega
                                        all_goals
                                          try simp only [zwr_rne, zwr_req, upd_ne, upd_eq, ne_eq, Nat.reduceEqDiff, not_false_eq_true, ca]
                                          refine ⟨by first | assumption | exact vin (by omega) | exact vp_in_I.mpr (by omega), ?_⟩
                                          refine zeq (fun g111 => ?_) (fun g111 => ?_)
                                          · try simp only [zwr_rne, zwr_req, upd_ne, upd_eq, ne_eq, Nat.reduceEqDiff, not_false_eq_true, ca] at g111
                                            try omega
                                            all_goals
                                              try simp only [zwr_rne, zwr_req, upd_ne, upd_eq, ne_eq, Nat.reduceEqDiff, not_false_eq_true, ca]
                                              refine ⟨by first | assumption | exact vin (by omega) | exact vp_in_I.mpr (by omega), ?_⟩
                                              refine ⟨by first | assumption | exact vin (by omega) | exact vp_in_I.mpr (by omega), ?_⟩
                                              refine zeq (fun g112 => ?_) (fun g112 => ?_)
                                              · try simp only [zwr_rne, zwr_req, upd_ne, upd_eq, ne_eq, Nat.reduceEqDiff, not_false_eq_true, ca] at g112
                                                try omega
                                                all_goals
                                                  try simp only [zwr_rne, zwr_req, upd_ne, upd_eq, ne_eq, Nat.reduceEqDiff, not_false_eq_true, ca]
                                                  refine ⟨by first | assumption | exact vin (by omega) | exact vp_in_I.mpr (by omega), ?_⟩
                                                  refine zeq (fun g113 => ?_) (fun g113 => ?_)
                                                  · try simp only [zwr_rne, zwr_req, upd_ne, upd_eq, ne_eq, Nat.reduceEqDiff, not_false_eq_true, ca] at g113
                                                    try omega
                                                    all_goals
                                                      try simp only [zwr_rne, zwr_req, upd_ne, upd_eq, ne_eq, Nat.reduceEqDiff, not_false_eq_true, ca]
                                                      refine ⟨by first | assumption | exact vin (by omega) | exact vp_in_I.mpr (by omega), ?_⟩
                                                      rintro _ rfl
                                                      try simp only [zwr_rne, zwr_req, upd_ne, upd_eq, ne_eq, Nat.reduceEqDiff, not_false_eq_true, ca]
                                                      refine m_orNone s14 ?_
                                                      try simp only [zwr_rne, zwr_req, upd_ne, upd_eq, ne_eq, Nat.reduceEqDiff, not_false_eq_true, ca]
                                                      exact ⟨by first | rfl | trivial, hh⟩
                                                  · try simp only [zwr_rne, zwr_req, upd_ne, upd_eq, ne_eq, Nat.reduceEqDiff, not_false_eq_true, ca] at g113
                                                    try omega
                                                    all_goals
                                                      try simp only [zwr_rne, zwr_req, upd_ne, upd_eq, ne_eq, Nat.reduceEqDiff, not_false_eq_true, ca]
                                                      refine ⟨by first | assumption | exact vin (by omega) | exact vp_in_I.mpr (by omega), ?_⟩
                                                      rintro _ rfl
                                                      try simp only [zwr_rne, zwr_req, upd_ne, upd_eq, ne_eq, Nat.reduceEqDiff, not_false_eq_true, ca]
                                                      refine m_orNone s14 ?_
                                                      try simp only [zwr_rne, zwr_req, upd_ne, upd_eq, ne_eq, Nat.reduceEqDiff, not_false_eq_true, ca]
                                                      exact ⟨by first | rfl | trivial, hh⟩
                                              · try simp only [zwr_rne, zwr_req, upd_ne, upd_eq, ne_eq, Nat.reduceEqDiff, not_false_eq_true, ca] at g112
                                                try omega
                                                all_goals
                                                  try simp only [zwr_rne, zwr_req, upd_ne, upd_eq, ne_eq, Nat.reduceEqDiff, not_false_eq_true, ca]
                                                  exact ⟨by first | rfl | trivial, hh⟩
                                          · try simp only [zwr_rne, zwr_req, upd_ne, upd_eq, ne_eq, Nat.reduceEqDiff, not_false_eq_true, ca] at g111
                                            try omega
                                            all_goals
                                              try simp only [zwr_rne, zwr_req, upd_ne, upd_eq, ne_eq, Nat.reduceEqDiff, not_false_eq_true, ca]
                                              exact ⟨by first | rfl | trivial, hh⟩
                                  · try simp only [zwr_rne, zwr_req, upd_ne, upd_eq, ne_eq, Nat.reduceEqDiff, not_false_eq_true, ca] at g108
                                    try omega
                                    all_goals
                                      try simp only [one_ne, zero_eq, if_false, if_true, or_true, true_or, or_false, false_or]
                                      try simp only [zwr_rne, zwr_req, upd_ne, upd_eq, ne_eq, Nat.reduceEqDiff, not_false_eq_true, ca]
                                      exact ⟨by first | rfl | trivial, hh⟩
                          · try simp only [zwr_rne, zwr_req, upd_ne, upd_eq, ne_eq, Nat.reduceEqDiff, not_false_eq_true, ca] at g101
                            try omega
                            all_goals
                              try simp only [one_ne, zero_eq, if_false, if_true, or_true, true_or, or_false, false_or]
                              try simp only [zwr_rne, zwr_req, upd_ne, upd_eq, ne_eq, Nat.reduceEqDiff, not_false_eq_true, ca]
                              exact ⟨by first | rfl | trivial, hh⟩
              · try simp only [zwr_rne, zwr_req, upd_ne, upd_eq, ne_eq, Nat.reduceEqDiff, not_false_eq_true, ca] at g58
                try omega
                all_goals
                  try simp only [one_ne, zero_eq, if_false, if_true, or_true, true_or, or_false, false_or]
                  refine en_X12_charge ?_
                  try simp only [zwr_rne, zwr_req, upd_ne, upd_eq, ne_eq, Nat.reduceEqDiff, not_false_eq_true, ca]
                  refine m_isAsset (by first | omega | (simp only [zwr_rne, zwr_req, upd_ne, upd_eq, ne_eq, Nat.reduceEqDiff, not_false_eq_true, ca]; omega)) (fun g114 g114' => ?_) (fun g114 => ?_)
                  · try simp only [zwr_rne, zwr_req, upd_ne, upd_eq, ne_eq, Nat.reduceEqDiff, not_false_eq_true, ca] at g114
                    try simp only [zwr_rne, zwr_req, upd_ne, upd_eq, ne_eq, Nat.reduceEqDiff, not_false_eq_true, ca] at g114'
                    try omega
                    all_goals
                      try simp only [one_ne, zero_eq, if_false, if_true, or_true, true_or, or_false, false_or]
                      try simp only [zwr_rne, zwr_req, upd_ne, upd_eq, ne_eq, Nat.reduceEqDiff, not_false_eq_true, ca]
                      refine zeq (fun g115 => ?_) (fun g115 => ?_)
                      · try simp only [zwr_rne, zwr_req, upd_ne, upd_eq, ne_eq, Nat.reduceEqDiff, not_false_eq_true, ca] at g115
                        try omega
                        all_goals
                          try simp only [zwr_rne, zwr_req, upd_ne, upd_eq, ne_eq, Nat.reduceEqDiff, not_false_eq_true, ca]
                          refine zeq (fun g116 => ?_) (fun g116 => ?_)
                          · try simp only [zwr_rne, zwr_req, upd_ne, upd_eq, ne_eq, Nat.reduceEqDiff, not_false_eq_true, ca] at g116
                            try omega
                            all_goals
                              try simp only [zwr_rne, zwr_req, upd_ne, upd_eq, ne_eq, Nat.reduceEqDiff, not_false_eq_true, ca]
                              refine ⟨by first | assumption | exact vin (by omega) | exact vp_in_I.mpr (by omega), ?_⟩
                              refine zeq (fun g117 => ?_) (fun g117 => ?_)
                              · try simp only [zwr_rne, zwr_req, upd_ne, upd_eq, ne_eq, Nat.reduceEqDiff, not_false_eq_true, ca] at g117
                                try omega
                                all_goals
                                  try simp only [zwr_rne, zwr_req, upd_ne, upd_eq, ne_eq, Nat.reduceEqDiff, not_false_eq_true, ca]
                                  refine ⟨by first | assumption | exact vin (by omega) | exact vp_in_I.mpr (by omega), ?_⟩
                                  rintro _ rfl
                                  try simp only [zwr_rne, zwr_req, upd_ne, upd_eq, ne_eq, Nat.reduceEqDiff, not_false_eq_true, ca]
                                  refine m_orNone s14 ?_
                                  try simp only [zwr_rne, zwr_req, upd_ne, upd_eq, ne_eq, Nat.reduceEqDiff, not_false_eq_true, ca]
                                  exact ⟨by first | rfl | trivial, hh⟩
                              · try simp only [zwr_rne, zwr_req, upd_ne, upd_eq, ne_eq, Nat.reduceEqDiff, not_false_eq_true, ca] at g117
                                try omega
                                all_goals
                                  try simp only [zwr_rne, zwr_req, upd_ne, upd_eq, ne_eq, Nat.reduceEqDiff, not_false_eq_true, ca]
                                  refine ⟨by first | assumption | exact vin (by omega) | exact vp_in_I.mpr (by omega), ?_⟩
                                  rintro _ rfl
                                  try simp only [zwr_rne, zwr_req, upd_ne, upd_eq, ne_eq, Nat.reduceEqDiff, not_false_eq_true, ca]
                                  refine m_orNone s14 ?_
                                  try simp only [zwr_rne, zwr_req, upd_ne, upd_eq, ne_eq, Nat.reduceEqDiff, not_false_eq_true, ca]
                                  exact ⟨by first | rfl | trivial, hh⟩
                          · try simp only [zwr_rne, zwr_req, upd_ne, upd_eq, ne_eq, Nat.reduceEqDiff, not_false_eq_true, ca] at g116
                            try omega
                            all_goals
                              try simp only [zwr_rne, zwr_req, upd_ne, upd_eq, ne_eq, Nat.reduceEqDiff, not_false_eq_true, ca]
                              refine ⟨by first | assumption | exact vin (by omega) | exact vp_in_I.mpr (by omega), ?_⟩
                              refine zeq (fun g118 => ?_) (fun g118 => ?_)
                              · try simp only [zwr_rne, zwr_req, upd_ne, upd_eq, ne_eq, Nat.reduceEqDiff, not_false_eq_true, ca] at g118
                                try omega
                                all_goals
                                  try simp only [zwr_rne, zwr_req, upd_ne, upd_eq, ne_eq, Nat.reduceEqDiff, not_false_eq_true, ca]
                                  refine ⟨by first | assumption | exact vin (by omega) | exact vp_in_I.mpr (by omega), ?_⟩
                                  refine ⟨by first | assumption | exact vin (by omega) | exact vp_in_I.mpr (by omega), ?_⟩
                                  refine zeq (fun g119 => ?_) (fun g119 => ?_)
                                  · try simp only [zwr_rne, zwr_req, upd_ne, upd_eq, ne_eq, Nat.reduceEqDiff, not_false_eq_true, ca] at g119
                                    try omega
                                    all_goals
                                      try simp only [zwr_rne, zwr_req, upd_ne, upd_eq, ne_eq, Nat.reduceEqDiff, not_false_eq_true, ca]
                                      refine ⟨by first | assumption | exact vin (by omega) | exact vp_in_I.mpr (by omega), ?_⟩
                                      refine zeq (fun g120 => ?_) (fun g120 => ?_)
                                      · try simp only [zwr_rne, zwr_req, upd_ne, upd_eq, ne_eq, Nat.reduceEqDiff, not_false_eq_true, ca] at g120
                                        try omega
                                        all_goals
                                          try simp only [zwr_rne, zwr_req, upd_ne, upd_eq, ne_eq, Nat.reduceEqDiff, not_false_eq_true, ca]
                                          refine ⟨by first | assumption | exact vin (by omega) | exact vp_in_I.mpr (by omega), ?_⟩
                                          rintro _ rfl
                                          try simp only [zwr_rne, zwr_req, upd_ne, upd_eq, ne_eq, Nat.reduceEqDiff, not_false_eq_true, ca]
                                          refine m_orNone s14 ?_
                                          try simp only [zwr_rne, zwr_req, upd_ne, upd_eq, ne_eq, Nat.reduceEqDiff, not_false_eq_true, ca]
                                          exact ⟨by first | rfl | trivial, hh⟩
                                      · try simp only [zwr_rne, zwr_req, upd_ne, upd_eq, ne_eq, Nat.reduceEqDiff, not_false_eq_true, ca] at g120
                                        try omega
                                        all_goals
                                          try simp only [zwr_rne, zwr_req, upd_ne, upd_eq, ne_eq, Nat.reduceEqDiff, not_false_eq_true, ca]
                                          refine ⟨by first | assumption | exact vin (by omega) | exact vp_in_I.mpr (by omega), ?_⟩
                                          rintro _ rfl
                                          try simp only [zwr_rne, zwr_req, upd_ne, upd_eq, ne_eq, Nat.reduceEqDiff, not_false_eq_true, ca]
                                          refine m_orNone s14 ?_
                                          try simp only [zwr_rne, zwr_req, upd_ne, upd_eq, ne_eq, Nat.reduceEqDiff, not_false_eq_true, ca]
                                          exact ⟨by first | rfl | trivial, hh⟩
                                  · try simp only [zwr_rne, zwr_req, upd_ne, upd_eq, ne_eq, Nat.reduceEqDiff, not_false_eq_true, ca] at g119
                                    try omega
                                    all_goals
                                      try simp only [zwr_rne, zwr_req, upd_ne, upd_eq, ne_eq, Nat.reduceEqDiff, not_false_eq_true, ca]
                                      exact ⟨by first | rfl | trivial, hh⟩
                              · try simp only [zwr_rne, zwr_req, upd_ne, upd_eq, ne_eq, Nat.reduceEqDiff, not_false_eq_true, ca] at g118
                                try omega
                                all_goals
                                  try simp only [zwr_rne, zwr_req, upd_ne, upd_eq, ne_eq, Nat.reduceEqDiff, not_false_eq_true, ca]
                                  exact ⟨by first | rfl | trivial, hh⟩
                      · try simp only [zwr_rne, zwr_req, upd_ne, upd_eq, ne_eq, Nat.reduceEqDiff, not_false_eq_true, ca] at g115
                        try omega
                        all_goals
                          try simp only [zwr_rne, zwr_req, upd_ne, upd_eq, ne_eq, Nat.reduceEqDiff, not_false_eq_true, ca]
                          refine m_isClaim (by first | omega | (simp only [zwr_rne, zwr_req, upd_ne, upd_eq, ne_eq, Nat.reduceEqDiff, not_false_eq_true, ca]; omega)) (fun g121 g121' => ?_) (fun g121 => ?_)
                          · try simp only [zwr_rne, zwr_req, upd_ne, upd_eq, ne_eq, Nat.reduceEqDiff, not_false_eq_true, ca] at g121
                            try simp only [zwr_rne, zwr_req, upd_ne, upd_eq, ne_eq, Nat.reduceEqDiff, not_false_eq_true, ca] at g121'
                            try omega
                            all_goals
                              try simp only [one_ne, zero_eq, if_false, if_true, or_true, true_or, or_false, false_or]
                              try simp only [zwr_rne, zwr_req, upd_ne, upd_eq, ne_eq, Nat.reduceEqDiff, not_false_eq_true, ca]
                              refine zeq (fun g122 => ?_) (fun g122 => ?_)
                              · try simp only [zwr_rne, zwr_req, upd_ne, upd_eq, ne_eq, Nat.reduceEqDiff, not_false_eq_true, ca] at g122
                                try omega
                                all_goals
                                  try simp only [zwr_rne, zwr_req, upd_ne, upd_eq, ne_eq, Nat.reduceEqDiff, not_false_eq_true, ca]
                                  refine ⟨by first | assumption | exact vin (by omega) | exact vp_in_I.mpr (by omega), ?_⟩
                                  refine zeq (fun g123 => ?_) (fun g123 => ?_)
                                  · try simp only [zwr_rne, zwr_req, upd_ne, upd_eq, ne_eq, Nat.reduceEqDiff, not_false_eq_true, ca] at g123
                                    try omega
                                    all_goals
                                      try simp only [zwr_rne, zwr_req, upd_ne, upd_eq, ne_eq, Nat.reduceEqDiff, not_false_eq_true, ca]
                                      refine ⟨by first | assumption | exact vin (by omega) | exact vp_in_I.mpr (by omega), ?_⟩
                                      rintro _ rfl
                                      try simp only [zwr_rne, zwr_req, upd_ne, upd_eq, ne_eq, Nat.reduceEqDiff, not_false_eq_true, ca]
                                      refine m_orNone s14 ?_
                                      try simp only [zwr_rne, zwr_req, upd_ne, upd_eq, ne_eq, Nat.reduceEqDiff, not_false_eq_true, ca]
                                      exact ⟨by first | rfl | trivial, hh⟩
                                  · try simp only [zwr_rne, zwr_req, upd_ne, upd_eq, ne_eq, Nat.reduceEqDiff, not_false_eq_true, ca] at g123
                                    try omega
                                    all_goals
                                      try simp only [zwr_rne, zwr_req, upd_ne, upd_eq, ne_eq, Nat.reduceEqDiff, not_false_eq_true, ca]
                                      refine ⟨by first | assumption | exact vin (by omega) | exact vp_in_I.mpr (by omega), ?_⟩
                                      rintro _ rfl
                                      try simp only [zwr_rne, zwr_req, upd_ne, upd_eq, ne_eq, Nat.reduceEqDiff, not_false_eq_true, ca]
                                      refine m_orNone s14 ?_
                                      try simp only [zwr_rne, zwr_req, upd_ne, upd_eq, ne_eq, Nat.reduceEqDiff, not_false_eq_true, ca]
                                      exact ⟨by first | rfl | trivial, hh⟩
                              · try simp only [zwr_rne, zwr_req, upd_ne, upd_eq, ne_eq, Nat.reduceEqDiff, not_false_eq_true, ca] at g122
                                try omega
                                all_goals
                                  try simp only [zwr_rne, zwr_req, upd_ne, upd_eq, ne_eq, Nat.reduceEqDiff, not_false_eq_true, ca]
                                  refine ⟨by first | assumption | exact vin (by omega) | exact vp_in_I.mpr (by omega), ?_⟩
                                  refine zeq (fun g124 => ?_) (fun g124 => ?_)
                                  · try simp only [zwr_rne, zwr_req, upd_ne, upd_eq, ne_eq, Nat.reduceEqDiff, not_false_eq_true, ca] at g124
                                    try omega
                                    all_goals
                                      try simp only [zwr_rne, zwr_req, upd_ne, upd_eq, ne_eq, Nat.reduceEqDiff, not_false_eq_true, ca]
                                      refine ⟨by first | assumption | exact vin (by omega) | exact vp_in_I.mpr (by omega), ?_⟩
                                      refine ⟨by first | assumption | exact vin (by omega) | exact vp_in_I.mpr (by omega), ?_⟩
                                      refine zeq (fun g125 => ?_) (fun g125 => ?_)
                                      · try simp only [zwr_rne, zwr_req, upd_ne, upd_eq, ne_eq, Nat.reduceEqDiff, not_false_eq_true, ca] at g125
                                        try omega
                                        all_goals
                                          try simp only [zwr_rne, zwr_req, upd_ne, upd_eq, ne_eq, Nat.reduceEqDiff, not_false_eq_true, ca]
                                          refine ⟨by first | assumption | exact vin (by omega) | exact vp_in_I.mpr (by omega), ?_⟩
                                          refine zeq (fun g126 => ?_) (fun g126 => ?_)
                                          · try simp only [zwr_rne, zwr_req, upd_ne, upd_eq, ne_eq, Nat.reduceEqDiff, not_false_eq_true, ca] at g126
                                            try omega
                                            all_goals
                                              try simp only [zwr_rne, zwr_req, upd_ne, upd_eq, ne_eq, Nat.reduceEqDiff, not_false_eq_true, ca]
                                              refine ⟨by first | assumption | exact vin (by omega) | exact vp_in_I.mpr (by omega), ?_⟩
                                              rintro _ rfl
                                              try simp only [zwr_rne, zwr_req, upd_ne, upd_eq, ne_eq, Nat.reduceEqDiff, not_false_eq_true, ca]
                                              refine m_orNone s14 ?_
                                              try simp only [zwr_rne, zwr_req, upd_ne, upd_eq, ne_eq, Nat.reduceEqDiff, not_false_eq_true, ca]
                                              exact ⟨by first | rfl | trivial, hh⟩
                                          · try simp only [zwr_rne, zwr_req, upd_ne, upd_eq, ne_eq, Nat.reduceEqDiff, not_false_eq_true, ca] at g126
                                            try omega
                                            all_goals
                                              try simp only [zwr_rne, zwr_req, upd_ne, upd_eq, ne_eq, Nat.reduceEqDiff, not_false_eq_true, ca]
                                              refine ⟨by first | assumption | exact vin (by omega) | exact vp_in_I.mpr (by omega), ?_⟩
                                              rintro _ rfl
                                              try simp only [zwr_rne, zwr_req, upd_ne, upd_eq, ne_eq, Nat.reduceEqDiff, not_false_eq_true, ca]
                                              refine m_orNone s14 ?_
                                              try simp only [zwr_rne, zwr_req, upd_ne, upd_eq, ne_eq, Nat.reduceEqDiff, not_false_eq_true, ca]
                                              exact ⟨by first | rfl | trivial, hh⟩
                                      · try simp only [zwr_rne, zwr_req, upd_ne, upd_eq, ne_eq, Nat.reduceEqDiff, not_false_eq_true, ca] at g125
                                        try omega
                                        all_goals
                                          try simp only [zwr_rne, zwr_req, upd_ne, upd_eq, ne_eq, Nat.reduceEqDiff, not_false_eq_true, ca]
                                          exact ⟨by first | rfl | trivial, hh⟩
                                  · try simp only [zwr_rne, zwr_req, upd_ne, upd_eq, ne_eq, Nat.reduceEqDiff, not_false_eq_true, ca] at g124
                                    try omega
                                    all_goals
                                      try simp only [zwr_rne, zwr_req, upd_ne, upd_eq, ne_eq, Nat.reduceEqDiff, not_false_eq_true, ca]
                                      exact ⟨by first | rfl | trivial, hh⟩
                          · try simp only [zwr_rne, zwr_req, upd_ne, upd_eq, ne_eq, Nat.reduceEqDiff, not_false_eq_true, ca] at g121
                            try omega
                            all_goals
                              try simp only [one_ne, zero_eq, if_false, if_true, or_true, true_or, or_false, false_or]
                              try simp only [zwr_rne, zwr_req, upd_ne, upd_eq, ne_eq, Nat.reduceEqDiff, not_false_eq_true, ca]
                              exact ⟨by first | rfl | trivial, hh⟩
                  · try simp only [zwr_rne, zwr_req, upd_ne, upd_eq, ne_eq, Nat.reduceEqDiff, not_false_eq_true, ca] at g114
                    try omega
                    all_goals
                      try simp only [one_ne, zero_eq, if_false, if_true, or_true, true_or, or_false, false_or]
                      try simp only [zwr_rne, zwr_req, upd_ne, upd_eq, ne_eq, Nat.reduceEqDiff, not_false_eq_true, ca]
                      exact ⟨by first | rfl | trivial, hh⟩
      · try simp only [zwr_rne, zwr_req, upd_ne, upd_eq, ne_eq, Nat.reduceEqDiff, not_false_eq_true, ca] at g1
        try omega
        all_goals
          try simp only [one_ne, zero_eq, if_false, if_true, or_true, true_or, or_false, false_or]
          refine en_X12_charge ?_
          try simp only [zwr_rne, zwr_req, upd_ne, upd_eq, ne_eq, Nat.reduceEqDiff, not_false_eq_true, ca]
          refine m_isAsset (by first | omega | (simp only [zwr_rne, zwr_req, upd_ne, upd_eq, ne_eq, Nat.reduceEqDiff, not_false_eq_true, ca]; omega)) (fun g127 g127' => ?_) (fun g127 => ?_)
          · try simp only [zwr_rne, zwr_req, upd_ne, upd_eq, ne_eq, Nat.reduceEqDiff, not_false_eq_true, ca] at g127
            try simp only [zwr_rne, zwr_req, upd_ne, upd_eq, ne_eq, Nat.reduceEqDiff, not_false_eq_true, ca] at g127'
            try omega
            all_goals
              try simp only [one_ne, zero_eq, if_false, if_true, or_true, true_or, or_false, false_or]
              try simp only [zwr_rne, zwr_req, upd_ne, upd_eq, ne_eq, Nat.reduceEqDiff, not_false_eq_true, ca]
              refine zeq (fun g128 => ?_) (fun g128 => ?_)
              · try simp only [zwr_rne, zwr_req, upd_ne, upd_eq, ne_eq, Nat.reduceEqDiff, not_false_eq_true, ca] at g128
                try omega
                all_goals
                  try simp only [zwr_rne, zwr_req, upd_ne, upd_eq, ne_eq, Nat.reduceEqDiff, not_false_eq_true, ca]
                  refine zeq (fun g129 => ?_) (fun g129 => ?_)
                  · try simp only [zwr_rne, zwr_req, upd_ne, upd_eq, ne_eq, Nat.reduceEqDiff, not_false_eq_true, ca] at g129
                    try omega
                    all_goals
                      try simp only [zwr_rne, zwr_req, upd_ne, upd_eq, ne_eq, Nat.reduceEqDiff, not_false_eq_true, ca]
                      refine ⟨by first | assumption | exact vin (by omega) | exact vp_in_I.mpr (by omega), ?_⟩
                      refine zeq (fun g130 => ?_) (fun g130 => ?_)
                      · try simp only [zwr_rne, zwr_req, upd_ne, upd_eq, ne_eq, Nat.reduceEqDiff, not_false_eq_true, ca] at g130
                        try omega
                        all_goals
                          try simp only [zwr_rne, zwr_req, upd_ne, upd_eq, ne_eq, Nat.reduceEqDiff, not_false_eq_true, ca]
                          refine ⟨by first | assumption | exact vin (by omega) | exact vp_in_I.mpr (by omega), ?_⟩
                          rintro _ rfl
                          try simp only [zwr_rne, zwr_req, upd_ne, upd_eq, ne_eq, Nat.reduceEqDiff, not_false_eq_true, ca]
                          refine m_orNone s14 ?_
                          try simp only [zwr_rne, zwr_req, upd_ne, upd_eq, ne_eq, Nat.reduceEqDiff, not_false_eq_true, ca]
                          exact ⟨by first | rfl | trivial, hh⟩
                      · try simp only [zwr_rne, zwr_req, upd_ne, upd_eq, ne_eq, Nat.reduceEqDiff, not_false_eq_true, ca] at g130
                        try omega
                        all_goals
                          try simp only [zwr_rne, zwr_req, upd_ne, upd_eq, ne_eq, Nat.reduceEqDiff, not_false_eq_true, ca]
                          refine ⟨by first | assumption | exact vin (by omega) | exact vp_in_I.mpr (by omega), ?_⟩
                          rintro _ rfl
                          try simp only [zwr_rne, zwr_req, upd_ne, upd_eq, ne_eq, Nat.reduceEqDiff, not_false_eq_true, ca]
                          refine m_orNone s14 ?_
                          try simp only [zwr_rne, zwr_req, upd_ne, upd_eq, ne_eq, Nat.reduceEqDiff, not_false_eq_true, ca]
                          exact ⟨by first | rfl | trivial, hh⟩
                  · try simp only [zwr_rne, zwr_req, upd_ne, upd_eq, ne_eq, Nat.reduceEqDiff, not_false_eq_true, ca] at g129
                    try omega
                    all_goals
                      try simp only [zwr_rne, zwr_req, upd_ne, upd_eq, ne_eq, Nat.reduceEqDiff, not_false_eq_true, ca]
                      refine ⟨by first | assumption | exact vin (by omega) | exact vp_in_I.mpr (by omega), ?_⟩
                      refine zeq (fun g131 => ?_) (fun g131 => ?_)
                      · try simp only [zwr_rne, zwr_req, upd_ne, upd_eq, ne_eq, Nat.reduceEqDiff, not_false_eq_true, ca] at g131
                        try omega
                        all_goals
                          try simp only [zwr_rne, zwr_req, upd_ne, upd_eq, ne_eq, Nat.reduceEqDiff, not_false_eq_true, ca]
                          refine ⟨by first | assumption | exact vin (by omega) | exact vp_in_I.mpr (by omega), ?_⟩
                          refine ⟨by first | assumption | exact vin (by omega) | exact vp_in_I.mpr (by omega), ?_⟩
                          refine zeq (fun g132 => ?_) (fun g132 => ?_)
                          · try simp only [zwr_rne, zwr_req, upd_ne, upd_eq, ne_eq, Nat.reduceEqDiff, not_false_eq_true, ca] at g132
                            try omega
                            all_goals
                              try simp only [zwr_rne, zwr_req, upd_ne, upd_eq, ne_eq, Nat.reduceEqDiff, not_false_eq_true, ca]
                              refine ⟨by first | assumption | exact vin (by omega) | exact vp_in_I.mpr (by omega), ?_⟩
                              refine zeq (fun g133 => ?_) (fun g133 => ?_)
                              · try simp only [zwr_rne, zwr_req, upd_ne, upd_eq, ne_eq, Nat.reduceEqDiff, not_false_eq_true, ca] at g133
                                try omega
                                all_goals
                                  try simp only [zwr_rne, zwr_req, upd_ne, upd_eq, ne_eq, Nat.reduceEqDiff, not_false_eq_true, ca]
                                  refine ⟨by first | assumption | exact vin (by omega) | exact vp_in_I.mpr (by omega), ?_⟩
                                  rintro _ rfl
                                  try simp only [zwr_rne, zwr_req, upd_ne, upd_eq, ne_eq, Nat.reduceEqDiff, not_false_eq_true, ca]
                                  refine m_orNone s14 ?_
                                  try simp only [zwr_rne, zwr_req, upd_ne, upd_eq, ne_eq, Nat.reduceEqDiff, not_false_eq_true, ca]
                                  exact ⟨by first | rfl | trivial, hh⟩
                              · try simp only [zwr_rne, zwr_req, upd_ne, upd_eq, ne_eq, Nat.reduceEqDiff, not_false_eq_true, ca] at g133
                                try omega
                                all_goals
                                  try simp only [zwr_rne, zwr_req, upd_ne, upd_eq, ne_eq, Nat.reduceEqDiff, not_false_eq_true, ca]
                                  refine ⟨by first | assumption | exact vin (by omega) | exact vp_in_I.mpr (by omega), ?_⟩
                                  rintro _ rfl
                                  try simp only [zwr_rne, zwr_req, upd_ne, upd_eq, ne_eq, Nat.reduceEqDiff, not_false_eq_true, ca]
                                  refine m_orNone s14 ?_
                                  try simp only [zwr_rne, zwr_req, upd_ne, upd_eq, ne_eq, Nat.reduceEqDiff, not_false_eq_true, ca]
                                  exact ⟨by first | rfl | trivial, hh⟩
                          · try simp only [zwr_rne, zwr_req, upd_ne, upd_eq, ne_eq, Nat.reduceEqDiff, not_false_eq_true, ca] at g132
                            try omega
                            all_goals
                              try simp only [zwr_rne, zwr_req, upd_ne, upd_eq, ne_eq, Nat.reduceEqDiff, not_false_eq_true, ca]
                              exact ⟨by first | rfl | trivial, hh⟩
                      · try simp only [zwr_rne, zwr_req, upd_ne, upd_eq, ne_eq, Nat.reduceEqDiff, not_false_eq_true, ca] at g131
                        try omega
                        all_goals
                          try simp only [zwr_rne, zwr_req, upd_ne, upd_eq, ne_eq, Nat.reduceEqDiff, not_false_eq_true, ca]
                          exact ⟨by first | rfl | trivial, hh⟩
              · try simp only [zwr_rne, zwr_req, upd_ne, upd_eq, ne_eq, Nat.reduceEqDiff, not_false_eq_true, ca] at g128
                try omega
                all_goals
                  try simp only [zwr_rne, zwr_req, upd_ne, upd_eq, ne_eq, Nat.reduceEqDiff, not_false_eq_true, ca]
                  refine m_isClaim (by first | omega | (simp only [zwr_rne, zwr_req, upd_ne, upd_eq, ne_eq, Nat.reduceEqDiff, not_false_eq_true, ca]; omega)) (fun g134 g134' => ?_) (fun g134 => ?_)
                  · try simp only [zwr_rne, zwr_req, upd_ne, upd_eq, ne_eq, Nat.reduceEqDiff, not_false_eq_true, ca] at g134
                    try simp only [zwr_rne, zwr_req, upd_ne, upd_eq, ne_eq, Nat.reduceEqDiff, not_false_eq_true, ca] at g134'
                    try omega
                    all_goals
                      try simp only [one_ne, zero_eq, if_false, if_true, or_true, true_or, or_false, false_or]
                      try simp only [zwr_rne, zwr_req, upd_ne, upd_eq, ne_eq, Nat.reduceEqDiff, not_false_eq_true, ca]
                      refine zeq (fun g135 => ?_) (fun g135 => ?_)
                      · try simp only [zwr_rne, zwr_req, upd_ne, upd_eq, ne_eq, Nat.reduceEqDiff, not_false_eq_true, ca] at g135
                        try omega
                        all_goals
                          try simp only [zwr_rne, zwr_req, upd_ne, upd_eq, ne_eq, Nat.reduceEqDiff, not_false_eq_true, ca]
                          refine ⟨by first | assumption | exact vin (by omega) | exact vp_in_I.mpr (by omega), ?_⟩
                          refine zeq (fun g136 => ?_) (fun g136 => ?_)
                          · try simp only [zwr_rne, zwr_req, upd_ne, upd_eq, ne_eq, Nat.reduceEqDiff, not_false_eq_true, ca] at g136
                            try omega
                            all_goals
                              try simp only [zwr_rne, zwr_req, upd_ne, upd_eq, ne_eq, Nat.reduceEqDiff, not_false_eq_true, ca]
                              refine ⟨by first | assumption | exact vin (by omega) | exact vp_in_I.mpr (by omega), ?_⟩
                              rintro _ rfl
                              try simp only [zwr_rne, zwr_req, upd_ne, upd_eq, ne_eq, Nat.reduceEqDiff, not_false_eq_true, ca]
                              refine m_orNone s14 ?_
                              try simp only [zwr_rne, zwr_req, upd_ne, upd_eq, ne_eq, Nat.reduceEqDiff, not_false_eq_true, ca]
                              exact ⟨by first | rfl | trivial, hh⟩
                          · try simp only [zwr_rne, zwr_req, upd_ne, upd_eq, ne_eq, Nat.reduceEqDiff, not_false_eq_true, ca] at g136
                            try omega
                            all_goals
                              try simp only [zwr_rne, zwr_req, upd_ne, upd_eq, ne_eq, Nat.reduceEqDiff, not_false_eq_true, ca]
                              refine ⟨by first | assumption | exact vin (by omega) | exact vp_in_I.mpr (by omega), ?_⟩
                              rintro _ rfl
                              try simp only [zwr_rne, zwr_req, upd_ne, upd_eq, ne_eq, Nat.reduceEqDiff, not_false_eq_true, ca]
                              refine m_orNone s14 ?_
                              try simp only [zwr_rne, zwr_req, upd_ne, upd_eq, ne_eq, Nat.reduceEqDiff, not_false_eq_true, ca]
                              exact ⟨by first | rfl | trivial, hh⟩
                      · try simp only [zwr_rne, zwr_req, upd_ne, upd_eq, ne_eq, Nat.reduceEqDiff, not_false_eq_true, ca] at g135
                        try omega
                        all_goals
                          try simp only [zwr_rne, zwr_req, upd_ne, upd_eq, ne_eq, Nat.reduceEqDiff, not_false_eq_true, ca]
                          refine ⟨by first | assumption | exact vin (by omega) | exact vp_in_I.mpr (by omega), ?_⟩
                          refine zeq (fun g137 => ?_) (fun g137 => ?_)
                          · try simp only [zwr_rne, zwr_req, upd_ne, upd_eq, ne_eq, Nat.reduceEqDiff, not_false_eq_true, ca] at g137
                            try omega
                            all_goals
                              try simp only [zwr_rne, zwr_req, upd_ne, upd_eq, ne_eq, Nat.reduceEqDiff, not_false_eq_true, ca]
                              refine ⟨by first | assumption | exact vin (by omega) | exact vp_in_I.mpr (by omega), ?_⟩
                              refine ⟨by first | assumption | exact vin (by omega) | exact vp_in_I.mpr (by omega), ?_⟩
                              refine zeq (fun g138 => ?_) (fun g138 => ?_)
                              · try simp only [zwr_rne, zwr_req, upd_ne, upd_eq, ne_eq, Nat.reduceEqDiff, not_false_eq_true, ca] at g138
                                try omega
                                all_goals
                                  try simp only [zwr_rne, zwr_req, upd_ne, upd_eq, ne_eq, Nat.reduceEqDiff, not_false_eq_true, ca]
                                  refine ⟨by first | assumption | exact vin (by omega) | exact vp_in_I.mpr (by omega), ?_⟩
                                  refine zeq (fun g139 => ?_) (fun g139 => ?_)
                                  · try simp only [zwr_rne, zwr_req, upd_ne, upd_eq, ne_eq, Nat.reduceEqDiff, not_false_eq_true, ca] at g139
                                    try omega
                                    all_goals
                                      try simp only [zwr_rne, zwr_req, upd_ne, upd_eq, ne_eq, Nat.reduceEqDiff, not_false_eq_true, ca]
                                      refine ⟨by first | assumption | exact vin (by omega) | exact vp_in_I.mpr (by omega), ?_⟩
                                      rintro _ rfl
                                      try simp only [zwr_rne, zwr_req, upd_ne, upd_eq, ne_eq, Nat.reduceEqDiff, not_false_eq_true, ca]
                                      refine m_orNone s14 ?_
                                      try simp only [zwr_rne, zwr_req, upd_ne, upd_eq, ne_eq, Nat.reduceEqDiff, not_false_eq_true, ca]
                                      exact ⟨by first | rfl | trivial, hh⟩
                                  · try simp only [zwr_rne, zwr_req, upd_ne, upd_eq, ne_eq, Nat.reduceEqDiff, not_false_eq_true, ca] at g139
                                    try omega
                                    all_goals
                                      try simp only [zwr_rne, zwr_req, upd_ne, upd_eq, ne_eq, Nat.reduceEqDiff, not_false_eq_true, ca]
                                      refine ⟨by first | assumption | exact vin (by omega) | exact vp_in_I.mpr (by omega), ?_⟩
                                      rintro _ rfl
                                      try simp only [zwr_rne, zwr_req, upd_ne, upd_eq, ne_eq, Nat.reduceEqDiff, not_false_eq_true, ca]
                                      refine m_orNone s14 ?_
                                      try simp only [zwr_rne, zwr_req, upd_ne, upd_eq, ne_eq, Nat.reduceEqDiff, not_false_eq_true, ca]
                                      exact ⟨by first | rfl | trivial, hh⟩
                              · try simp only [zwr_rne, zwr_req, upd_ne, upd_eq, ne_eq, Nat.reduceEqDiff, not_false_eq_true, ca] at g138
                                try omega
                                all_goals
                                  try simp only [zwr_rne, zwr_req, upd_ne, upd_eq, ne_eq, Nat.reduceEqDiff, not_false_eq_true, ca]
                                  exact ⟨by first | rfl | trivial, hh⟩
                          · try simp only [zwr_rne, zwr_req, upd_ne, upd_eq, ne_eq, Nat.reduceEqDiff, not_false_eq_true, ca] at g137
                            try omega
                            all_goals
                              try simp only [zwr_rne, zwr_req, upd_ne, upd_eq, ne_eq, Nat.reduceEqDiff, not_false_eq_true, ca]
                              exact ⟨by first | rfl | trivial, hh⟩
                  · try simp only [zwr_rne, zwr_req, upd_ne, upd_eq, ne_eq, Nat.reduceEqDiff, not_false_eq_true, ca] at g134
                    try omega
                    all_goals
                      try simp only [one_ne, zero_eq, if_false, if_true, or_true, true_or, or_false, false_or]
                      try simp only [zwr_rne, zwr_req, upd_ne, upd_eq, ne_eq, Nat.reduceEqDiff, not_false_eq_true, ca]
                      exact ⟨by first | rfl | trivial, hh⟩
          · try simp only [zwr_rne, zwr_req, upd_ne, upd_eq, ne_eq, Nat.reduceEqDiff, not_false_eq_true, ca] at g127
            try omega
            all_goals
              try simp only [one_ne, zero_eq, if_false, if_true, or_true, true_or, or_false, false_or]
              try simp only [zwr_rne, zwr_req, upd_ne, upd_eq, ne_eq, Nat.reduceEqDiff, not_false_eq_true, ca]
              exact ⟨by first | rfl | trivial, hh⟩
    · have tc := tin hc2
      have cc : (nI c).toNatClampNeg = c := cln hc2
      have vc : vp_in (nI c) 24 := vin (by omega)
      obtain ⟨q1, q2, q3, q4, q5, q6, q7, q8, q9, q10, q11, q12⟩ := kcl.1 c hc
      have fq1 : (σ 2 c).toInt = (σ 78 c).toInt := by rw [q1]
      have fq2 : (σ 3 c).toInt = (σ 79 c).toInt := by rw [q2]
      refine en_X11_charge ?_
      try simp only [zwr_rne, zwr_req, upd_ne, upd_eq, ne_eq, Nat.reduceEqDiff, not_false_eq_true, ca, cc]
      refine c_hasA (fun g1 g1' => ?_) (fun g1 => ?_)
      · try simp only [zwr_rne, zwr_req, upd_ne, upd_eq, ne_eq, Nat.reduceEqDiff, not_false_eq_true, ca, cc] at g1
        try simp only [zwr_rne, zwr_req, upd_ne, upd_eq, ne_eq, Nat.reduceEqDiff, not_false_eq_true, ca, cc] at g1'
        try omega
        all_goals
          try simp only [one_ne, zero_eq, if_false, if_true, or_true, true_or, or_false, false_or]
          refine zeq (fun g2 => ?_) (fun g2 => ?_)
          · try simp only [zwr_rne, zwr_req, upd_ne, upd_eq, ne_eq, Nat.reduceEqDiff, not_false_eq_true, ca, cc] at g2
            try omega
            all_goals
              refine zeq (fun g3 => ?_) (fun g3 => ?_)
              · try simp only [zwr_rne, zwr_req, upd_ne, upd_eq, ne_eq, Nat.reduceEqDiff, not_false_eq_true, ca, cc] at g3
                try omega
                all_goals
                  refine ⟨by first | assumption | exact vin (by omega) | exact vp_in_I.mpr (by omega), ?_⟩
                  refine ⟨by first | assumption | exact vin (by omega) | exact vp_in_I.mpr (by omega), ?_⟩
                  rintro _ rfl
                  try simp only [zwr_rne, zwr_req, upd_ne, upd_eq, ne_eq, Nat.reduceEqDiff, not_false_eq_true, ca, cc]
                  refine c_changed ?_
                  try simp only [zwr_rne, zwr_req, upd_ne, upd_eq, ne_eq, Nat.reduceEqDiff, not_false_eq_true, ca, cc]
                  refine en_X12_charge ?_
                  try simp only [zwr_rne, zwr_req, upd_ne, upd_eq, ne_eq, Nat.reduceEqDiff, not_false_eq_true, ca, cc]
                  refine m_isAsset (by first | omega | (simp only [zwr_rne, zwr_req, upd_ne, upd_eq, ne_eq, Nat.reduceEqDiff, not_false_eq_true, ca, cc]; omega)) (fun g4 g4' => ?_) (fun g4 => ?_)
                  · try simp only [zwr_rne, zwr_req, upd_ne, upd_eq, ne_eq, Nat.reduceEqDiff, not_false_eq_true, ca, cc] at g4
                    try simp only [zwr_rne, zwr_req, upd_ne, upd_eq, ne_eq, Nat.reduceEqDiff, not_false_eq_true, ca, cc] at g4'
                    try omega
                    all_goals
                      try simp only [one_ne, zero_eq, if_false, if_true, or_true, true_or, or_false, false_or]
                      try simp only [zwr_rne, zwr_req, upd_ne, upd_eq, ne_eq, Nat.reduceEqDiff, not_false_eq_true, ca, cc]
                      refine zeq (fun g5 => ?_) (fun g5 => ?_)
                      · try simp only [zwr_rne, zwr_req, upd_ne, upd_eq, ne_eq, Nat.reduceEqDiff, not_false_eq_true, ca, cc] at g5
                        try omega
                        all_goals
                          try simp only [zwr_rne, zwr_req, upd_ne, upd_eq, ne_eq, Nat.reduceEqDiff, not_false_eq_true, ca, cc]
                          refine zeq (fun g6 => ?_) (fun g6 => ?_)
                          · try simp only [zwr_rne, zwr_req, upd_ne, upd_eq, ne_eq, Nat.reduceEqDiff, not_false_eq_true, ca, cc] at g6
                            try omega
                            all_goals
                              try simp only [zwr_rne, zwr_req, upd_ne, upd_eq, ne_eq, Nat.reduceEqDiff, not_false_eq_true, ca, cc]
                              refine ⟨by first | assumption | exact vin (by omega) | exact vp_in_I.mpr (by omega), ?_⟩
                              refine zeq (fun g7 => ?_) (fun g7 => ?_)
                              · try simp only [zwr_rne, zwr_req, upd_ne, upd_eq, ne_eq, Nat.reduceEqDiff, not_false_eq_true, ca, cc] at g7
                                try omega
                                all_goals
                                  try simp only [zwr_rne, zwr_req, upd_ne, upd_eq, ne_eq, Nat.reduceEqDiff, not_false_eq_true, ca, cc]
                                  refine ⟨by first | assumption | exact vin (by omega) | exact vp_in_I.mpr (by omega), ?_⟩
                                  rintro _ rfl
                                  try simp only [zwr_rne, zwr_req, upd_ne, upd_eq, ne_eq, Nat.reduceEqDiff, not_false_eq_true, ca, cc]
                                  refine m_orNone s14 ?_
                                  try simp only [zwr_rne, zwr_req, upd_ne, upd_eq, ne_eq, Nat.reduceEqDiff, not_false_eq_true, ca, cc]
                                  refine ⟨s5, ?_⟩
                                  unfold Rall
                                  simp only [zwr_rne, zwr_req, upd_ne, upd_eq, ne_eq, Nat.reduceEqDiff, not_false_eq_true]
                                  exact ⟨⟨k1, k2, k3, k4, k5, k6, k7, k8, k9⟩, kas.setC (enc_nn (by omega)).symm (by omega) (by omega), kcl, kda, kdh, kpl, kkp, ksh, kwt, ktp, klw, ksd, Rwx_stale, Rwx_stale⟩
                              · try simp only [zwr_rne, zwr_req, upd_ne, upd_eq, ne_eq, Nat.reduceEqDiff, not_false_eq_true, ca, cc] at g7
                                try omega
                                all_goals
                                  try simp only [zwr_rne, zwr_req, upd_ne, upd_eq, ne_eq, Nat.reduceEqDiff, not_false_eq_true, ca, cc]
                                  refine ⟨by first | assumption | exact vin (by omega) | exact vp_in_I.mpr (by omega), ?_⟩
                                  rintro _ rfl
                                  try simp only [zwr_rne, zwr_req, upd_ne, upd_eq, ne_eq, Nat.reduceEqDiff, not_false_eq_true, ca, cc]
                                  refine m_orNone s14 ?_
                                  try simp only [zwr_rne, zwr_req, upd_ne, upd_eq, ne_eq, Nat.reduceEqDiff, not_false_eq_true, ca, cc]
                                  refine ⟨s5, ?_⟩
                                  unfold Rall
                                  simp only [zwr_rne, zwr_req, upd_ne, upd_eq, ne_eq, Nat.reduceEqDiff, not_false_eq_true]
                                  exact ⟨⟨k1, k2, k3, k4, k5, k6, k7, k8, k9⟩, kas.setC (enc_nn (by omega)).symm (by omega) (by omega), kcl, kda, kdh, kpl, kkp, ksh, kwt, ktp, klw, ksd, Rwx_stale, Rwx_stale⟩
                          · try simp only [zwr_rne, zwr_req, upd_ne, upd_eq, ne_eq, Nat.reduceEqDiff, not_false_eq_true, ca, cc] at g6
                            try omega
                            all_goals
                              try simp only [zwr_rne, zwr_req, upd_ne, upd_eq, ne_eq, Nat.reduceEqDiff, not_false_eq_true, ca, cc]
                              refine ⟨by first | assumption | exact vin (by omega) | exact vp_in_I.mpr (by omega), ?_⟩
                              refine zeq (fun g8 => ?_) (fun g8 => ?_)
                              · try simp only [zwr_rne, zwr_req, upd_ne, upd_eq, ne_eq, Nat.reduceEqDiff, not_false_eq_true, ca, cc] at g8
                                try omega
                                all_goals
                                  try simp only [zwr_rne, zwr_req, upd_ne, upd_eq, ne_eq, Nat.reduceEqDiff, not_false_eq_true, ca, cc]
                                  refine ⟨by first | assumption | exact vin (by omega) | exact vp_in_I.mpr (by omega), ?_⟩
                                  refine ⟨by first | assumption | exact vin (by omega) | exact vp_in_I.mpr (by omega), ?_⟩
                                  refine zeq (fun g9 => ?_) (fun g9 => ?_)
                                  · try simp only [zwr_rne, zwr_req, upd_ne, upd_eq, ne_eq, Nat.reduceEqDiff, not_false_eq_true, ca, cc] at g9
                                    try omega
                                    all_goals
                                      try simp only [zwr_rne, zwr_req, upd_ne, upd_eq, ne_eq, Nat.reduceEqDiff, not_false_eq_true, ca, cc]
                                      refine ⟨by first | assumption | exact vin (by omega) | exact vp_in_I.mpr (by omega), ?_⟩
                                      refine zeq (fun g10 => ?_) (fun g10 => ?_)
                                      · try simp only [zwr_rne, zwr_req, upd_ne, upd_eq, ne_eq, Nat.reduceEqDiff, not_false_eq_true, ca, cc] at g10
                                        try omega
                                        all_goals
                                          try simp only [zwr_rne, zwr_req, upd_ne, upd_eq, ne_eq, Nat.reduceEqDiff, not_false_eq_true, ca, cc]
                                          refine ⟨by first | assumption | exact vin (by omega) | exact vp_in_I.mpr (by omega), ?_⟩
                                          rintro _ rfl
                                          try simp only [zwr_rne, zwr_req, upd_ne, upd_eq, ne_eq, Nat.reduceEqDiff, not_false_eq_true, ca, cc]
                                          refine m_orNone s14 ?_
                                          try simp only [zwr_rne, zwr_req, upd_ne, upd_eq, ne_eq, Nat.reduceEqDiff, not_false_eq_true, ca, cc]
                                          refine ⟨s5, ?_⟩
                                          unfold Rall
                                          simp only [zwr_rne, zwr_req, upd_ne, upd_eq, ne_eq, Nat.reduceEqDiff, not_false_eq_true]
                                          exact ⟨⟨k1, k2, k3, k4, k5, k6, k7, k8, k9⟩, kas.setC (enc_nn (by omega)).symm (by omega) (by omega), kcl, kda, kdh, kpl, kkp, ksh, kwt, ktp, klw, ksd, Rwx_stale, Rwx_stale⟩
                                      · try simp only [zwr_rne, zwr_req, upd_ne, upd_eq, ne_eq, Nat.reduceEqDiff, not_false_eq_true, ca, cc] at g10
                                        try omega
                                        all_goals
                                          try simp only [zwr_rne, zwr_req, upd_ne, upd_eq, ne_eq, Nat.reduceEqDiff, not_false_eq_true, ca, cc]
                                          refine ⟨by first | assumption | exact vin (by omega) | exact vp_in_I.mpr (by omega), ?_⟩
                                          rintro _ rfl
                                          try simp only [zwr_rne, zwr_req, upd_ne, upd_eq, ne_eq, Nat.reduceEqDiff, not_false_eq_true, ca, cc]
                                          refine m_orNone s14 ?_
                                          try simp only [zwr_rne, zwr_req, upd_ne, upd_eq, ne_eq, Nat.reduceEqDiff, not_false_eq_true, ca, cc]
                                          refine ⟨s5, ?_⟩
                                          unfold Rall
                                          simp only [zwr_rne, zwr_req, upd_ne, upd_eq, ne_eq, Nat.reduceEqDiff, not_false_eq_true]
                                          exact ⟨⟨k1, k2, k3, k4, k5, k6, k7, k8, k9⟩, kas.setC (enc_nn (by omega)).symm (by omega) (by omega), kcl, kda, kdh, kpl, kkp, ksh, kwt, ktp, klw, ksd, Rwx_stale, Rwx_stale⟩
                                  · try simp only [zwr_rne, zwr_req, upd_ne, upd_eq, ne_eq, Nat.reduceEqDiff, not_false_eq_true, ca, cc] at g9
                                    try omega
                                    all_goals
                                      try simp only [zwr_rne, zwr_req, upd_ne, upd_eq, ne_eq, Nat.reduceEqDiff, not_false_eq_true, ca, cc]
                                      exact ⟨by first | rfl | trivial, hh⟩
                              · try simp only [zwr_rne, zwr_req, upd_ne, upd_eq, ne_eq, Nat.reduceEqDiff, not_false_eq_true, ca, cc] at g8
                                try omega
                                all_goals
                                  try simp only [zwr_rne, zwr_req, upd_ne, upd_eq, ne_eq, Nat.reduceEqDiff, not_false_eq_true, ca, cc]
                                  exact ⟨by first | rfl | trivial, hh⟩
                      · try simp only [zwr_rne, zwr_req, upd_ne, upd_eq, ne_eq, Nat.reduceEqDiff, not_false_eq_true, ca, cc] at g5
                        try omega
                        all_goals
                          try simp only [zwr_rne, zwr_req, upd_ne, upd_eq, ne_eq, Nat.reduceEqDiff, not_false_eq_true, ca, cc]
                          refine m_isClaim (by first | omega | (simp only [zwr_rne, zwr_req, upd_ne, upd_eq, ne_eq, Nat.reduceEqDiff, not_false_eq_true, ca, cc]; omega)) (fun g11 g11' => ?_) (fun g11 => ?_)
                          · try simp only [zwr_rne, zwr_req, upd_ne, upd_eq, ne_eq, Nat.reduceEqDiff, not_false_eq_true, ca, cc] at g11
                            try simp only [zwr_rne, zwr_req, upd_ne, upd_eq, ne_eq, Nat.reduceEqDiff, not_false_eq_true, ca, cc] at g11'
                            try omega
                            all_goals
                              try simp only [one_ne, zero_eq, if_false, if_true, or_true, true_or, or_false, false_or]
                              try simp only [zwr_rne, zwr_req, upd_ne, upd_eq, ne_eq, Nat.reduceEqDiff, not_false_eq_true, ca, cc]
                              refine zeq (fun g12 => ?_) (fun g12 => ?_)
                              · try simp only [zwr_rne, zwr_req, upd_ne, upd_eq, ne_eq, Nat.reduceEqDiff, not_false_eq_true, ca, cc] at g12
                                try omega
                                all_goals
                                  try simp only [zwr_rne, zwr_req, upd_ne, upd_eq, ne_eq, Nat.reduceEqDiff, not_false_eq_true, ca, cc]
                                  refine ⟨by first | assumption | exact vin (by omega) | exact vp_in_I.mpr (by omega), ?_⟩
                                  refine zeq (fun g13 => ?_) (fun g13 => ?_)
                                  · try simp only [zwr_rne, zwr_req, upd_ne, upd_eq, ne_eq, Nat.reduceEqDiff, not_false_eq_true, ca, cc] at g13
                                    try omega
                                    all_goals
                                      try simp only [zwr_rne, zwr_req, upd_ne, upd_eq, ne_eq, Nat.reduceEqDiff, not_false_eq_true, ca, cc]
                                      refine ⟨by first | assumption | exact vin (by omega) | exact vp_in_I.mpr (by omega), ?_⟩
                                      rintro _ rfl
                                      try simp only [zwr_rne, zwr_req, upd_ne, upd_eq, ne_eq, Nat.reduceEqDiff, not_false_eq_true, ca, cc]
                                      refine m_orNone s14 ?_
                                      try simp only [zwr_rne, zwr_req, upd_ne, upd_eq, ne_eq, Nat.reduceEqDiff, not_false_eq_true, ca, cc]
                                      refine ⟨s5, ?_⟩
                                      unfold Rall
                                      simp only [zwr_rne, zwr_req, upd_ne, upd_eq, ne_eq, Nat.reduceEqDiff, not_false_eq_true]
                                      exact ⟨⟨k1, k2, k3, k4, k5, k6, k7, k8, k9⟩, kas.setC (enc_nn (by omega)).symm (by omega) (by omega), kcl, kda, kdh, kpl, kkp, ksh, kwt, ktp, klw, ksd, Rwx_stale, Rwx_stale⟩
                                  · try simp only [zwr_rne, zwr_req, upd_ne, upd_eq, ne_eq, Nat.reduceEqDiff, not_false_eq_true, ca, cc] at g13
                                    try omega
                                    all_goals
                                      try simp only [zwr_rne, zwr_req, upd_ne, upd_eq, ne_eq, Nat.reduceEqDiff, not_false_eq_true, ca, cc]
                                      refine ⟨by first | assumption | exact vin (by omega) | exact vp_in_I.mpr (by omega), ?_⟩
                                      rintro _ rfl
                                      try simp only [zwr_rne, zwr_req, upd_ne, upd_eq, ne_eq, Nat.reduceEqDiff, not_false_eq_true, ca, cc]
                                      refine m_orNone s14 ?_
                                      try simp only [zwr_rne, zwr_req, upd_ne, upd_eq, ne_eq, Nat.reduceEqDiff, not_false_eq_true, ca, cc]
                                      refine ⟨s5, ?_⟩
                                      unfold Rall
                                      simp only [zwr_rne, zwr_req, upd_ne, upd_eq, ne_eq, Nat.reduceEqDiff, not_false_eq_true]
                                      exact ⟨⟨k1, k2, k3, k4, k5, k6, k7, k8, k9⟩, kas.setC (enc_nn (by omega)).symm (by omega) (by omega), kcl, kda, kdh, kpl, kkp, ksh, kwt, ktp, klw, ksd, Rwx_stale, Rwx_stale⟩
                              · try simp only [zwr_rne, zwr_req, upd_ne, upd_eq, ne_eq, Nat.reduceEqDiff, not_false_eq_true, ca, cc] at g12
                                try omega
                                all_goals
                                  try simp only [zwr_rne, zwr_req, upd_ne, upd_eq, ne_eq, Nat.reduceEqDiff, not_false_eq_true, ca, cc]
                                  refine ⟨by first | assumption | exact vin (by omega) | exact vp_in_I.mpr (by omega), ?_⟩
                                  refine zeq (fun g14 => ?_) (fun g14 => ?_)
                                  · try simp only [zwr_rne, zwr_req, upd_ne, upd_eq, ne_eq, Nat.reduceEqDiff, not_false_eq_true, ca, cc] at g14
                                    try omega
                                    all_goals
                                      try simp only [zwr_rne, zwr_req, upd_ne, upd_eq, ne_eq, Nat.reduceEqDiff, not_false_eq_true, ca, cc]
                                      refine ⟨by first | assumption | exact vin (by omega) | exact vp_in_I.mpr (by omega), ?_⟩
                                      refine ⟨by first | assumption | exact vin (by omega) | exact vp_in_I.mpr (by omega), ?_⟩
                                      refine zeq (fun g15 => ?_) (fun g15 => ?_)
                                      · try simp only [zwr_rne, zwr_req, upd_ne, upd_eq, ne_eq, Nat.reduceEqDiff, not_false_eq_true, ca, cc] at g15
                                        try omega
                                        all_goals
                                          try simp only [zwr_rne, zwr_req, upd_ne, upd_eq, ne_eq, Nat.reduceEqDiff, not_false_eq_true, ca, cc]
                                          refine ⟨by first | assumption | exact vin (by omega) | exact vp_in_I.mpr (by omega), ?_⟩
                                          refine zeq (fun g16 => ?_) (fun g16 => ?_)
                                          · try simp only [zwr_rne, zwr_req, upd_ne, upd_eq, ne_eq, Nat.reduceEqDiff, not_false_eq_true, ca, cc] at g16
                                            try omega
                                            all_goals
                                              try simp only [zwr_rne, zwr_req, upd_ne, upd_eq, ne_eq, Nat.reduceEqDiff, not_false_eq_true, ca, cc]
                                              refine ⟨by first | assumption | exact vin (by omega) | exact vp_in_I.mpr (by omega), ?_⟩
                                              rintro _ rfl
                                              try simp only [zwr_rne, zwr_req, upd_ne, upd_eq, ne_eq, Nat.reduceEqDiff, not_false_eq_true, ca, cc]
                                              refine m_orNone s14 ?_
                                              try simp only [zwr_rne, zwr_req, upd_ne, upd_eq, ne_eq, Nat.reduceEqDiff, not_false_eq_true, ca, cc]
                                              refine ⟨s5, ?_⟩
                                              unfold Rall
                                              simp only [zwr_rne, zwr_req, upd_ne, upd_eq, ne_eq, Nat.reduceEqDiff, not_false_eq_true]
                                              exact ⟨⟨k1, k2, k3, k4, k5, k6, k7, k8, k9⟩, kas.setC (enc_nn (by omega)).symm (by omega) (by omega), kcl, kda, kdh, kpl, kkp, ksh, kwt, ktp, klw, ksd, Rwx_stale, Rwx_stale⟩
                                          · try simp only [zwr_rne, zwr_req, upd_ne, upd_eq, ne_eq, Nat.reduceEqDiff, not_false_eq_true, ca, cc] at g16
                                            try omega
                                            all_goals
                                              try simp only [zwr_rne, zwr_req, upd_ne, upd_eq, ne_eq, Nat.reduceEqDiff, not_false_eq_true, ca, cc]
                                              refine ⟨by first | assumption | exact vin (by omega) | exact vp_in_I.mpr (by omega), ?_⟩
                                              rintro _ rfl
                                              try simp only [zwr_rne, zwr_req, upd_ne, upd_eq, ne_eq, Nat.reduceEqDiff, not_false_eq_true, ca, cc]
                                              refine m_orNone s14 ?_
                                              try simp only [zwr_rne, zwr_req, upd_ne, upd_eq, ne_eq, Nat.reduceEqDiff, not_false_eq_true, ca, cc]
                                              refine ⟨s5, ?_⟩
                                              unfold Rall
                                              simp only [zwr_rne, zwr_req, upd_ne, upd_eq, ne_eq, Nat.reduceEqDiff, not_false_eq_true]
                                              exact ⟨⟨k1, k2, k3, k4, k5, k6, k7, k8, k9⟩, kas.setC (enc_nn (by omega)).symm (by omega) (by omega), kcl, kda, kdh, kpl, kkp, ksh, kwt, ktp, klw, ksd, Rwx_stale, Rwx_stale⟩
                                      · try simp only [zwr_rne, zwr_req, upd_ne, upd_eq, ne_eq, Nat.reduceEqDiff, not_false_eq_true, ca, cc] at g15
                                        try omega
                                        all_goals
                                          try simp only [zwr_rne, zwr_req, upd_ne, upd_eq, ne_eq, Nat.reduceEqDiff, not_false_eq_true, ca, cc]
                                          exact ⟨by first | rfl | trivial, hh⟩
                                  · try simp only [zwr_rne, zwr_req, upd_ne, upd_eq, ne_eq, Nat.reduceEqDiff, not_false_eq_true, ca, cc] at g14
                                    try omega
                                    all_goals
                                      try simp only [zwr_rne, zwr_req, upd_ne, upd_eq, ne_eq, Nat.reduceEqDiff, not_false_eq_true, ca, cc]
                                      exact ⟨by first | rfl | trivial, hh⟩
                          · try simp only [zwr_rne, zwr_req, upd_ne, upd_eq, ne_eq, Nat.reduceEqDiff, not_false_eq_true, ca, cc] at g11
                            try omega
                            all_goals
                              try simp only [one_ne, zero_eq, if_false, if_true, or_true, true_or, or_false, false_or]
                              try simp only [zwr_rne, zwr_req, upd_ne, upd_eq, ne_eq, Nat.reduceEqDiff, not_false_eq_true, ca, cc]
                              exact ⟨by first | rfl | trivial, hh⟩
                  · try simp only [zwr_rne, zwr_req, upd_ne, upd_eq, ne_eq, Nat.reduceEqDiff, not_false_eq_true, ca, cc] at g4
                    try omega
                    all_goals
                      try simp only [one_ne, zero_eq, if_false, if_true, or_true, true_or, or_false, false_or]
                      try simp only [zwr_rne, zwr_req, upd_ne, upd_eq, ne_eq, Nat.reduceEqDiff, not_false_eq_true, ca, cc]
                      exact ⟨by first | rfl | trivial, hh⟩
              · try simp only [zwr_rne, zwr_req, upd_ne, upd_eq, ne_eq, Nat.reduceEqDiff, not_false_eq_true, ca, cc] at g3
                try omega
                all_goals
                  refine ⟨by first | assumption | exact vin (by omega) | exact vp_in_I.mpr (by omega), ?_⟩
                  refine zeq (fun g17 => ?_) (fun g17 => ?_)
                  · try simp only [zwr_rne, zwr_req, upd_ne, upd_eq, ne_eq, Nat.reduceEqDiff, not_false_eq_true, ca, cc] at g17
                    try omega
                    all_goals
                      refine ⟨by first | assumption | exact vin (by omega) | exact vp_in_I.mpr (by omega), ?_⟩
                      refine ⟨by first | assumption | exact vin (by omega) | exact vp_in_I.mpr (by omega), ?_⟩
                      refine zeq (fun g18 => ?_) (fun g18 => ?_)
                      · try simp only [zwr_rne, zwr_req, upd_ne, upd_eq, ne_eq, Nat.reduceEqDiff, not_false_eq_true, ca, cc] at g18
                        try omega
                        all_goals
                          refine ⟨by first | assumption | exact vin (by omega) | exact vp_in_I.mpr (by omega), ?_⟩
                          refine ⟨by first | assumption | exact vin (by omega) | exact vp_in_I.mpr (by omega), ?_⟩
                          rintro _ rfl
                          try simp only [zwr_rne, zwr_req, upd_ne, upd_eq, ne_eq, Nat.reduceEqDiff, not_false_eq_true, ca, cc]
                          refine c_changed ?_
                          try simp only [zwr_rne, zwr_req, upd_ne, upd_eq, ne_eq, Nat.reduceEqDiff, not_false_eq_true, ca, cc]
                          refine en_X12_charge ?_
                          try simp only [zwr_rne, zwr_req, upd_ne, upd_eq, ne_eq, Nat.reduceEqDiff, not_false_eq_true, ca, cc]
                          refine m_isAsset (by first | omega | (simp only [zwr_rne, zwr_req, upd_ne, upd_eq, ne_eq, Nat.reduceEqDiff, not_false_eq_true, ca, cc]; omega)) (fun g19 g19' => ?_) (fun g19 => ?_)
                          · try simp only [zwr_rne, zwr_req, upd_ne, upd_eq, ne_eq, Nat.reduceEqDiff, not_false_eq_true, ca, cc] at g19
                            try simp only [zwr_rne, zwr_req, upd_ne, upd_eq, ne_eq, Nat.reduceEqDiff, not_false_eq_true, ca, cc] at g19'
                            try omega
                            all_goals
                              try simp only [one_ne, zero_eq, if_false, if_true, or_true, true_or, or_false, false_or]
                              try simp only [zwr_rne, zwr_req, upd_ne, upd_eq, ne_eq, Nat.reduceEqDiff, not_false_eq_true, ca, cc]
                              refine zeq (fun g20 => ?_) (fun g20 => ?_)
                              · try simp only [zwr_rne, zwr_req, upd_ne, upd_eq, ne_eq, Nat.reduceEqDiff, not_false_eq_true, ca, cc] at g20
                                try omega
                                all_goals
                                  try simp only [zwr_rne, zwr_req, upd_ne, upd_eq, ne_eq, Nat.reduceEqDiff, not_false_eq_true, ca, cc]
                                  refine zeq (fun g21 => ?_) (fun g21 => ?_)
                                  · try simp only [zwr_rne, zwr_req, upd_ne, upd_eq, ne_eq, Nat.reduceEqDiff, not_false_eq_true, ca, cc] at g21
                                    try omega
                                    all_goals
                                      try simp only [zwr_rne, zwr_req, upd_ne, upd_eq, ne_eq, Nat.reduceEqDiff, not_false_eq_true, ca, cc]
                                      refine ⟨by first | assumption | exact vin (by omega) | exact vp_in_I.mpr (by omega), ?_⟩
                                      refine zeq (fun g22 => ?_) (fun g22 => ?_)
                                      · try simp only [zwr_rne, zwr_req, upd_ne, upd_eq, ne_eq, Nat.reduceEqDiff, not_false_eq_true, ca, cc] at g22
                                        try omega
                                        all_goals
                                          try simp only [zwr_rne, zwr_req, upd_ne, upd_eq, ne_eq, Nat.reduceEqDiff, not_false_eq_true, ca, cc]
                                          refine ⟨by first | assumption | exact vin (by omega) | exact vp_in_I.mpr (by omega), ?_⟩
                                          rintro _ rfl
                                          try simp only [zwr_rne, zwr_req, upd_ne, upd_eq, ne_eq, Nat.reduceEqDiff, not_false_eq_true, ca, cc]
                                          refine m_orNone s14 ?_
                                          try simp only [zwr_rne, zwr_req, upd_ne, upd_eq, ne_eq, Nat.reduceEqDiff, not_false_eq_true, ca, cc]
                                          refine ⟨s5, ?_⟩
                                          unfold Rall
                                          simp only [zwr_rne, zwr_req, upd_ne, upd_eq, ne_eq, Nat.reduceEqDiff, not_false_eq_true]
                                          exact ⟨⟨k1, k2, k3, k4, k5, k6, k7, k8, k9⟩, kas.setC (enc_nn (by omega)).symm (by omega) (by omega), kcl, kda, kdh, kpl, kkp, ksh, kwt, ktp, klw, ksd, Rwx_stale, Rwx_stale⟩
                                      · try simp only [zwr_rne, zwr_req, upd_ne, upd_eq, ne_eq, Nat.reduceEqDiff, not_false_eq_true, ca, cc] at g22
                                        try omega
                                        all_goals
                                          try simp only [zwr_rne, zwr_req, upd_ne, upd_eq, ne_eq, Nat.reduceEqDiff, not_false_eq_true, ca, cc]
                                          refine ⟨by first | assumption | exact vin (by omega) | exact vp_in_I.mpr (by omega), ?_⟩
                                          rintro _ rfl
                                          try simp only [zwr_rne, zwr_req, upd_ne, upd_eq, ne_eq, Nat.reduceEqDiff, not_false_eq_true, ca, cc]
                                          refine m_orNone s14 ?_
                                          try simp only [zwr_rne, zwr_req, upd_ne, upd_eq, ne_eq, Nat.reduceEqDiff, not_false_eq_true, ca, cc]
                                          refine ⟨s5, ?_⟩
                                          unfold Rall
                                          simp only [zwr_rne, zwr_req, upd_ne, upd_eq, ne_eq, Nat.reduceEqDiff, not_false_eq_true]
                                          exact ⟨⟨k1, k2, k3, k4, k5, k6, k7, k8, k9⟩, kas.setC (enc_nn (by omega)).symm (by omega) (by omega), kcl, kda, kdh, kpl, kkp, ksh, kwt, ktp, klw, ksd, Rwx_stale, Rwx_stale⟩
                                  · try simp only [zwr_rne, zwr_req, upd_ne, upd_eq, ne_eq, Nat.reduceEqDiff, not_false_eq_true, ca, cc] at g21
                                    try omega
                                    all_goals
                                      try simp only [zwr_rne, zwr_req, upd_ne, upd_eq, ne_eq, Nat.reduceEqDiff, not_false_eq_true, ca, cc]
                                      refine ⟨by first | assumption | exact vin (by omega) | exact vp_in_I.mpr (by omega), ?_⟩
                                      refine zeq (fun g23 => ?_) (fun g23 => ?_)
                                      · try simp only [zwr_rne, zwr_req, upd_ne, upd_eq, ne_eq, Nat.reduceEqDiff, not_false_eq_true, ca, cc] at g23
                                        try omega
                                        all_goals
                                          try simp only [zwr_rne, zwr_req, upd_ne, upd_eq, ne_eq, Nat.reduceEqDiff, not_false_eq_true, ca, cc]
                                          refine ⟨by first | assumption | exact vin (by omega) | exact vp_in_I.mpr (by omega), ?_⟩
                                          refine ⟨by first | assumption | exact vin (by omega) | exact vp_in_I.mpr (by omega), ?_⟩
                                          refine zeq (fun g24 => ?_) (fun g24 => ?_)
                                          · try simp only [zwr_rne, zwr_req, upd_ne, upd_eq, ne_eq, Nat.reduceEqDiff, not_false_eq_true, ca, cc] at g24
                                            try omega
                                            all_goals
                                              try simp only [zwr_rne, zwr_req, upd_ne, upd_eq, ne_eq, Nat.reduceEqDiff, not_false_eq_true, ca, cc]
                                              refine ⟨by first | assumption | exact vin (by omega) | exact vp_in_I.mpr (by omega), ?_⟩
                                              refine zeq (fun g25 => ?_) (fun g25 => ?_)
                                              · try simp only [zwr_rne, zwr_req, upd_ne, upd_eq, ne_eq, Nat.reduceEqDiff, not_false_eq_true, ca, cc] at g25
                                                try omega
                                                all_goals
                                                  try simp only [zwr_rne, zwr_req, upd_ne, upd_eq, ne_eq, Nat.reduceEqDiff, not_false_eq_true, ca, cc]
                                                  refine ⟨by first | assumption | exact vin (by omega) | exact vp_in_I.mpr (by omega), ?_⟩
                                                  rintro _ rfl
                                                  try simp only [zwr_rne, zwr_req, upd_ne, upd_eq, ne_eq, Nat.reduceEqDiff, not_false_eq_true, ca, cc]
                                                  refine m_orNone s14 ?_
                                                  try simp only [zwr_rne, zwr_req, upd_ne, upd_eq, ne_eq, Nat.reduceEqDiff, not_false_eq_true, ca, cc]
                                                  refine ⟨s5, ?_⟩
                                                  unfold Rall
                                                  simp only [zwr_rne, zwr_req, upd_ne, upd_eq, ne_eq, Nat.reduceEqDiff, not_false_eq_true]
                                                  exact ⟨⟨k1, k2, k3, k4, k5, k6, k7, k8, k9⟩, kas.setC (enc_nn (by omega)).symm (by omega) (by omega), kcl, kda, kdh, kpl, kkp, ksh, kwt, ktp, klw, ksd, Rwx_stale, Rwx_stale⟩
                                              · try simp only [zwr_rne, zwr_req, upd_ne, upd_eq, ne_eq, Nat.reduceEqDiff, not_false_eq_true, ca, cc] at g25
                                                try omega
                                                all_goals
                                                  try simp only [zwr_rne, zwr_req, upd_ne, upd_eq, ne_eq, Nat.reduceEqDiff, not_false_eq_true, ca, cc]
                                                  refine ⟨by first | assumption | exact vin (by omega) | exact vp_in_I.mpr (by omega), ?_⟩
                                                  rintro _ rfl
                                                  try simp only [zwr_rne, zwr_req, upd_ne, upd_eq, ne_eq, Nat.reduceEqDiff, not_false_eq_true, ca, cc]
                                                  refine m_orNone s14 ?_
                                                  try simp only [zwr_rne, zwr_req, upd_ne, upd_eq, ne_eq, Nat.reduceEqDiff, not_false_eq_true, ca, cc]
                                                  refine ⟨s5, ?_⟩
                                                  unfold Rall
                                                  simp only [zwr_rne, zwr_req, upd_ne, upd_eq, ne_eq, Nat.reduceEqDiff, not_false_eq_true]
                                                  exact ⟨⟨k1, k2, k3, k4, k5, k6, k7, k8, k9⟩, kas.setC (enc_nn (by omega)).symm (by omega) (by omega), kcl, kda, kdh, kpl, kkp, ksh, kwt, ktp, klw, ksd, Rwx_stale, Rwx_stale⟩
                                          · try simp only [zwr_rne, zwr_req, upd_ne, upd_eq, ne_eq, Nat.reduceEqDiff, not_false_eq_true, ca, cc] at g24
                                            try omega
                                            all_goals
                                              try simp only [zwr_rne, zwr_req, upd_ne, upd_eq, ne_eq, Nat.reduceEqDiff, not_false_eq_true, ca, cc]
                                              exact ⟨by first | rfl | trivial, hh⟩
                                      · try simp only [zwr_rne, zwr_req, upd_ne, upd_eq, ne_eq, Nat.reduceEqDiff, not_false_eq_true, ca, cc] at g23
                                        try omega
                                        all_goals
                                          try simp only [zwr_rne, zwr_req, upd_ne, upd_eq, ne_eq, Nat.reduceEqDiff, not_false_eq_true, ca, cc]
                                          exact ⟨by first | rfl | trivial, hh⟩
                              · try simp only [zwr_rne, zwr_req, upd_ne, upd_eq, ne_eq, Nat.reduceEqDiff, not_false_eq_true, ca, cc] at g20
                                try omega
                                all_goals
                                  try simp only [zwr_rne, zwr_req, upd_ne, upd_eq, ne_eq, Nat.reduceEqDiff, not_false_eq_true, ca, cc]
                                  refine m_isClaim (by first | omega | (simp only [zwr_rne, zwr_req, upd_ne, upd_eq, ne_eq, Nat.reduceEqDiff, not_false_eq_true, ca, cc]; omega)) (fun g26 g26' => ?_) (fun g26 => ?_)
                                  · try simp only [zwr_rne, zwr_req, upd_ne, upd_eq, ne_eq, Nat.reduceEqDiff, not_false_eq_true, ca, cc] at g26
                                    try simp only [zwr_rne, zwr_req, upd_ne, upd_eq, ne_eq, Nat.reduceEqDiff, not_false_eq_true, ca, cc] at g26'
                                    try omega
                                    all_goals
                                      try simp only [one_ne, zero_eq, if_false, if_true, or_true, true_or, or_false, false_or]
                                      try simp only [zwr_rne, zwr_req, upd_ne, upd_eq, ne_eq, Nat.reduceEqDiff, not_false_eq_true, ca, cc]
                                      refine zeq (fun g27 => ?_) (fun g27 => ?_)
                                      · try simp only [zwr_rne, zwr_req, upd_ne, upd_eq, ne_eq, Nat.reduceEqDiff, not_false_eq_true, ca, cc] at g27
                                        try omega
                                        all_goals
                                          try simp only [zwr_rne, zwr_req, upd_ne, upd_eq, ne_eq, Nat.reduceEqDiff, not_false_eq_true, ca, cc]
                                          refine ⟨by first | assumption | exact vin (by omega) | exact vp_in_I.mpr (by omega), ?_⟩
                                          refine zeq (fun g28 => ?_) (fun g28 => ?_)
                                          · try simp only [zwr_rne, zwr_req, upd_ne, upd_eq, ne_eq, Nat.reduceEqDiff, not_false_eq_true, ca, cc] at g28
                                            try omega
                                            all_goals
                                              try simp only [zwr_rne, zwr_req, upd_ne, upd_eq, ne_eq, Nat.reduceEqDiff, not_false_eq_true, ca, cc]
                                              refine ⟨by first | assumption | exact vin (by omega) | exact vp_in_I.mpr (by omega), ?_⟩
                                              rintro _ rfl
                                              try simp only [zwr_rne, zwr_req, upd_ne, upd_eq, ne_eq, Nat.reduceEqDiff, not_false_eq_true, ca, cc]
                                              refine m_orNone s14 ?_
                                              try simp only [zwr_rne, zwr_req, upd_ne, upd_eq, ne_eq, Nat.reduceEqDiff, not_false_eq_true, ca, cc]
                                              refine ⟨s5, ?_⟩
                                              unfold Rall
                                              simp only [zwr_rne, zwr_req, upd_ne, upd_eq, ne_eq, Nat.reduceEqDiff, not_false_eq_true]
                                              exact ⟨⟨k1, k2, k3, k4, k5, k6, k7, k8, k9⟩, kas.setC (enc_nn (by omega)).symm (by omega) (by omega), kcl, kda, kdh, kpl, kkp, ksh, kwt, ktp, klw, ksd, Rwx_stale, Rwx_stale⟩
                                          · try simp only [zwr_rne, zwr_req, upd_ne, upd_eq, ne_eq, Nat.reduceEqDiff, not_false_eq_true, ca, cc] at g28
                                            try omega
                                            all_goals
                                              try simp only [zwr_rne, zwr_req, upd_ne, upd_eq, ne_eq, Nat.reduceEqDiff, not_false_eq_true, ca, cc]
                                              refine ⟨by first | assumption | exact vin (by omega) | exact vp_in_I.mpr (by omega), ?_⟩
                                              rintro _ rfl
                                              try simp only [zwr_rne, zwr_req, upd_ne, upd_eq, ne_eq, Nat.reduceEqDiff, not_false_eq_true, ca, cc]
                                              refine m_orNone s14 ?_
                                              try simp only [zwr_rne, zwr_req, upd_ne, upd_eq, ne_eq, Nat.reduceEqDiff, not_false_eq_true, ca, cc]
                                              refine ⟨s5, ?_⟩
                                              unfold Rall
                                              simp only [zwr_rne, zwr_req, upd_ne, upd_eq, ne_eq, Nat.reduceEqDiff, not_false_eq_true]
                                              exact ⟨⟨k1, k2, k3, k4, k5, k6, k7, k8, k9⟩, kas.setC (enc_nn (by omega)).symm (by omega) (by omega), kcl, kda, kdh, kpl, kkp, ksh, kwt, ktp, klw, ksd, Rwx_stale, Rwx_stale⟩
                                      · try simp only [zwr_rne, zwr_req, upd_ne, upd_eq, ne_eq, Nat.reduceEqDiff, not_false_eq_true, ca, cc] at g27
                                        try omega
                                        all_goals
                                          try simp only [zwr_rne, zwr_req, upd_ne, upd_eq, ne_eq, Nat.reduceEqDiff, not_false_eq_true, ca, cc]
                                          refine ⟨by first | assumption | exact vin (by omega) | exact vp_in_I.mpr (by omega), ?_⟩
                                          refine zeq (fun g29 => ?_) (fun g29 => ?_)
                                          · try simp only [zwr_rne, zwr_req, upd_ne, upd_eq, ne_eq, Nat.reduceEqDiff, not_false_eq_true, ca, cc] at g29
                                            try omega
                                            all_goals
                                              try simp only [zwr_rne, zwr_req, upd_ne, upd_eq, ne_eq, Nat.reduceEqDiff, not_false_eq_true, ca, cc]
                                              refine ⟨by first | assumption | exact vin (by omega) | exact vp_in_I.mpr (by omega), ?_⟩
                                              refine ⟨by first | assumption | exact vin (by omega) | exact vp_in_I.mpr (by omega), ?_⟩
                                              refine zeq (fun g30 => ?_) (fun g30 => ?_)
                                              · try simp only [zwr_rne, zwr_req, upd_ne, upd_eq, ne_eq, Nat.reduceEqDiff, not_false_eq_true, ca, cc] at g30
                                                try omega
                                                all_goals
                                                  try simp only [zwr_rne, zwr_req, upd_ne, upd_eq, ne_eq, Nat.reduceEqDiff, not_false_eq_true, ca, cc]
                                                  refine ⟨by first | assumption | exact vin (by omega) | exact vp_in_I.mpr (by omega), ?_⟩
                                                  refine zeq (fun g31 => ?_) (fun g31 => ?_)
                                                  · try simp only [zwr_rne, zwr_req, upd_ne, upd_eq, ne_eq, Nat.reduceEqDiff, not_false_eq_true, ca, cc] at g31
                                                    try omega
                                                    all_goals
                                                      try simp only [zwr_rne, zwr_req, upd_ne, upd_eq, ne_eq, Nat.reduceEqDiff, not_false_eq_true, ca, cc]
                                                      refine ⟨by first | assumption | exact vin (by omega) | exact vp_in_I.mpr (by omega), ?_⟩
                                                      rintro _ rfl
                                                      try simp only [zwr_rne, zwr_req, upd_ne, upd_eq, ne_eq, Nat.reduceEqDiff, not_false_eq_true, ca, cc]
                                                      refine m_orNone s14 ?_
                                                      try simp only [zwr_rne, zwr_req, upd_ne, upd_eq, ne_eq, Nat.reduceEqDiff, not_false_eq_true, ca, cc]
                                                      refine ⟨s5, ?_⟩
                                                      unfold Rall
                                                      simp only [zwr_rne, zwr_req, upd_ne, upd_eq, ne_eq, Nat.reduceEqDiff, not_false_eq_true]
                                                      exact ⟨⟨k1, k2, k3, k4, k5, k6, k7, k8, k9⟩, kas.setC (enc_nn (by omega)).symm (by omega) (by omega), kcl, kda, kdh, kpl, kkp, ksh, kwt, ktp, klw, ksd, Rwx_stale, Rwx_stale⟩
                                                  · try simp only [zwr_rne, zwr_req, upd_ne, upd_eq, ne_eq, Nat.reduceEqDiff, not_false_eq_true, ca, cc] at g31
                                                    try omega
                                                    all_goals
                                                      try simp only [zwr_rne, zwr_req, upd_ne, upd_eq, ne_eq, Nat.reduceEqDiff, not_false_eq_true, ca, cc]
                                                      refine ⟨by first | assumption | exact vin (by omega) | exact vp_in_I.mpr (by omega), ?_⟩
                                                      rintro _ rfl
                                                      try simp only [zwr_rne, zwr_req, upd_ne, upd_eq, ne_eq, Nat.reduceEqDiff, not_false_eq_true, ca, cc]
                                                      refine m_orNone s14 ?_
                                                      try simp only [zwr_rne, zwr_req, upd_ne, upd_eq, ne_eq, Nat.reduceEqDiff, not_false_eq_true, ca, cc]
                                                      refine ⟨s5, ?_⟩
                                                      unfold Rall
                                                      simp only [zwr_rne, zwr_req, upd_ne, upd_eq, ne_eq, Nat.reduceEqDiff, not_false_eq_true]
                                                      exact ⟨⟨k1, k2, k3, k4, k5, k6, k7, k8, k9⟩, kas.setC (enc_nn (by omega)).symm (by omega) (by omega), kcl, kda, kdh, kpl, kkp, ksh, kwt, ktp, klw, ksd, Rwx_stale, Rwx_stale⟩
                                              · try simp only [zwr_rne, zwr_req, upd_ne, upd_eq, ne_eq, Nat.reduceEqDiff, not_false_eq_true, ca, cc] at g30
                                                try omega
                                                all_goals
                                                  try simp only [zwr_rne, zwr_req, upd_ne, upd_eq, ne_eq, Nat.reduceEqDiff, not_false_eq_true, ca, cc]
                                                  exact ⟨by first | rfl | trivial, hh⟩
                                          · try simp only [zwr_rne, zwr_req, upd_ne, upd_eq, ne_eq, Nat.reduceEqDiff, not_false_eq_true, ca, cc] at g29
                                            try omega
                                            all_goals
                                              try simp only [zwr_rne, zwr_req, upd_ne, upd_eq, ne_eq, Nat.reduceEqDiff, not_false_eq_true, ca, cc]
                                              exact ⟨by first | rfl | trivial, hh⟩
                                  · try simp only [zwr_rne, zwr_req, upd_ne, upd_eq, ne_eq, Nat.reduceEqDiff, not_false_eq_true, ca, cc] at g26
                                    try omega
                                    all_goals
                                      try simp only [one_ne, zero_eq, if_false, if_true, or_true, true_or, or_false, false_or]
                                      try simp only [zwr_rne, zwr_req, upd_ne, upd_eq, ne_eq, Nat.reduceEqDiff, not_false_eq_true, ca, cc]
                                      exact ⟨by first | rfl | trivial, hh⟩
                          · try simp only [zwr_rne, zwr_req, upd_ne, upd_eq, ne_eq, Nat.reduceEqDiff, not_false_eq_true, ca, cc] at g19
                            try omega
                            all_goals
                              try simp only [one_ne, zero_eq, if_false, if_true, or_true, true_or, or_false, false_or]
                              try simp only [zwr_rne, zwr_req, upd_ne, upd_eq, ne_eq, Nat.reduceEqDiff, not_false_eq_true, ca, cc]
                              exact ⟨by first | rfl | trivial, hh⟩
                      · try simp only [zwr_rne, zwr_req, upd_ne, upd_eq, ne_eq, Nat.reduceEqDiff, not_false_eq_true, ca, cc] at g18
                        try omega
                        all_goals
                          refine en_X12_charge ?_
                          try simp only [zwr_rne, zwr_req, upd_ne, upd_eq, ne_eq, Nat.reduceEqDiff, not_false_eq_true, ca, cc]
                          refine m_isAsset (by first | omega | (simp only [zwr_rne, zwr_req, upd_ne, upd_eq, ne_eq, Nat.reduceEqDiff, not_false_eq_true, ca, cc]; omega)) (fun g32 g32' => ?_) (fun g32 => ?_)
                          · try simp only [zwr_rne, zwr_req, upd_ne, upd_eq, ne_eq, Nat.reduceEqDiff, not_false_eq_true, ca, cc] at g32
                            try simp only [zwr_rne, zwr_req, upd_ne, upd_eq, ne_eq, Nat.reduceEqDiff, not_false_eq_true, ca, cc] at g32'
                            try omega
                            all_goals
                              try simp only [one_ne, zero_eq, if_false, if_true, or_true, true_or, or_false, false_or]
                              try simp only [zwr_rne, zwr_req, upd_ne, upd_eq, ne_eq, Nat.reduceEqDiff, not_false_eq_true, ca, cc]
                              refine zeq (fun g33 => ?_) (fun g33 => ?_)
                              · try simp only [zwr_rne, zwr_req, upd_ne, upd_eq, ne_eq, Nat.reduceEqDiff, not_false_eq_true, ca, cc] at g33
                                try omega
                                all_goals
                                  try simp only [zwr_rne, zwr_req, upd_ne, upd_eq, ne_eq, Nat.reduceEqDiff, not_false_eq_true, ca, cc]
                                  refine zeq (fun g34 => ?_) (fun g34 => ?_)
                                  · try simp only [zwr_rne, zwr_req, upd_ne, upd_eq, ne_eq, Nat.reduceEqDiff, not_false_eq_true, ca, cc] at g34
                                    try omega
                                    all_goals
                                      try simp only [zwr_rne, zwr_req, upd_ne, upd_eq, ne_eq, Nat.reduceEqDiff, not_false_eq_true, ca, cc]
                                      refine ⟨by first | assumption | exact vin (by omega) | exact vp_in_I.mpr (by omega), ?_⟩
                                      refine zeq (fun g35 => ?_) (fun g35 => ?_)
                                      · try simp only [zwr_rne, zwr_req, upd_ne, upd_eq, ne_eq, Nat.reduceEqDiff, not_false_eq_true, ca, cc] at g35
                                        try omega
                                        all_goals
                                          try simp only [zwr_rne, zwr_req, upd_ne, upd_eq, ne_eq, Nat.reduceEqDiff, not_false_eq_true, ca, cc]
                                          refine ⟨by first | assumption | exact vin (by omega) | exact vp_in_I.mpr (by omega), ?_⟩
                                          rintro _ rfl
                                          try simp only [zwr_rne, zwr_req, upd_ne, upd_eq, ne_eq, Nat.reduceEqDiff, not_false_eq_true, ca, cc]
                                          refine m_orNone s14 ?_
                                          try simp only [zwr_rne, zwr_req, upd_ne, upd_eq, ne_eq, Nat.reduceEqDiff, not_false_eq_true, ca, cc]
                                          refine ⟨s5, ?_⟩
                                          unfold Rall
                                          simp only [zwr_rne, zwr_req, upd_ne, upd_eq, ne_eq, Nat.reduceEqDiff, not_false_eq_true]
                                          exact ⟨⟨k1, k2, k3, k4, k5, k6, k7, k8, k9⟩, kas.setC (enc_nn (by omega)).symm (by omega) (by omega), kcl, kda, kdh, kpl, kkp, ksh, kwt, ktp, klw, ksd, Rwx_stale, Rwx_stale⟩
                                      · try simp only [zwr_rne, zwr_req, upd_ne, upd_eq, ne_eq, Nat.reduceEqDiff, not_false_eq_true, ca, cc] at g35
                                        try omega
                                        all_goals
                                          try simp only [zwr_rne, zwr_req, upd_ne, upd_eq, ne_eq, Nat.reduceEqDiff, not_false_eq_true, ca, cc]
                                          refine ⟨by first | assumption | exact vin (by omega) | exact vp_in_I.mpr (by omega), ?_⟩
                                          rintro _ rfl
                                          try simp only [zwr_rne, zwr_req, upd_ne, upd_eq, ne_eq, Nat.reduceEqDiff, not_false_eq_true, ca, cc]
                                          refine m_orNone s14 ?_
                                          try simp only [zwr_rne, zwr_req, upd_ne, upd_eq, ne_eq, Nat.reduceEqDiff, not_false_eq_true, ca, cc]
                                          refine ⟨s5, ?_⟩
                                          unfold Rall
                                          simp only [zwr_rne, zwr_req, upd_ne, upd_eq, ne_eq, Nat.reduceEqDiff, not_false_eq_true]
                                          exact ⟨⟨k1, k2, k3, k4, k5, k6, k7, k8, k9⟩, kas.setC (enc_nn (by omega)).symm (by omega) (by omega), kcl, kda, kdh, kpl, kkp, ksh, kwt, ktp, klw, ksd, Rwx_stale, Rwx_stale⟩
                                  · try simp only [zwr_rne, zwr_req, upd_ne, upd_eq, ne_eq, Nat.reduceEqDiff, not_false_eq_true, ca, cc] at g34
                                    try omega
                                    all_goals
                                      try simp only [zwr_rne, zwr_req, upd_ne, upd_eq, ne_eq, Nat.reduceEqDiff, not_false_eq_true, ca, cc]
                                      refine ⟨by first | assumption | exact vin (by omega) | exact vp_in_I.mpr (by omega), ?_⟩
                                      refine zeq (fun g36 => ?_) (fun g36 => ?_)
                                      · try simp only [zwr_rne, zwr_req, upd_ne, upd_eq, ne_eq, Nat.reduceEqDiff, not_false_eq_true, ca, cc] at g36
                                        try omega
                                        all_goals
                                          try simp only [zwr_rne, zwr_req, upd_ne, upd_eq, ne_eq, Nat.reduceEqDiff, not_false_eq_true, ca, cc]
                                          refine ⟨by first | assumption | exact vin (by omega) | exact vp_in_I.mpr (by omega), ?_⟩
                                          refine ⟨by first | assumption | exact vin (by omega) | exact vp_in_I.mpr (by omega), ?_⟩
                                          refine zeq (fun g37 => ?_) (fun g37 => ?_)
                                          · try simp only [zwr_rne, zwr_req, upd_ne, upd_eq, ne_eq, Nat.reduceEqDiff, not_false_eq_true, ca, cc] at g37
                                            try omega
                                            all_goals
                                              try simp only [zwr_rne, zwr_req, upd_ne, upd_eq, ne_eq, Nat.reduceEqDiff, not_false_eq_true, ca, cc]
                                              refine ⟨by first | assumption | exact vin (by omega) | exact vp_in_I.mpr (by omega), ?_⟩
                                              refine zeq (fun g38 => ?_) (fun g38 => ?_)
                                              · try simp only [zwr_rne, zwr_req, upd_ne, upd_eq, ne_eq, Nat.reduceEqDiff, not_false_eq_true, ca, cc] at g38
                                                try omega
                                                all_goals
                                                  try simp only [zwr_rne, zwr_req, upd_ne, upd_eq, ne_eq, Nat.reduceEqDiff, not_false_eq_true, ca, cc]
                                                  refine ⟨by first | assumption | exact vin (by omega) | exact vp_in_I.mpr (by omega), ?_⟩
                                                  rintro _ rfl
                                                  try simp only [zwr_rne, zwr_req, upd_ne, upd_eq, ne_eq, Nat.reduceEqDiff, not_false_eq_true, ca, cc]
                                                  refine m_orNone s14 ?_
                                                  try simp only [zwr_rne, zwr_req, upd_ne, upd_eq, ne_eq, Nat.reduceEqDiff, not_false_eq_true, ca, cc]
                                                  refine ⟨s5, ?_⟩
                                                  unfold Rall
                                                  simp only [zwr_rne, zwr_req, upd_ne, upd_eq, ne_eq, Nat.reduceEqDiff, not_false_eq_true]
                                                  exact ⟨⟨k1, k2, k3, k4, k5, k6, k7, k8, k9⟩, kas.setC (enc_nn (by omega)).symm (by omega) (by omega), kcl, kda, kdh, kpl, kkp, ksh, kwt, ktp, klw, ksd, Rwx_stale, Rwx_stale⟩
                                              · try simp only [zwr_rne, zwr_req, upd_ne, upd_eq, ne_eq, Nat.reduceEqDiff, not_false_eq_true, ca, cc] at g38
                                                try omega
                                                all_goals
                                                  try simp only [zwr_rne, zwr_req, upd_ne, upd_eq, ne_eq, Nat.reduceEqDiff, not_false_eq_true, ca, cc]
                                                  refine ⟨by first | assumption | exact vin (by omega) | exact vp_in_I.mpr (by omega), ?_⟩
                                                  rintro _ rfl
                                                  try simp only [zwr_rne, zwr_req, upd_ne, upd_eq, ne_eq, Nat.reduceEqDiff, not_false_eq_true, ca, cc]
                                                  refine m_orNone s14 ?_
                                                  try simp only [zwr_rne, zwr_req, upd_ne, upd_eq, ne_eq, Nat.reduceEqDiff, not_false_eq_true, ca, cc]
                                                  refine ⟨s5, ?_⟩
                                                  unfold Rall
                                                  simp only [zwr_rne, zwr_req, upd_ne, upd_eq, ne_eq, Nat.reduceEqDiff, not_false_eq_true]
                                                  exact ⟨⟨k1, k2, k3, k4, k5, k6, k7, k8, k9⟩, kas.setC (enc_nn (by omega)).symm (by omega) (by omega), kcl, kda, kdh, kpl, kkp, ksh, kwt, ktp, klw, ksd, Rwx_stale, Rwx_stale⟩
                                          · try simp only [zwr_rne, zwr_req, upd_ne, upd_eq, ne_eq, Nat.reduceEqDiff, not_false_eq_true, ca, cc] at g37
                                            try omega
                                            all_goals
                                              try simp only [zwr_rne, zwr_req, upd_ne, upd_eq, ne_eq, Nat.reduceEqDiff, not_false_eq_true, ca, cc]
                                              exact ⟨by first | rfl | trivial, hh⟩
                                      · try simp only [zwr_rne, zwr_req, upd_ne, upd_eq, ne_eq, Nat.reduceEqDiff, not_false_eq_true, ca, cc] at g36
                                        try omega
                                        all_goals
                                          try simp only [zwr_rne, zwr_req, upd_ne, upd_eq, ne_eq, Nat.reduceEqDiff, not_false_eq_true, ca, cc]
                                          exact ⟨by first | rfl | trivial, hh⟩
                              · try simp only [zwr_rne, zwr_req, upd_ne, upd_eq, ne_eq, Nat.reduceEqDiff, not_false_eq_true, ca, cc] at g33
                                try omega
                                all_goals
                                  try simp only [zwr_rne, zwr_req, upd_ne, upd_eq, ne_eq, Nat.reduceEqDiff, not_false_eq_true, ca, cc]
                                  refine m_isClaim (by first | omega | (simp only [zwr_rne, zwr_req, upd_ne, upd_eq, ne_eq, Nat.reduceEqDiff, not_false_eq_true, ca, cc]; omega)) (fun g39 g39' => ?_) (fun g39 => ?_)
                                  · try simp only [zwr_rne, zwr_req, upd_ne, upd_eq, ne_eq, Nat.reduceEqDiff, not_false_eq_true, ca, cc] at g39
                                    try simp only [zwr_rne, zwr_req, upd_ne, upd_eq, ne_eq, Nat.reduceEqDiff, not_false_eq_true, ca, cc] at g39'
                                    try omega
                                    all_goals
                                      try simp only [one_ne, zero_eq, if_false, if_true, or_true, true_or, or_false, false_or]
                                      try simp only [zwr_rne, zwr_req, upd_ne, upd_eq, ne_eq, Nat.reduceEqDiff, not_false_eq_true, ca, cc]
                                      refine zeq (fun g40 => ?_) (fun g40 => ?_)
                                      · try simp only [zwr_rne, zwr_req, upd_ne, upd_eq, ne_eq, Nat.reduceEqDiff, not_false_eq_true, ca, cc] at g40
                                        try omega
                                        all_goals
                                          try simp only [zwr_rne, zwr_req, upd_ne, upd_eq, ne_eq, Nat.reduceEqDiff, not_false_eq_true, ca, cc]
                                          refine ⟨by first | assumption | exact vin (by omega) | exact vp_in_I.mpr (by omega), ?_⟩
                                          refine zeq (fun g41 => ?_) (fun g41 => ?_)
                                          · try simp only [zwr_rne, zwr_req, upd_ne, upd_eq, ne_eq, Nat.reduceEqDiff, not_false_eq_true, ca, cc] at g41
                                            try omega
                                            all_goals
                                              try simp only [zwr_rne, zwr_req, upd_ne, upd_eq, ne_eq, Nat.reduceEqDiff, not_false_eq_true, ca, cc]
                                              refine ⟨by first | assumption | exact vin (by omega) | exact vp_in_I.mpr (by omega), ?_⟩
                                              rintro _ rfl
                                              try simp only [zwr_rne, zwr_req, upd_ne, upd_eq, ne_eq, Nat.reduceEqDiff, not_false_eq_true, ca, cc]
                                              refine m_orNone s14 ?_
                                              try simp only [zwr_rne, zwr_req, upd_ne, upd_eq, ne_eq, Nat.reduceEqDiff, not_false_eq_true, ca, cc]
                                              refine ⟨s5, ?_⟩
                                              unfold Rall
                                              simp only [zwr_rne, zwr_req, upd_ne, upd_eq, ne_eq, Nat.reduceEqDiff, not_false_eq_true]
                                              exact ⟨⟨k1, k2, k3, k4, k5, k6, k7, k8, k9⟩, kas.setC (enc_nn (by omega)).symm (by omega) (by omega), kcl, kda, kdh, kpl, kkp, ksh, kwt, ktp, klw, ksd, Rwx_stale, Rwx_stale⟩
                                          · try simp only [zwr_rne, zwr_req, upd_ne, upd_eq, ne_eq, Nat.reduceEqDiff, not_false_eq_true, ca, cc] at g41
                                            try omega
                                            all_goals
                                              try simp only [zwr_rne, zwr_req, upd_ne, upd_eq, ne_eq, Nat.reduceEqDiff, not_false_eq_true, ca, cc]
                                              refine ⟨by first | assumption | exact vin (by omega) | exact vp_in_I.mpr (by omega), ?_⟩
                                              rintro _ rfl
                                              try simp only [zwr_rne, zwr_req, upd_ne, upd_eq, ne_eq, Nat.reduceEqDiff, not_false_eq_true, ca, cc]
                                              refine m_orNone s14 ?_
                                              try simp only [zwr_rne, zwr_req, upd_ne, upd_eq, ne_eq, Nat.reduceEqDiff, not_false_eq_true, ca, cc]
                                              refine ⟨s5, ?_⟩
                                              unfold Rall
                                              simp only [zwr_rne, zwr_req, upd_ne, upd_eq, ne_eq, Nat.reduceEqDiff, not_false_eq_true]
                                              exact ⟨⟨k1, k2, k3, k4, k5, k6, k7, k8, k9⟩, kas.setC (enc_nn (by omega)).symm (by omega) (by omega), kcl, kda, kdh, kpl, kkp, ksh, kwt, ktp, klw, ksd, Rwx_stale, Rwx_stale⟩
                                      · try simp only [zwr_rne, zwr_req, upd_ne, upd_eq, ne_eq, Nat.reduceEqDiff, not_false_eq_true, ca, cc] at g40
                                        try omega
                                        all_goals
                                          try simp only [zwr_rne, zwr_req, upd_ne, upd_eq, ne_eq, Nat.reduceEqDiff, not_false_eq_true, ca, cc]
                                          refine ⟨by first | assumption | exact vin (by omega) | exact vp_in_I.mpr (by omega), ?_⟩
                                          refine zeq (fun g42 => ?_) (fun g42 => ?_)
                                          · try simp only [zwr_rne, zwr_req, upd_ne, upd_eq, ne_eq, Nat.reduceEqDiff, not_false_eq_true, ca, cc] at g42
                                            try omega
                                            all_goals
                                              try simp only [zwr_rne, zwr_req, upd_ne, upd_eq, ne_eq, Nat.reduceEqDiff, not_false_eq_true, ca, cc]
                                              refine ⟨by first | assumption | exact vin (by omega) | exact vp_in_I.mpr (by omega), ?_⟩
                                              refine ⟨by first | assumption | exact vin (by omega) | exact vp_in_I.mpr (by omega), ?_⟩
                                              refine zeq (fun g43 => ?_) (fun g43 => ?_)
                                              · try simp only [zwr_rne, zwr_req, upd_ne, upd_eq, ne_eq, Nat.reduceEqDiff, not_false_eq_true, ca, cc] at g43
                                                try omega
                                                all_goals
                                                  try simp only [zwr_rne, zwr_req, upd_ne, upd_eq, ne_eq, Nat.reduceEqDiff, not_false_eq_true, ca, cc]
                                                  refine ⟨by first | assumption | exact vin (by omega) | exact vp_in_I.mpr (by omega), ?_⟩
                                                  refine zeq (fun g44 => ?_) (fun g44 => ?_)
                                                  · try simp only [zwr_rne, zwr_req, upd_ne, upd_eq, ne_eq, Nat.reduceEqDiff, not_false_eq_true, ca, cc] at g44
                                                    try omega
                                                    all_goals
                                                      try simp only [zwr_rne, zwr_req, upd_ne, upd_eq, ne_eq, Nat.reduceEqDiff, not_false_eq_true, ca, cc]
                                                      refine ⟨by first | assumption | exact vin (by omega) | exact vp_in_I.mpr (by omega), ?_⟩
                                                      rintro _ rfl
                                                      try simp only [zwr_rne, zwr_req, upd_ne, upd_eq, ne_eq, Nat.reduceEqDiff, not_false_eq_true, ca, cc]
                                                      refine m_orNone s14 ?_
                                                      try simp only [zwr_rne, zwr_req, upd_ne, upd_eq, ne_eq, Nat.reduceEqDiff, not_false_eq_true, ca, cc]
                                                      refine ⟨s5, ?_⟩
                                                      unfold Rall
                                                      simp only [zwr_rne, zwr_req, upd_ne, upd_eq, ne_eq, Nat.reduceEqDiff, not_false_eq_true]
                                                      exact ⟨⟨k1, k2, k3, k4, k5, k6, k7, k8, k9⟩, kas.setC (enc_nn (by omega)).symm (by omega) (by omega), kcl, kda, kdh, kpl, kkp, ksh, kwt, ktp, klw, ksd, Rwx_stale, Rwx_stale⟩
                                                  · try simp only [zwr_rne, zwr_req, upd_ne, upd_eq, ne_eq, Nat.reduceEqDiff, not_false_eq_true, ca, cc] at g44
                                                    try omega
                                                    all_goals
                                                      try simp only [zwr_rne, zwr_req, upd_ne, upd_eq, ne_eq, Nat.reduceEqDiff, not_false_eq_true, ca, cc]
                                                      refine ⟨by first | assumption | exact vin (by omega) | exact vp_in_I.mpr (by omega), ?_⟩
                                                      rintro _ rfl
                                                      try simp only [zwr_rne, zwr_req, upd_ne, upd_eq, ne_eq, Nat.reduceEqDiff, not_false_eq_true, ca, cc]
                                                      refine m_orNone s14 ?_
                                                      try simp only [zwr_rne, zwr_req, upd_ne, upd_eq, ne_eq, Nat.reduceEqDiff, not_false_eq_true, ca, cc]
                                                      refine ⟨s5, ?_⟩
                                                      unfold Rall
                                                      simp only [zwr_rne, zwr_req, upd_ne, upd_eq, ne_eq, Nat.reduceEqDiff, not_false_eq_true]
                                                      exact ⟨⟨k1, k2, k3, k4, k5, k6, k7, k8, k9⟩, kas.setC (enc_nn (by omega)).symm (by omega) (by omega), kcl, kda, kdh, kpl, kkp, ksh, kwt, ktp, klw, ksd, Rwx_stale, Rwx_stale⟩
                                              · try simp only [zwr_rne, zwr_req, upd_ne, upd_eq, ne_eq, Nat.reduceEqDiff, not_false_eq_true, ca, cc] at g43
                                                try omega
                                                all_goals
                                                  try simp only [zwr_rne, zwr_req, upd_ne, upd_eq, ne_eq, Nat.reduceEqDiff, not_false_eq_true, ca, cc]
                                                  exact ⟨by first | rfl | trivial, hh⟩
                                          · try simp only [zwr_rne, zwr_req, upd_ne, upd_eq, ne_eq, Nat.reduceEqDiff, not_false_eq_true, ca, cc] at g42
                                            try omega
                                            all_goals
                                              try simp only [zwr_rne, zwr_req, upd_ne, upd_eq, ne_eq, Nat.reduceEqDiff, not_false_eq_true, ca, cc]
                                              exact ⟨by first | rfl | trivial, hh⟩
                                  · try simp only [zwr_rne, zwr_req, upd_ne, upd_eq, ne_eq, Nat.reduceEqDiff, not_false_eq_true, ca, cc] at g39
                                    try omega
                                    all_goals
                                      try simp only [one_ne, zero_eq, if_false, if_true, or_true, true_or, or_false, false_or]
                                      try simp only [zwr_rne, zwr_req, upd_ne, upd_eq, ne_eq, Nat.reduceEqDiff, not_false_eq_true, ca, cc]
                                      exact ⟨by first | rfl | trivial, hh⟩
                          · try simp only [zwr_rne, zwr_req, upd_ne, upd_eq, ne_eq, Nat.reduceEqDiff, not_false_eq_true, ca, cc] at g32
                            try omega
                            all_goals
                              try simp only [one_ne, zero_eq, if_false, if_true, or_true, true_or, or_false, false_or]
                              try simp only [zwr_rne, zwr_req, upd_ne, upd_eq, ne_eq, Nat.reduceEqDiff, not_false_eq_true, ca, cc]
                              exact ⟨by first | rfl | trivial, hh⟩
                  · try simp only [zwr_rne, zwr_req, upd_ne, upd_eq, ne_eq, Nat.reduceEqDiff, not_false_eq_true, ca, cc] at g17
                    try omega
                    all_goals
                      refine en_X12_charge ?_
                      try simp only [zwr_rne, zwr_req, upd_ne, upd_eq, ne_eq, Nat.reduceEqDiff, not_false_eq_true, ca, cc]
                      refine m_isAsset (by first | omega | (simp only [zwr_rne, zwr_req, upd_ne, upd_eq, ne_eq, Nat.reduceEqDiff, not_false_eq_true, ca, cc]; omega)) (fun g45 g45' => ?_) (fun g45 => ?_)
                      · try simp only [zwr_rne, zwr_req, upd_ne, upd_eq, ne_eq, Nat.reduceEqDiff, not_false_eq_true, ca, cc] at g45
                        try simp only [zwr_rne, zwr_req, upd_ne, upd_eq, ne_eq, Nat.reduceEqDiff, not_false_eq_true, ca, cc] at g45'
                        try omega
                        all_goals
                          try simp only [one_ne, zero_eq, if_false, if_true, or_true, true_or, or_false, false_or]
                          try simp only [zwr_rne, zwr_req, upd_ne, upd_eq, ne_eq, Nat.reduceEqDiff, not_false_eq_true, ca, cc]
                          refine zeq (fun g46 => ?_) (fun g46 => ?_)
                          · try simp only [zwr_rne, zwr_req, upd_ne, upd_eq, ne_eq, Nat.reduceEqDiff, not_false_eq_true, ca, cc] at g46
                            try omega
                            all_goals
                              try simp only [zwr_rne, zwr_req, upd_ne, upd_eq, ne_eq, Nat.reduceEqDiff, not_false_eq_true, ca, cc]
                              refine zeq (fun g47 => ?_) (fun g47 => ?_)
                              · try simp only [zwr_rne, zwr_req, upd_ne, upd_eq, ne_eq, Nat.reduceEqDiff, not_false_eq_true, ca, cc] at g47
                                try omega
                                all_goals
                                  try simp only [zwr_rne, zwr_req, upd_ne, upd_eq, ne_eq, Nat.reduceEqDiff, not_false_eq_true, ca, cc]
                                  refine ⟨by first | assumption | exact vin (by omega) | exact vp_in_I.mpr (by omega), ?_⟩
                                  refine zeq (fun g48 => ?_) (fun g48 => ?_)
                                  · try simp only [zwr_rne, zwr_req, upd_ne, upd_eq, ne_eq, Nat.reduceEqDiff, not_false_eq_true, ca, cc] at g48
                                    try omega
                                    all_goals
                                      try simp only [zwr_rne, zwr_req, upd_ne, upd_eq, ne_eq, Nat.reduceEqDiff, not_false_eq_true, ca, cc]
                                      refine ⟨by first | assumption | exact vin (by omega) | exact vp_in_I.mpr (by omega), ?_⟩
                                      rintro _ rfl
                                      try simp only [zwr_rne, zwr_req, upd_ne, upd_eq, ne_eq, Nat.reduceEqDiff, not_false_eq_true, ca, cc]
                                      refine m_orNone s14 ?_
                                      try simp only [zwr_rne, zwr_req, upd_ne, upd_eq, ne_eq, Nat.reduceEqDiff, not_false_eq_true, ca, cc]
                                      refine ⟨s5, ?_⟩
                                      unfold Rall
                                      simp only [zwr_rne, zwr_req, upd_ne, upd_eq, ne_eq, Nat.reduceEqDiff, not_false_eq_true]
                                      exact ⟨⟨k1, k2, k3, k4, k5, k6, k7, k8, k9⟩, kas.setC (enc_nn (by omega)).symm (by omega) (by omega), kcl, kda, kdh, kpl, kkp, ksh, kwt, ktp, klw, ksd, Rwx_stale, Rwx_stale⟩
                                  · try simp only [zwr_rne, zwr_req, upd_ne, upd_eq, ne_eq, Nat.reduceEqDiff, not_false_eq_true, ca, cc] at g48
                                    try omega
                                    all_goals
                                      try simp only [zwr_rne, zwr_req, upd_ne, upd_eq, ne_eq, Nat.reduceEqDiff, not_false_eq_true, ca, cc]
                                      refine ⟨by first | assumption | exact vin (by omega) | exact vp_in_I.mpr (by omega), ?_⟩
                                      rintro _ rfl
                                      try simp only [zwr_rne, zwr_req, upd_ne, upd_eq, ne_eq, Nat.reduceEqDiff, not_false_eq_true, ca, cc]
                                      refine m_orNone s14 ?_
                                      try simp only [zwr_rne, zwr_req, upd_ne, upd_eq, ne_eq, Nat.reduceEqDiff, not_false_eq_true, ca, cc]
                                      refine ⟨s5, ?_⟩
                                      unfold Rall
                                      simp only [zwr_rne, zwr_req, upd_ne, upd_eq, ne_eq, Nat.reduceEqDiff, not_false_eq_true]
                                      exact ⟨⟨k1, k2, k3, k4, k5, k6, k7, k8, k9⟩, kas.setC (enc_nn (by omega)).symm (by omega) (by omega), kcl, kda, kdh, kpl, kkp, ksh, kwt, ktp, klw, ksd, Rwx_stale, Rwx_stale⟩
                              · try simp only [zwr_rne, zwr_req, upd_ne, upd_eq, ne_eq, Nat.reduceEqDiff, not_false_eq_true, ca, cc] at g47
                                try omega
                                all_goals
                                  try simp only [zwr_rne, zwr_req, upd_ne, upd_eq, ne_eq, Nat.reduceEqDiff, not_false_eq_true, ca, cc]
                                  refine ⟨by first | assumption | exact vin (by omega) | exact vp_in_I.mpr (by omega), ?_⟩
                                  refine zeq (fun g49 => ?_) (fun g49 => ?_)
                                  · try simp only [zwr_rne, zwr_req, upd_ne, upd_eq, ne_eq, Nat.reduceEqDiff, not_false_eq_true, ca, cc] at g49
                                    try omega
                                    all_goals
                                      try simp only [zwr_rne, zwr_req, upd_ne, upd_eq, ne_eq, Nat.reduceEqDiff, not_false_eq_true, ca, cc]
                                      refine ⟨by first | assumption | exact vin (by omega) | exact vp_in_I.mpr (by omega), ?_⟩
                                      refine ⟨by first | assumption | exact vin (by omega) | exact vp_in_I.mpr (by omega), ?_⟩
                                      refine zeq (fun g50 => ?_) (fun g50 => ?_)
                                      · try simp only [zwr_rne, zwr_req, upd_ne, upd_eq, ne_eq, Nat.reduceEqDiff, not_false_eq_true, ca, cc] at g50
                                        try omega
                                        all_goals
                                          try simp only [zwr_rne, zwr_req, upd_ne, upd_eq, ne_eq, Nat.reduceEqDiff, not_false_eq_true, ca, cc]
                                          refine ⟨by first | assumption | exact vin (by omega) | exact vp_in_I.mpr (by omega), ?_⟩
                                          refine zeq (fun g51 => ?_) (fun g51 => ?_)
                                          · try simp only [zwr_rne, zwr_req, upd_ne, upd_eq, ne_eq, Nat.reduceEqDiff, not_false_eq_true, ca, cc] at g51
                                            try omega
                                            all_goals
                                              try simp only [zwr_rne, zwr_req, upd_ne, upd_eq, ne_eq, Nat.reduceEqDiff, not_false_eq_true, ca, cc]
                                              refine ⟨by first | assumption | exact vin (by omega) | exact vp_in_I.mpr (by omega), ?_⟩
                                              rintro _ rfl
                                              try simp only [zwr_rne, zwr_req, upd_ne, upd_eq, ne_eq, Nat.reduceEqDiff, not_false_eq_true, ca, cc]
                                              refine m_orNone s14 ?_
                                              try simp only [zwr_rne, zwr_req, upd_ne, upd_eq, ne_eq, Nat.reduceEqDiff, not_false_eq_true, ca, cc]
                                              refine ⟨s5, ?_⟩
                                              unfold Rall
                                              simp only [zwr_rne, zwr_req, upd_ne, upd_eq, ne_eq, Nat.reduceEqDiff, not_false_eq_true]
                                              exact ⟨⟨k1, k2, k3, k4, k5, k6, k7, k8, k9⟩, kas.setC (enc_nn (by omega)).symm (by omega) (by omega), kcl, kda, kdh, kpl, kkp, ksh, kwt, ktp, klw, ksd, Rwx_stale, Rwx_stale⟩
                                          · try simp only [zwr_rne, zwr_req, upd_ne, upd_eq, ne_eq, Nat.reduceEqDiff, not_false_eq_true, ca, cc] at g51
                                            try omega
                                            all_goals
                                              try simp only [zwr_rne, zwr_req, upd_ne, upd_eq, ne_eq, Nat.reduceEqDiff, not_false_eq_true, ca, cc]
                                              refine ⟨by first | assumption | exact vin (by omega) | exact vp_in_I.mpr (by omega), ?_⟩
                                              rintro _ rfl
                                              try simp only [zwr_rne, zwr_req, upd_ne, upd_eq, ne_eq, Nat.reduceEqDiff, not_false_eq_true, ca, cc]
                                              refine m_orNone s14 ?_
                                              try simp only [zwr_rne, zwr_req, upd_ne, upd_eq, ne_eq, Nat.reduceEqDiff, not_false_eq_true, ca, cc]
                                              refine ⟨s5, ?_⟩
                                              unfold Rall
                                              simp only [zwr_rne, zwr_req, upd_ne, upd_eq, ne_eq, Nat.reduceEqDiff, not_false_eq_true]
                                              exact ⟨⟨k1, k2, k3, k4, k5, k6, k7, k8, k9⟩, kas.setC (enc_nn (by omega)).symm (by omega) (by omega), kcl, kda, kdh, kpl, kkp, ksh, kwt, ktp, klw, ksd, Rwx_stale, Rwx_stale⟩
                                      · try simp only [zwr_rne, zwr_req, upd_ne, upd_eq, ne_eq, Nat.reduceEqDiff, not_false_eq_true, ca, cc] at g50
                                        try omega
                                        all_goals
                                          try simp only [zwr_rne, zwr_req, upd_ne, upd_eq, ne_eq, Nat.reduceEqDiff, not_false_eq_true, ca, cc]
                                          exact ⟨by first | rfl | trivial, hh⟩
                                  · try simp only [zwr_rne, zwr_req, upd_ne, upd_eq, ne_eq, Nat.reduceEqDiff, not_false_eq_true, ca, cc] at g49
                                    try omega
                                    all_goals
                                      try simp only [zwr_rne, zwr_req, upd_ne, upd_eq, ne_eq, Nat.reduceEqDiff, not_false_eq_true, ca, cc]
                                      exact ⟨by first | rfl | trivial, hh⟩
                          · try simp only [zwr_rne, zwr_req, upd_ne, upd_eq, ne_eq, Nat.reduceEqDiff, not_false_eq_true, ca, cc] at g46
                            try omega
                            all_goals
                              try simp only [zwr_rne, zwr_req, upd_ne, upd_eq, ne_eq, Nat.reduceEqDiff, not_false_eq_true, ca, cc]
                              refine m_isClaim (by first | omega | (simp only [zwr_rne, zwr_req, upd_ne, upd_eq, ne_eq, Nat.reduceEqDiff, not_false_eq_true, ca, cc]; omega)) (fun g52 g52' => ?_) (fun g52 => ?_)
                              · try simp only [zwr_rne, zwr_req, upd_ne, upd_eq, ne_eq, Nat.reduceEqDiff, not_false_eq_true, ca, cc] at g52
                                try simp only [zwr_rne, zwr_req, upd_ne, upd_eq, ne_eq, Nat.reduceEqDiff, not_false_eq_true, ca, cc] at g52'
                                try omega
                                all_goals
                                  try simp only [one_ne, zero_eq, if_false, if_true, or_true, true_or, or_false, false_or]
                                  try simp only [zwr_rne, zwr_req, upd_ne, upd_eq, ne_eq, Nat.reduceEqDiff, not_false_eq_true, ca, cc]
                                  refine zeq (fun g53 => ?_) (fun g53 => ?_)
                                  · try simp only [zwr_rne, zwr_req, upd_ne, upd_eq, ne_eq, Nat.reduceEqDiff, not_false_eq_true, ca, cc] at g53
                                    try omega
                                    all_goals
                                      try simp only [zwr_rne, zwr_req, upd_ne, upd_eq, ne_eq, Nat.reduceEqDiff, not_false_eq_true, ca, cc]
                                      refine ⟨by first | assumption | exact vin (by omega) | exact vp_in_I.mpr (by omega), ?_⟩
                                      refine zeq (fun g54 => ?_) (fun g54 => ?_)
                                      · try simp only [zwr_rne, zwr_req, upd_ne, upd_eq, ne_eq, Nat.reduceEqDiff, not_false_eq_true, ca, cc] at g54
                                        try omega
                                        all_goals
                                          try simp only [zwr_rne, zwr_req, upd_ne, upd_eq, ne_eq, Nat.reduceEqDiff, not_false_eq_true, ca, cc]
                                          refine ⟨by first | assumption | exact vin (by omega) | exact vp_in_I.mpr (by omega), ?_⟩
                                          rintro _ rfl
                                          try simp only [zwr_rne, zwr_req, upd_ne, upd_eq, ne_eq, Nat.reduceEqDiff, not_false_eq_true, ca, cc]
                                          refine m_orNone s14 ?_
                                          try simp only [zwr_rne, zwr_req, upd_ne, upd_eq, ne_eq, Nat.reduceEqDiff, not_false_eq_true, ca, cc]
                                          refine ⟨s5, ?_⟩
                                          unfold Rall
                                          simp only [zwr_rne, zwr_req, upd_ne, upd_eq, ne_eq, Nat.reduceEqDiff, not_false_eq_true]
                                          exact ⟨⟨k1, k2, k3, k4, k5, k6, k7, k8, k9⟩, kas.setC (enc_nn (by omega)).symm (by omega) (by omega), kcl, kda, kdh, kpl, kkp, ksh, kwt, ktp, klw, ksd, Rwx_stale, Rwx_stale⟩
                                      · try simp only [zwr_rne, zwr_req, upd_ne, upd_eq, ne_eq, Nat.reduceEqDiff, not_false_eq_true, ca, cc] at g54
                                        try omega
                                        all_goals
                                          try simp only [zwr_rne, zwr_req, upd_ne, upd_eq, ne_eq, Nat.reduceEqDiff, not_false_eq_true, ca, cc]
                                          refine ⟨by first | assumption | exact vin (by omega) | exact vp_in_I.mpr (by omega), ?_⟩
                                          rintro _ rfl
                                          try simp only [zwr_rne, zwr_req, upd_ne, upd_eq, ne_eq, Nat.reduceEqDiff, not_false_eq_true, ca, cc]
                                          refine m_orNone s14 ?_
                                          try simp only [zwr_rne, zwr_req, upd_ne, upd_eq, ne_eq, Nat.reduceEqDiff, not_false_eq_true, ca, cc]
                                          refine ⟨s5, ?_⟩
                                          unfold Rall
                                          simp only [zwr_rne, zwr_req, upd_ne, upd_eq, ne_eq, Nat.reduceEqDiff, not_false_eq_true]
                                          exact ⟨⟨k1, k2, k3, k4, k5, k6, k7, k8, k9⟩, kas.setC (enc_nn (by omega)).symm (by omega) (by omega), kcl, kda, kdh, kpl, kkp, ksh, kwt, ktp, klw, ksd, Rwx_stale, Rwx_stale⟩
                                  · try simp only [zwr_rne, zwr_req, upd_ne, upd_eq, ne_eq, Nat.reduceEqDiff, not_false_eq_true, ca, cc] at g53
                                    try omega
                                    all_goals
                                      try simp only [zwr_rne, zwr_req, upd_ne, upd_eq, ne_eq, Nat.reduceEqDiff, not_false_eq_true, ca, cc]
                                      refine ⟨by first | assumption | exact vin (by omega) | exact vp_in_I.mpr (by omega), ?_⟩
                                      refine zeq (fun g55 => ?_) (fun g55 => ?_)
                                      · try simp only [zwr_rne, zwr_req, upd_ne, upd_eq, ne_eq, Nat.reduceEqDiff, not_false_eq_true, ca, cc] at g55
                                        try omega
                                        all_goals
                                          try simp only [zwr_rne, zwr_req, upd_ne, upd_eq, ne_eq, Nat.reduceEqDiff, not_false_eq_true, ca, cc]
                                          refine ⟨by first | assumption | exact vin (by omega) | exact vp_in_I.mpr (by omega), ?_⟩
                                          refine ⟨by first | assumption | exact vin (by omega) | exact vp_in_I.mpr (by omega), ?_⟩
                                          refine zeq (fun g56 => ?_) (fun g56 => ?_)
                                          · try simp only [zwr_rne, zwr_req, upd_ne, upd_eq, ne_eq, Nat.reduceEqDiff, not_false_eq_true, ca, cc] at g56
                                            try omega
                                            all_goals
                                              try simp only [zwr_rne, zwr_req, upd_ne, upd_eq, ne_eq, Nat.reduceEqDiff, not_false_eq_true, ca, cc]
                                              refine ⟨by first | assumption | exact vin (by omega) | exact vp_in_I.mpr (by omega), ?_⟩
                                              refine zeq (fun g57 => ?_) (fun g57 => ?_)
                                              · try simp only [zwr_rne, zwr_req, upd_ne, upd_eq, ne_eq, Nat.reduceEqDiff, not_false_eq_true, ca, cc] at g57
                                                try omega
                                                all_goals
                                                  try simp only [zwr_rne, zwr_req, upd_ne, upd_eq, ne_eq, Nat.reduceEqDiff, not_false_eq_true, ca, cc]
                                                  refine ⟨by first | assumption | exact vin (by omega) | exact vp_in_I.mpr (by omega), ?_⟩
                                                  rintro _ rfl
                                                  try simp only [zwr_rne, zwr_req, upd_ne, upd_eq, ne_eq, Nat.reduceEqDiff, not_false_eq_true, ca, cc]
                                                  refine m_orNone s14 ?_
                                                  try simp only [zwr_rne, zwr_req, upd_ne, upd_eq, ne_eq, Nat.reduceEqDiff, not_false_eq_true, ca, cc]
                                                  refine ⟨s5, ?_⟩
                                                  unfold Rall
                                                  simp only [zwr_rne, zwr_req, upd_ne, upd_eq, ne_eq, Nat.reduceEqDiff, not_false_eq_true]
                                                  exact ⟨⟨k1, k2, k3, k4, k5, k6, k7, k8, k9⟩, kas.setC (enc_nn (by omega)).symm (by omega) (by omega), kcl, kda, kdh, kpl, kkp, ksh, kwt, ktp, klw, ksd, Rwx_stale, Rwx_stale⟩
                                              · try simp only [zwr_rne, zwr_req, upd_ne, upd_eq, ne_eq, Nat.reduceEqDiff, not_false_eq_true, ca, cc] at g57
                                                try omega
                                                all_goals
                                                  try simp only [zwr_rne, zwr_req, upd_ne, upd_eq, ne_eq, Nat.reduceEqDiff, not_false_eq_true, ca, cc]
                                                  refine ⟨by first | assumption | exact vin (by omega) | exact vp_in_I.mpr (by omega), ?_⟩
                                                  rintro _ rfl
                                                  try simp only [zwr_rne, zwr_req, upd_ne, upd_eq, ne_eq, Nat.reduceEqDiff, not_false_eq_true, ca, cc]
                                                  refine m_orNone s14 ?_
                                                  try simp only [zwr_rne, zwr_req, upd_ne, upd_eq, ne_eq, Nat.reduceEqDiff, not_false_eq_true, ca, cc]
                                                  refine ⟨s5, ?_⟩
                                                  unfold Rall
                                                  simp only [zwr_rne, zwr_req, upd_ne, upd_eq, ne_eq, Nat.reduceEqDiff, not_false_eq_true]
                                                  exact ⟨⟨k1, k2, k3, k4, k5, k6, k7, k8, k9⟩, kas.setC (enc_nn (by omega)).symm (by omega) (by omega), kcl, kda, kdh, kpl, kkp, ksh, kwt, ktp, klw, ksd, Rwx_stale, Rwx_stale⟩
                                          · try simp only [zwr_rne, zwr_req, upd_ne, upd_eq, ne_eq, Nat.reduceEqDiff, not_false_eq_true, ca, cc] at g56
                                            try omega
                                            all_goals
                                              try simp only [zwr_rne, zwr_req, upd_ne, upd_eq, ne_eq, Nat.reduceEqDiff, not_false_eq_true, ca, cc]
                                              exact ⟨by first | rfl | trivial, hh⟩
                                      · try simp only [zwr_rne, zwr_req, upd_ne, upd_eq, ne_eq, Nat.reduceEqDiff, not_false_eq_true, ca, cc] at g55
                                        try omega
                                        all_goals
                                          try simp only [zwr_rne, zwr_req, upd_ne, upd_eq, ne_eq, Nat.reduceEqDiff, not_false_eq_true, ca, cc]
                                          exact ⟨by first | rfl | trivial, hh⟩
                              · try simp only [zwr_rne, zwr_req, upd_ne, upd_eq, ne_eq, Nat.reduceEqDiff, not_false_eq_true, ca, cc] at g52
                                try omega
                                all_goals
                                  try simp only [one_ne, zero_eq, if_false, if_true, or_true, true_or, or_false, false_or]
                                  try simp only [zwr_rne, zwr_req, upd_ne, upd_eq, ne_eq, Nat.reduceEqDiff, not_false_eq_true, ca, cc]
                                  exact ⟨by first | rfl | trivial, hh⟩
                      · try simp only [zwr_rne, zwr_req, upd_ne, upd_eq, ne_eq, Nat.reduceEqDiff, not_false_eq_true, ca, cc] at g45
                        try omega
                        all_goals
                          try simp only [one_ne, zero_eq, if_false, if_true, or_true, true_or, or_false, false_or]
                          try simp only [zwr_rne, zwr_req, upd_ne, upd_eq, ne_eq, Nat.reduceEqDiff, not_false_eq_true, ca, cc]
                          exact ⟨by first | rfl | trivial, hh⟩
          · try simp only [zwr_rne, zwr_req, upd_ne, upd_eq, ne_eq, Nat.reduceEqDiff, not_false_eq_true, ca, cc] at g2
            try omega
            all_goals
              refine c_hasC (fun g58 g58' => ?_) (fun g58 => ?_)
              · try simp only [zwr_rne, zwr_req, upd_ne, upd_eq, ne_eq, Nat.reduceEqDiff, not_false_eq_true, ca, cc] at g58
                try simp only [zwr_rne, zwr_req, upd_ne, upd_eq, ne_eq, Nat.reduceEqDiff, not_false_eq_true, ca, cc] at g58'
                try omega
                all_goals
                  try simp only [one_ne, zero_eq, if_false, if_true, or_true, true_or, or_false, false_or]
                  refine zeq (fun g59 => ?_) (fun g59 => ?_)
                  · try simp only [zwr_rne, zwr_req, upd_ne, upd_eq, ne_eq, Nat.reduceEqDiff, not_false_eq_true, ca, cc] at g59
                    try omega
                    all_goals
                      refine ⟨by first | assumption | exact vin (by omega) | exact vp_in_I.mpr (by omega), ?_⟩
                      refine ⟨by first | assumption | exact vin (by omega) | exact vp_in_I.mpr (by omega), ?_⟩
                      rintro _ rfl
                      try simp only [zwr_rne, zwr_req, upd_ne, upd_eq, ne_eq, Nat.reduceEqDiff, not_false_eq_true, ca, cc]
                      refine c_changed ?_
                      try simp only [zwr_rne, zwr_req, upd_ne, upd_eq, ne_eq, Nat.reduceEqDiff, not_false_eq_true, ca, cc]
                      refine en_X12_charge ?_
                      try simp only [zwr_rne, zwr_req, upd_ne, upd_eq, ne_eq, Nat.reduceEqDiff, not_false_eq_true, ca, cc]
                      refine m_isAsset (by first | omega | (simp only [zwr_rne, zwr_req, upd_ne, upd_eq, ne_eq, Nat.reduceEqDiff, not_false_eq_true, ca, cc]; omega)) (fun g60 g60' => ?_) (fun g60 => ?_)
                      · try simp only [zwr_rne, zwr_req, upd_ne, upd_eq, ne_eq, Nat.reduceEqDiff, not_false_eq_true, ca, cc] at g60
                        try simp only [zwr_rne, zwr_req, upd_ne, upd_eq, ne_eq, Nat.reduceEqDiff, not_false_eq_true, ca, cc] at g60'
                        try omega
                        all_goals
                          try simp only [one_ne, zero_eq, if_false, if_true, or_true, true_or, or_false, false_or]
                          try simp only [zwr_rne, zwr_req, upd_ne, upd_eq, ne_eq, Nat.reduceEqDiff, not_false_eq_true, ca, cc]
                          refine zeq (fun g61 => ?_) (fun g61 => ?_)
                          · try simp only [zwr_rne, zwr_req, upd_ne, upd_eq, ne_eq, Nat.reduceEqDiff, not_false_eq_true, ca, cc] at g61
                            try omega
                            all_goals
                              try simp only [zwr_rne, zwr_req, upd_ne, upd_eq, ne_eq, Nat.reduceEqDiff, not_false_eq_true, ca, cc]
                              refine zeq (fun g62 => ?_) (fun g62 => ?_)
                              · try simp only [zwr_rne, zwr_req, upd_ne, upd_eq, ne_eq, Nat.reduceEqDiff, not_false_eq_true, ca, cc] at g62
                                try omega
                                all_goals
                                  try simp only [zwr_rne, zwr_req, upd_ne, upd_eq, ne_eq, Nat.reduceEqDiff, not_false_eq_true, ca, cc]
                                  refine ⟨by first | assumption | exact vin (by omega) | exact vp_in_I.mpr (by omega), ?_⟩
                                  refine zeq (fun g63 => ?_) (fun g63 => ?_)
                                  · try simp only [zwr_rne, zwr_req, upd_ne, upd_eq, ne_eq, Nat.reduceEqDiff, not_false_eq_true, ca, cc] at g63
                                    try omega
                                    all_goals
                                      try simp only [zwr_rne, zwr_req, upd_ne, upd_eq, ne_eq, Nat.reduceEqDiff, not_false_eq_true, ca, cc]
                                      refine ⟨by first | assumption | exact vin (by omega) | exact vp_in_I.mpr (by omega), ?_⟩
                                      rintro _ rfl
                                      try simp only [zwr_rne, zwr_req, upd_ne, upd_eq, ne_eq, Nat.reduceEqDiff, not_false_eq_true, ca, cc]
                                      refine m_orNone s14 ?_
                                      try simp only [zwr_rne, zwr_req, upd_ne, upd_eq, ne_eq, Nat.reduceEqDiff, not_false_eq_true, ca, cc]
                                      refine ⟨s5, ?_⟩
                                      unfold Rall
                                      simp only [zwr_rne, zwr_req, upd_ne, upd_eq, ne_eq, Nat.reduceEqDiff, not_false_eq_true]
                                      exact ⟨⟨k1, k2, k3, k4, k5, k6, k7, k8, k9⟩, kas.setC (enc_nn (by omega)).symm (by omega) (by omega), kcl, kda, kdh, kpl, kkp, ksh, kwt, ktp, klw, ksd, Rwx_stale, Rwx_stale⟩
                                  · try simp only [zwr_rne, zwr_req, upd_ne, upd_eq, ne_eq, Nat.reduceEqDiff, not_false_eq_true, ca, cc] at g63
                                    try omega
                                    all_goals
                                      try simp only [zwr_rne, zwr_req, upd_ne, upd_eq, ne_eq, Nat.reduceEqDiff, not_false_eq_true, ca, cc]
                                      refine ⟨by first | assumption | exact vin (by omega) | exact vp_in_I.mpr (by omega), ?_⟩
                                      rintro _ rfl
                                      try simp only [zwr_rne, zwr_req, upd_ne, upd_eq, ne_eq, Nat.reduceEqDiff, not_false_eq_true, ca, cc]
                                      refine m_orNone s14 ?_
                                      try simp only [zwr_rne, zwr_req, upd_ne, upd_eq, ne_eq, Nat.reduceEqDiff, not_false_eq_true, ca, cc]
                                      refine ⟨s5, ?_⟩
                                      unfold Rall
                                      simp only [zwr_rne, zwr_req, upd_ne, upd_eq, ne_eq, Nat.reduceEqDiff, not_false_eq_true]
                                      exact ⟨⟨k1, k2, k3, k4, k5, k6, k7, k8, k9⟩, kas.setC (enc_nn (by omega)).symm (by omega) (by omega), kcl, kda, kdh, kpl, kkp, ksh, kwt, ktp, klw, ksd, Rwx_stale, Rwx_stale⟩
                              · try simp only [zwr_rne, zwr_req, upd_ne, upd_eq, ne_eq, Nat.reduceEqDiff, not_false_eq_true, ca, cc] at g62
                                try omega
                                all_goals
                                  try simp only [zwr_rne, zwr_req, upd_ne, upd_eq, ne_eq, Nat.reduceEqDiff, not_false_eq_true, ca, cc]
                                  refine ⟨by first | assumption | exact vin (by omega) | exact vp_in_I.mpr (by omega), ?_⟩
                                  refine zeq (fun g64 => ?_) (fun g64 => ?_)
                                  · try simp only [zwr_rne, zwr_req, upd_ne, upd_eq, ne_eq, Nat.reduceEqDiff, not_false_eq_true, ca, cc] at g64
                                    try omega
                                    all_goals
                                      try simp only [zwr_rne, zwr_req, upd_ne, upd_eq, ne_eq, Nat.reduceEqDiff, not_false_eq_true, ca, cc]
                                      refine ⟨by first | assumption | exact vin (by omega) | exact vp_in_I.mpr (by omega), ?_⟩
                                      refine ⟨by first | assumption | exact vin (by omega) | exact vp_in_I.mpr (by omega), ?_⟩
                                      refine zeq (fun g65 => ?_) (fun g65 => ?_)
                                      · try simp only [zwr_rne, zwr_req, upd_ne, upd_eq, ne_eq, Nat.reduceEqDiff, not_false_eq_true, ca, cc] at g65
                                        try omega
                                        all_goals
                                          try simp only [zwr_rne, zwr_req, upd_ne, upd_eq, ne_eq, Nat.reduceEqDiff, not_false_eq_true, ca, cc]
                                          refine ⟨by first | assumption | exact vin (by omega) | exact vp_in_I.mpr (by omega), ?_⟩
                                          refine zeq (fun g66 => ?_) (fun g66 => ?_)
                                          · try simp only [zwr_rne, zwr_req, upd_ne, upd_eq, ne_eq, Nat.reduceEqDiff, not_false_eq_true, ca, cc] at g66
                                            try omega
                                            all_goals
                                              try simp only [zwr_rne, zwr_req, upd_ne, upd_eq, ne_eq, Nat.reduceEqDiff, not_false_eq_true, ca, cc]
                                              refine ⟨by first | assumption | exact vin (by omega) | exact vp_in_I.mpr (by omega), ?_⟩
                                              rintro _ rfl
                                              try simp only [zwr_rne, zwr_req, upd_ne, upd_eq, ne_eq, Nat.reduceEqDiff, not_false_eq_true, ca, cc]
                                              refine m_orNone s14 ?_
                                              try simp only [zwr_rne, zwr_req, upd_ne, upd_eq, ne_eq, Nat.reduceEqDiff, not_false_eq_true, ca, cc]
                                              refine ⟨s5, ?_⟩
                                              unfold Rall
                                              simp only [zwr_rne, zwr_req, upd_ne, upd_eq, ne_eq, Nat.reduceEqDiff, not_false_eq_true]
                                              exact ⟨⟨k1, k2, k3, k4, k5, k6, k7, k8, k9⟩, kas.setC (enc_nn (by omega)).symm (by omega) (by omega), kcl, kda, kdh, kpl, kkp, ksh, kwt, ktp, klw, ksd, Rwx_stale, Rwx_stale⟩
                                          · try simp only [zwr_rne, zwr_req, upd_ne, upd_eq, ne_eq, Nat.reduceEqDiff, not_false_eq_true, ca, cc] at g66
                                            try omega
                                            all_goals
                                              try simp only [zwr_rne, zwr_req, upd_ne, upd_eq, ne_eq, Nat.reduceEqDiff, not_false_eq_true, ca, cc]
                                              refine ⟨by first | assumption | exact vin (by omega) | exact vp_in_I.mpr (by omega), ?_⟩
                                              rintro _ rfl
                                              try simp only [zwr_rne, zwr_req, upd_ne, upd_eq, ne_eq, Nat.reduceEqDiff, not_false_eq_true, ca, cc]
                                              refine m_orNone s14 ?_
                                              try simp only [zwr_rne, zwr_req, upd_ne, upd_eq, ne_eq, Nat.reduceEqDiff, not_false_eq_true, ca, cc]
                                              refine ⟨s5, ?_⟩
                                              unfold Rall
                                              simp only [zwr_rne, zwr_req, upd_ne, upd_eq, ne_eq, Nat.reduceEqDiff, not_false_eq_true]
                                              exact ⟨⟨k1, k2, k3, k4, k5, k6, k7, k8, k9⟩, kas.setC (enc_nn (by omega)).symm (by omega) (by omega), kcl, kda, kdh, kpl, kkp, ksh, kwt, ktp, klw, ksd, Rwx_stale, Rwx_stale⟩
                                      · try simp only [zwr_rne, zwr_req, upd_ne, upd_eq, ne_eq, Nat.reduceEqDiff, not_false_eq_true, ca, cc] at g65
                                        try omega
                                        all_goals
                                          try simp only [zwr_rne, zwr_req, upd_ne, upd_eq, ne_eq, Nat.reduceEqDiff, not_false_eq_true, ca, cc]
                                          exact ⟨by first | rfl | trivial, hh⟩
                                  · try simp only [zwr_rne, zwr_req, upd_ne, upd_eq, ne_eq, Nat.reduceEqDiff, not_false_eq_true, ca, cc] at g64
                                    try omega
                                    all_goals
                                      try simp only [zwr_rne, zwr_req, upd_ne, upd_eq, ne_eq, Nat.reduceEqDiff, not_false_eq_true, ca, cc]
                                      exact ⟨by first | rfl | trivial, hh⟩
                          · try simp only [zwr_rne, zwr_req, upd_ne, upd_eq, ne_eq, Nat.reduceEqDiff, not_false_eq_true, ca, cc] at g61
                            try omega
                            all_goals
                              try simp only [zwr_rne, zwr_req, upd_ne, upd_eq, ne_eq, Nat.reduceEqDiff, not_false_eq_true, ca, cc]
                              refine m_isClaim (by first | omega | (simp only [zwr_rne, zwr_req, upd_ne, upd_eq, ne_eq, Nat.reduceEqDiff, not_false_eq_true, ca, cc]; omega)) (fun g67 g67' => ?_) (fun g67 => ?_)
                              · try simp only [zwr_rne, zwr_req, upd_ne, upd_eq, ne_eq, Nat.reduceEqDiff, not_false_eq_true, ca, cc] at g67
                                try simp only [zwr_rne, zwr_req, upd_ne, upd_eq, ne_eq, Nat.reduceEqDiff, not_false_eq_true, ca, cc] at g67'
                                try omega
                                all_goals
                                  try simp only [one_ne, zero_eq, if_false, if_true, or_true, true_or, or_false, false_or]
                                  try simp only [zwr_rne, zwr_req, upd_ne, upd_eq, ne_eq, Nat.reduceEqDiff, not_false_eq_true, ca, cc]
                                  refine zeq (fun g68 => ?_) (fun g68 => ?_)
                                  · try simp only [zwr_rne, zwr_req, upd_ne, upd_eq, ne_eq, Nat.reduceEqDiff, not_false_eq_true, ca, cc] at g68
                                    try omega
                                    all_goals
                                      try simp only [zwr_rne, zwr_req, upd_ne, upd_eq, ne_eq, Nat.reduceEqDiff, not_false_eq_true, ca, cc]
                                      refine ⟨by first | assumption | exact vin (by omega) | exact vp_in_I.mpr (by omega), ?_⟩
                                      refine zeq (fun g69 => ?_) (fun g69 => ?_)
                                      · try simp only [zwr_rne, zwr_req, upd_ne, upd_eq, ne_eq, Nat.reduceEqDiff, not_false_eq_true, ca, cc] at g69
                                        try omega
                                        all_goals
                                          try simp only [zwr_rne, zwr_req, upd_ne, upd_eq, ne_eq, Nat.reduceEqDiff, not_false_eq_true, ca, cc]
                                          refine ⟨by first | assumption | exact vin (by omega) | exact vp_in_I.mpr (by omega), ?_⟩
                                          rintro _ rfl
                                          try simp only [zwr_rne, zwr_req, upd_ne, upd_eq, ne_eq, Nat.reduceEqDiff, not_false_eq_true, ca, cc]
                                          refine m_orNone s14 ?_
                                          try simp only [zwr_rne, zwr_req, upd_ne, upd_eq, ne_eq, Nat.reduceEqDiff, not_false_eq_true, ca, cc]
                                          refine ⟨s5, ?_⟩
                                          unfold Rall
                                          simp only [zwr_rne, zwr_req, upd_ne, upd_eq, ne_eq, Nat.reduceEqDiff, not_false_eq_true]
                                          exact ⟨⟨k1, k2, k3, k4, k5, k6, k7, k8, k9⟩, kas.setC (enc_nn (by omega)).symm (by omega) (by omega), kcl, kda, kdh, kpl, kkp, ksh, kwt, ktp, klw, ksd, Rwx_stale, Rwx_stale⟩
                                      · try simp only [zwr_rne, zwr_req, upd_ne, upd_eq, ne_eq, Nat.reduceEqDiff, not_false_eq_true, ca, cc] at g69
                                        try omega
                                        all_goals
                                          try simp only [zwr_rne, zwr_req, upd_ne, upd_eq, ne_eq, Nat.reduceEqDiff, not_false_eq_true, ca, cc]
                                          refine ⟨by first | assumption | exact vin (by omega) | exact vp_in_I.mpr (by omega), ?_⟩
                                          rintro _ rfl
                                          try simp only [zwr_rne, zwr_req, upd_ne, upd_eq, ne_eq, Nat.reduceEqDiff, not_false_eq_true, ca, cc]
                                          refine m_orNone s14 ?_
                                          try simp only [zwr_rne, zwr_req, upd_ne, upd_eq, ne_eq, Nat.reduceEqDiff, not_false_eq_true, ca, cc]
                                          refine ⟨s5, ?_⟩
                                          unfold Rall
                                          simp only [zwr_rne, zwr_req, upd_ne, upd_eq, ne_eq, Nat.reduceEqDiff, not_false_eq_true]
                                          exact ⟨⟨k1, k2, k3, k4, k5, k6, k7, k8, k9⟩, kas.setC (enc_nn (by omega)).symm (by omega) (by omega), kcl, kda, kdh, kpl, kkp, ksh, kwt, ktp, klw, ksd, Rwx_stale, Rwx_stale⟩
                                  · try simp only [zwr_rne, zwr_req, upd_ne, upd_eq, ne_eq, Nat.reduceEqDiff, not_false_eq_true, ca, cc] at g68
                                    try omega
                                    all_goals
                                      try simp only [zwr_rne, zwr_req, upd_ne, upd_eq, ne_eq, Nat.reduceEqDiff, not_false_eq_true, ca, cc]
                                      refine ⟨by first | assumption | exact vin (by omega) | exact vp_in_I.mpr (by omega), ?_⟩
                                      refine zeq (fun g70 => ?_) (fun g70 => ?_)
                                      · try simp only [zwr_rne, zwr_req, upd_ne, upd_eq, ne_eq, Nat.reduceEqDiff, not_false_eq_true, ca, cc] at g70
                                        try omega
                                        all_goals
                                          try simp only [zwr_rne, zwr_req, upd_ne, upd_eq, ne_eq, Nat.reduceEqDiff, not_false_eq_true, ca, cc]
                                          refine ⟨by first | assumption | exact vin (by omega) | exact vp_in_I.mpr (by omega), ?_⟩
                                          refine ⟨by first | assumption | exact vin (by omega) | exact vp_in_I.mpr (by omega), ?_⟩
                                          refine zeq (fun g71 => ?_) (fun g71 => ?_)
                                          · try simp only [zwr_rne, zwr_req, upd_ne, upd_eq, ne_eq, Nat.reduceEqDiff, not_false_eq_true, ca, cc] at g71
                                            try omega
                                            all_goals
                                              try simp only [zwr_rne, zwr_req, upd_ne, upd_eq, ne_eq, Nat.reduceEqDiff, not_false_eq_true, ca, cc]
                                              refine ⟨by first | assumption | exact vin (by omega) | exact vp_in_I.mpr (by omega), ?_⟩
                                              refine zeq (fun g72 => ?_) (fun g72 => ?_)
                                              · try simp only [zwr_rne, zwr_req, upd_ne, upd_eq, ne_eq, Nat.reduceEqDiff, not_false_eq_true, ca, cc] at g72
                                                try omega
                                                all_goals
                                                  try simp only [zwr_rne, zwr_req, upd_ne, upd_eq, ne_eq, Nat.reduceEqDiff, not_false_eq_true, ca, cc]
                                                  refine ⟨by first | assumption | exact vin (by omega) | exact vp_in_I.mpr (by omega), ?_⟩
                                                  rintro _ rfl
                                                  try simp only [zwr_rne, zwr_req, upd_ne, upd_eq, ne_eq, Nat.reduceEqDiff, not_false_eq_true, ca, cc]
                                                  refine m_orNone s14 ?_
                                                  try simp only [zwr_rne, zwr_req, upd_ne, upd_eq, ne_eq, Nat.reduceEqDiff, not_false_eq_true, ca, cc]
                                                  refine ⟨s5, ?_⟩
                                                  unfold Rall
                                                  simp only [zwr_rne, zwr_req, upd_ne, upd_eq, ne_eq, Nat.reduceEqDiff, not_false_eq_true]
                                                  exact ⟨⟨k1, k2, k3, k4, k5, k6, k7, k8, k9⟩, kas.setC (enc_nn (by omega)).symm (by omega) (by omega), kcl, kda, kdh, kpl, kkp, ksh, kwt, ktp, klw, ksd, Rwx_stale, Rwx_stale⟩
                                              · try simp only [zwr_rne, zwr_req, upd_ne, upd_eq, ne_eq, Nat.reduceEqDiff, not_false_eq_true, ca, cc] at g72
                                                try omega
                                                all_goals
                                                  try simp only [zwr_rne, zwr_req, upd_ne, upd_eq, ne_eq, Nat.reduceEqDiff, not_false_eq_true, ca, cc]
                                                  refine ⟨by first | assumption | exact vin (by omega) | exact vp_in_I.mpr (by omega), ?_⟩
                                                  rintro _ rfl
                                                  try simp only [zwr_rne, zwr_req, upd_ne, upd_eq, ne_eq, Nat.reduceEqDiff, not_false_eq_true, ca, cc]
                                                  refine m_orNone s14 ?_
                                                  try simp only [zwr_rne, zwr_req, upd_ne, upd_eq, ne_eq, Nat.reduceEqDiff, not_false_eq_true, ca, cc]
                                                  refine ⟨s5, ?_⟩
                                                  unfold Rall
                                                  simp only [zwr_rne, zwr_req, upd_ne, upd_eq, ne_eq, Nat.reduceEqDiff, not_false_eq_true]
                                                  exact ⟨⟨k1, k2, k3, k4, k5, k6, k7, k8, k9⟩, kas.setC (enc_nn (by omega)).symm (by omega) (by omega), kcl, kda, kdh, kpl, kkp, ksh, kwt, ktp, klw, ksd, Rwx_stale, Rwx_stale⟩
                                          · try simp only [zwr_rne, zwr_req, upd_ne, upd_eq, ne_eq, Nat.reduceEqDiff, not_false_eq_true, ca, cc] at g71
                                            try omega
                                            all_goals
                                              try simp only [zwr_rne, zwr_req, upd_ne, upd_eq, ne_eq, Nat.reduceEqDiff, not_false_eq_true, ca, cc]
                                              exact ⟨by first | rfl | trivial, hh⟩
                                      · try simp only [zwr_rne, zwr_req, upd_ne, upd_eq, ne_eq, Nat.reduceEqDiff, not_false_eq_true, ca, cc] at g70
                                        try omega
                                        all_goals
                                          try simp only [zwr_rne, zwr_req, upd_ne, upd_eq, ne_eq, Nat.reduceEqDiff, not_false_eq_true, ca, cc]
                                          exact ⟨by first | rfl | trivial, hh⟩
                              · try simp only [zwr_rne, zwr_req, upd_ne, upd_eq, ne_eq, Nat.reduceEqDiff, not_false_eq_true, ca, cc] at g67
                                try omega
                                all_goals
                                  try simp only [one_ne, zero_eq, if_false, if_true, or_true, true_or, or_false, false_or]
                                  try simp only [zwr_rne, zwr_req, upd_ne, upd_eq, ne_eq, Nat.reduceEqDiff, not_false_eq_true, ca, cc]
                                  exact ⟨by first | rfl | trivial, hh⟩
                      · try simp only [zwr_rne, zwr_req, upd_ne, upd_eq, ne_eq, Nat.reduceEqDiff, not_false_eq_true, ca, cc] at g60
                        try omega
                        all_goals
                          try simp only [one_ne, zero_eq, if_false, if_true, or_true, true_or, or_false, false_or]
                          try simp only [zwr_rne, zwr_req, upd_ne, upd_eq, ne_eq, Nat.reduceEqDiff, not_false_eq_true, ca, cc]
                          exact ⟨by first | rfl | trivial, hh⟩
                  · try simp only [zwr_rne, zwr_req, upd_ne, upd_eq, ne_eq, Nat.reduceEqDiff, not_false_eq_true, ca, cc] at g59
                    try omega
                    all_goals
                      refine ⟨by first | assumption | exact vin (by omega) | exact vp_in_I.mpr (by omega), ?_⟩
                      refine zeq (fun g73 => ?_) (fun g73 => ?_)
                      · try simp only [zwr_rne, zwr_req, upd_ne, upd_eq, ne_eq, Nat.reduceEqDiff, not_false_eq_true, ca, cc] at g73
                        try omega
                        all_goals
                          refine ⟨by first | assumption | exact vin (by omega) | exact vp_in_I.mpr (by omega), ?_⟩
                          refine ⟨by first | assumption | exact vin (by omega) | exact vp_in_I.mpr (by omega), ?_⟩
                          refine zeq (fun g74 => ?_) (fun g74 => ?_)
                          · try simp only [zwr_rne, zwr_req, upd_ne, upd_eq, ne_eq, Nat.reduceEqDiff, not_false_eq_true, ca, cc] at g74
                            try omega
                            all_goals
                              refine ⟨by first | assumption | exact vin (by omega) | exact vp_in_I.mpr (by omega), ?_⟩
                              refine ⟨by first | assumption | exact vin (by omega) | exact vp_in_I.mpr (by omega), ?_⟩
                              rintro _ rfl
                              try simp only [zwr_rne, zwr_req, upd_ne, upd_eq, ne_eq, Nat.reduceEqDiff, not_false_eq_true, ca, cc]
                              refine c_changed ?_
                              try simp only [zwr_rne, zwr_req, upd_ne, upd_eq, ne_eq, Nat.reduceEqDiff, not_false_eq_true, ca, cc]
                              refine en_X12_charge ?_
                              try simp only [zwr_rne, zwr_req, upd_ne, upd_eq, ne_eq, Nat.reduceEqDiff, not_false_eq_true, ca, cc]
                              refine m_isAsset (by first | omega | (simp only [zwr_rne, zwr_req, upd_ne, upd_eq, ne_eq, Nat.reduceEqDiff, not_false_eq_true, ca, cc]; omega)) (fun g75 g75' => ?_) (fun g75 => ?_)
                              · try simp only [zwr_rne, zwr_req, upd_ne, upd_eq, ne_eq, Nat.reduceEqDiff, not_false_eq_true, ca, cc] at g75
                                try simp only [zwr_rne, zwr_req, upd_ne, upd_eq, ne_eq, Nat.reduceEqDiff, not_false_eq_true, ca, cc] at g75'
                                try omega
                                all_goals
                                  try simp only [one_ne, zero_eq, if_false, if_true, or_true, true_or, or_false, false_or]
                                  try simp only [zwr_rne, zwr_req, upd_ne, upd_eq, ne_eq, Nat.reduceEqDiff, not_false_eq_true, ca, cc]
                                  refine zeq (fun g76 => ?_) (fun g76 => ?_)
                                  · try simp only [zwr_rne, zwr_req, upd_ne, upd_eq, ne_eq, Nat.reduceEqDiff, not_false_eq_true, ca, cc] at g76
                                    try omega
                                    all_goals
                                      try simp only [zwr_rne, zwr_req, upd_ne, upd_eq, ne_eq, Nat.reduceEqDiff, not_false_eq_true, ca, cc]
                                      refine zeq (fun g77 => ?_) (fun g77 => ?_)
                                      · try simp only [zwr_rne, zwr_req, upd_ne, upd_eq, ne_eq, Nat.reduceEqDiff, not_false_eq_true, ca, cc] at g77
                                        try omega
                                        all_goals
                                          try simp only [zwr_rne, zwr_req, upd_ne, upd_eq, ne_eq, Nat.reduceEqDiff, not_false_eq_true, ca, cc]
                                          refine ⟨by first | assumption | exact vin (by omega) | exact vp_in_I.mpr (by omega), ?_⟩
                                          refine zeq (fun g78 => ?_) (fun g78 => ?_)
                                          · try simp only [zwr_rne, zwr_req, upd_ne, upd_eq, ne_eq, Nat.reduceEqDiff, not_false_eq_true, ca, cc] at g78
                                            try omega
                                            all_goals
                                              try simp only [zwr_rne, zwr_req, upd_ne, upd_eq, ne_eq, Nat.reduceEqDiff, not_false_eq_true, ca, cc]
                                              refine ⟨by first | assumption | exact vin (by omega) | exact vp_in_I.mpr (by omega), ?_⟩
                                              rintro _ rfl
                                              try simp only [zwr_rne, zwr_req, upd_ne, upd_eq, ne_eq, Nat.reduceEqDiff, not_false_eq_true, ca, cc]
                                              refine m_orNone s14 ?_
                                              try simp only [zwr_rne, zwr_req, upd_ne, upd_eq, ne_eq, Nat.reduceEqDiff, not_false_eq_true, ca, cc]
                                              refine ⟨s5, ?_⟩
                                              unfold Rall
                                              simp only [zwr_rne, zwr_req, upd_ne, upd_eq, ne_eq, Nat.reduceEqDiff, not_false_eq_true]
                                              exact ⟨⟨k1, k2, k3, k4, k5, k6, k7, k8, k9⟩, kas.setC (enc_nn (by omega)).symm (by omega) (by omega), kcl, kda, kdh, kpl, kkp, ksh, kwt, ktp, klw, ksd, Rwx_stale, Rwx_stale⟩
                                          · try simp only [zwr_rne, zwr_req, upd_ne, upd_eq, ne_eq, Nat.reduceEqDiff, not_false_eq_true, ca, cc] at g78
                                            try omega
                                            all_goals
                                              try simp only [zwr_rne, zwr_req, upd_ne, upd_eq, ne_eq, Nat.reduceEqDiff, not_false_eq_true, ca, cc]
                                              refine ⟨by first | assumption | exact vin (by omega) | exact vp_in_I.mpr (by omega), ?_⟩
                                              rintro _ rfl
                                              try simp only [zwr_rne, zwr_req, upd_ne, upd_eq, ne_eq, Nat.reduceEqDiff, not_false_eq_true, ca, cc]
                                              refine m_orNone s14 ?_
                                              try simp only [zwr_rne, zwr_req, upd_ne, upd_eq, ne_eq, Nat.reduceEqDiff, not_false_eq_true, ca, cc]
                                              refine ⟨s5, ?_⟩
                                              unfold Rall
                                              simp only [zwr_rne, zwr_req, upd_ne, upd_eq, ne_eq, Nat.reduceEqDiff, not_false_eq_true]
                                              exact ⟨⟨k1, k2, k3, k4, k5, k6, k7, k8, k9⟩, kas.setC (enc_nn (by omega)).symm (by omega) (by omega), kcl, kda, kdh, kpl, kkp, ksh, kwt, ktp, klw, ksd, Rwx_stale, Rwx_stale⟩
                                      · try simp only [zwr_rne, zwr_req, upd_ne, upd_eq, ne_eq, Nat.reduceEqDiff, not_false_eq_true, ca, cc] at g77
                                        try omega
                                        all_goals
                                          try simp only [zwr_rne, zwr_req, upd_ne, upd_eq, ne_eq, Nat.reduceEqDiff, not_false_eq_true, ca, cc]
                                          refine ⟨by first | assumption | exact vin (by omega) | exact vp_in_I.mpr (by omega), ?_⟩
                                          refine zeq (fun g79 => ?_) (fun g79 => ?_)
                                          · try simp only [zwr_rne, zwr_req, upd_ne, upd_eq, ne_eq, Nat.reduceEqDiff, not_false_eq_true, ca, cc] at g79
                                            try omega
                                            all_goals
                                              try simp only [zwr_rne, zwr_req, upd_ne, upd_eq, ne_eq, Nat.reduceEqDiff, not_false_eq_true, ca, cc]
                                              refine ⟨by first | assumption | exact vin (by omega) | exact vp_in_I.mpr (by omega), ?_⟩
                                              refine ⟨by first | assumption | exact vin (by omega) | exact vp_in_I.mpr (by omega), ?_⟩
                                              refine zeq (fun g80 => ?_) (fun g80 => ?_)
                                              · try simp only [zwr_rne, zwr_req, upd_ne, upd_eq, ne_eq, Nat.reduceEqDiff, not_false_eq_true, ca, cc] at g80
                                                try omega
                                                all_goals
                                                  try simp only [zwr_rne, zwr_req, upd_ne, upd_eq, ne_eq, Nat.reduceEqDiff, not_false_eq_true, ca, cc]
                                                  refine ⟨by first | assumption | exact vin (by omega) | exact vp_in_I.mpr (by omega), ?_⟩
                                                  refine zeq (fun g81 => ?_) (fun g81 => ?_)
                                                  · try simp only [zwr_rne, zwr_req, upd_ne, upd_eq, ne_eq, Nat.reduceEqDiff, not_false_eq_true, ca, cc] at g81
                                                    try omega
                                                    all_goals
                                                      try simp only [zwr_rne, zwr_req, upd_ne, upd_eq, ne_eq, Nat.reduceEqDiff, not_false_eq_true, ca, cc]
                                                      refine ⟨by first | assumption | exact vin (by omega) | exact vp_in_I.mpr (by omega), ?_⟩
                                                      rintro _ rfl
                                                      try simp only [zwr_rne, zwr_req, upd_ne, upd_eq, ne_eq, Nat.reduceEqDiff, not_false_eq_true, ca, cc]
                                                      refine m_orNone s14 ?_
                                                      try simp only [zwr_rne, zwr_req, upd_ne, upd_eq, ne_eq, Nat.reduceEqDiff, not_false_eq_true, ca, cc]
                                                      refine ⟨s5, ?_⟩
                                                      unfold Rall
                                                      simp only [zwr_rne, zwr_req, upd_ne, upd_eq, ne_eq, Nat.reduceEqDiff, not_false_eq_true]
                                                      exact ⟨⟨k1, k2, k3, k4, k5, k6, k7, k8, k9⟩, kas.setC (enc_nn (by omega)).symm (by omega) (by omega), kcl, kda, kdh, kpl, kkp, ksh, kwt, ktp, klw, ksd, Rwx_stale, Rwx_stale⟩
                                                  · try simp only [zwr_rne, zwr_req, upd_ne, upd_eq, ne_eq, Nat.reduceEqDiff, not_false_eq_true, ca, cc] at g81
                                                    try omega
                                                    all_goals
                                                      try simp only [zwr_rne, zwr_req, upd_ne, upd_eq, ne_eq, Nat.reduceEqDiff, not_false_eq_true, ca, cc]
                                                      refine ⟨by first | assumption | exact vin (by omega) | exact vp_in_I.mpr (by omega), ?_⟩
                                                      rintro _ rfl
                                                      try simp only [zwr_rne, zwr_req, upd_ne, upd_eq, ne_eq, Nat.reduceEqDiff, not_false_eq_true, ca, cc]
                                                      refine m_orNone s14 ?_
                                                      try simp only [zwr_rne, zwr_req, upd_ne, upd_eq, ne_eq, Nat.reduceEqDiff, not_false_eq_true, ca, cc]
                                                      refine ⟨s5, ?_⟩
                                                      unfold Rall
                                                      simp only [zwr_rne, zwr_req, upd_ne, upd_eq, ne_eq, Nat.reduceEqDiff, not_false_eq_true]
                                                      exact ⟨⟨k1, k2, k3, k4, k5, k6, k7, k8, k9⟩, kas.setC (enc_nn (by omega)).symm (by omega) (by omega), kcl, kda, kdh, kpl, kkp, ksh, kwt, ktp, klw, ksd, Rwx_stale, Rwx_stale⟩
                                              · try simp only [zwr_rne, zwr_req, upd_ne, upd_eq, ne_eq, Nat.reduceEqDiff, not_false_eq_true, ca, cc] at g80
                                                try omega
                                                all_goals
                                                  try simp only [zwr_rne, zwr_req, upd_ne, upd_eq, ne_eq, Nat.reduceEqDiff, not_false_eq_true, ca, cc]
                                                  exact ⟨by first | rfl | trivial, hh⟩
                                          · try simp only [zwr_rne, zwr_req, upd_ne, upd_eq, ne_eq, Nat.reduceEqDiff, not_false_eq_true, ca, cc] at g79
                                            try omega
                                            all_goals
                                              try simp only [zwr_rne, zwr_req, upd_ne, upd_eq, ne_eq, Nat.reduceEqDiff, not_false_eq_true, ca, cc]
                                              exact ⟨by first | rfl | trivial, hh⟩
                                  · try simp only [zwr_rne, zwr_req, upd_ne, upd_eq, ne_eq, Nat.reduceEqDiff, not_false_eq_true, ca, cc] at g76
                                    try omega
                                    all_goals
                                      try simp only [zwr_rne, zwr_req, upd_ne, upd_eq, ne_eq, Nat.reduceEqDiff, not_false_eq_true, ca, cc]
                                      refine m_isClaim (by first | omega | (simp only [zwr_rne, zwr_req, upd_ne, upd_eq, ne_eq, Nat.reduceEqDiff, not_false_eq_true, ca, cc]; omega)) (fun g82 g82' => ?_) (fun g82 => ?_)
                                      · try simp only [zwr_rne, zwr_req, upd_ne, upd_eq, ne_eq, Nat.reduceEqDiff, not_false_eq_true, ca, cc] at g82
                                        try simp only [zwr_rne, zwr_req, upd_ne, upd_eq, ne_eq, Nat.reduceEqDiff, not_false_eq_true, ca, cc] at g82'
                                        try omega
                                        all_goals
                                          try simp only [one_ne, zero_eq, if_false, if_true, or_true, true_or, or_false, false_or]
                                          try simp only [zwr_rne, zwr_req, upd_ne, upd_eq, ne_eq, Nat.reduceEqDiff, not_false_eq_true, ca, cc]
                                          refine zeq (fun g83 => ?_) (fun g83 => ?_)
                                          · try simp only [zwr_rne, zwr_req, upd_ne, upd_eq, ne_eq, Nat.reduceEqDiff, not_false_eq_true, ca, cc] at g83
                                            try omega
                                            all_goals
                                              try simp only [zwr_rne, zwr_req, upd_ne, upd_eq, ne_eq, Nat.reduceEqDiff, not_false_eq_true, ca, cc]
                                              refine ⟨by first | assumption | exact vin (by omega) | exact vp_in_I.mpr (by omega), ?_⟩
                                              refine zeq (fun g84 => ?_) (fun g84 => ?_)
                                              · try simp only [zwr_rne, zwr_req, upd_ne, upd_eq, ne_eq, Nat.reduceEqDiff, not_false_eq_true, ca, cc] at g84
                                                try omega
                                                all_goals
                                                  try simp only [zwr_rne, zwr_req, upd_ne, upd_eq, ne_eq, Nat.reduceEqDiff, not_false_eq_true, ca, cc]
                                                  refine ⟨by first | assumption | exact vin (by omega) | exact vp_in_I.mpr (by omega), ?_⟩
                                                  rintro _ rfl
                                                  try simp only [zwr_rne, zwr_req, upd_ne, upd_eq, ne_eq, Nat.reduceEqDiff, not_false_eq_true, ca, cc]
                                                  refine m_orNone s14 ?_
                                                  try simp only [zwr_rne, zwr_req, upd_ne, upd_eq, ne_eq, Nat.reduceEqDiff, not_false_eq_true, ca, cc]
                                                  refine ⟨s5, ?_⟩
                                                  unfold Rall
                                                  simp only [zwr_rne, zwr_req, upd_ne, upd_eq, ne_eq, Nat.reduceEqDiff, not_false_eq_true]
                                                  exact ⟨⟨k1, k2, k3, k4, k5, k6, k7, k8, k9⟩, kas.setC (enc_nn (by omega)).symm (by omega) (by omega), kcl, kda, kdh, kpl, kkp, ksh, kwt, ktp, klw, ksd, Rwx_stale, Rwx_stale⟩
                                              · try simp only [zwr_rne, zwr_req, upd_ne, upd_eq, ne_eq, Nat.reduceEqDiff, not_false_eq_true, ca, cc] at g84
                                                try omega
                                                all_goals
                                                  try simp only [zwr_rne, zwr_req, upd_ne, upd_eq, ne_eq, Nat.reduceEqDiff, not_false_eq_true, ca, cc]
                                                  refine ⟨by first | assumption | exact vin (by omega) | exact vp_in_I.mpr (by omega), ?_⟩
                                                  rintro _ rfl
                                                  try simp only [zwr_rne, zwr_req, upd_ne, upd_eq, ne_eq, Nat.reduceEqDiff, not_false_eq_true, ca, cc]
                                                  refine m_orNone s14 ?_
                                                  try simp only [zwr_rne, zwr_req, upd_ne, upd_eq, ne_eq, Nat.reduceEqDiff, not_false_eq_true, ca, cc]
                                                  refine ⟨s5, ?_⟩
                                                  unfold Rall
                                                  simp only [zwr_rne, zwr_req, upd_ne, upd_eq, ne_eq, Nat.reduceEqDiff, not_false_eq_true]
                                                  exact ⟨⟨k1, k2, k3, k4, k5, k6, k7, k8, k9⟩, kas.setC (enc_nn (by omega)).symm (by omega) (by omega), kcl, kda, kdh, kpl, kkp, ksh, kwt, ktp, klw, ksd, Rwx_stale, Rwx_stale⟩
                                          · try simp only [zwr_rne, zwr_req, upd_ne, upd_eq, ne_eq, Nat.reduceEqDiff, not_false_eq_true, ca, cc] at g83
                                            try omega
                                            all_goals
                                              try simp only [zwr_rne, zwr_req, upd_ne, upd_eq, ne_eq, Nat.reduceEqDiff, not_false_eq_true, ca, cc]
                                              refine ⟨by first | assumption | exact vin (by omega) | exact vp_in_I.mpr (by omega), ?_⟩
                                              refine zeq (fun g85 => ?_) (fun g85 => ?_)
                                              · try simp only [zwr_rne, zwr_req, upd_ne, upd_eq, ne_eq, Nat.reduceEqDiff, not_false_eq_true, ca, cc] at g85
                                                try omega
                                                all_goals
                                                  try simp only [zwr_rne, zwr_req, upd_ne, upd_eq, ne_eq, Nat.reduceEqDiff, not_false_eq_true, ca, cc]
                                                  refine ⟨by first | assumption | exact vin (by omega) | exact vp_in_I.mpr (by omega), ?_⟩
                                                  refine ⟨by first | assumption | exact vin (by omega) | exact vp_in_I.mpr (by omega), ?_⟩
                                                  refine zeq (fun g86 => ?_) (fun g86 => ?_)
                                                  · try simp only [zwr_rne, zwr_req, upd_ne, upd_eq, ne_eq, Nat.reduceEqDiff, not_false_eq_true, ca, cc] at g86
                                                    try omega
                                                    all_goals
                                                      try simp only [zwr_rne, zwr_req, upd_ne, upd_eq, ne_eq, Nat.reduceEqDiff, not_false_eq_true, ca, cc]
                                                      refine ⟨by first | assumption | exact vin (by omega) | exact vp_in_I.mpr (by omega), ?_⟩
                                                      refine zeq (fun g87 => ?_) (fun g87 => ?_)
                                                      · try simp only [zwr_rne, zwr_req, upd_ne, upd_eq, ne_eq, Nat.reduceEqDiff, not_false_eq_true, ca, cc] at g87
                                                        try omega
                                                        all_goals
                                                          try simp only [zwr_rne, zwr_req, upd_ne, upd_eq, ne_eq, Nat.reduceEqDiff, not_false_eq_true, ca, cc]
                                                          refine ⟨by first | assumption | exact vin (by omega) | exact vp_in_I.mpr (by omega), ?_⟩
                                                          rintro _ rfl
                                                          try simp only [zwr_rne, zwr_req, upd_ne, upd_eq, ne_eq, Nat.reduceEqDiff, not_false_eq_true, ca, cc]
                                                          refine m_orNone s14 ?_
                                                          try simp only [zwr_rne, zwr_req, upd_ne, upd_eq, ne_eq, Nat.reduceEqDiff, not_false_eq_true, ca, cc]
                                                          refine ⟨s5, ?_⟩
                                                          unfold Rall
                                                          simp only [zwr_rne, zwr_req, upd_ne, upd_eq, ne_eq, Nat.reduceEqDiff, not_false_eq_true]
                                                          exact ⟨⟨k1, k2, k3, k4, k5, k6, k7, k8, k9⟩, kas.setC (enc_nn (by omega)).symm (by omega) (by omega), kcl, kda, kdh, kpl, kkp, ksh, kwt, ktp, klw, ksd, Rwx_stale, Rwx_stale⟩
                                                      · try simp only [zwr_rne, zwr_req, upd_ne, upd_eq, ne_eq, Nat.reduceEqDiff, not_false_eq_true, ca, cc] at g87
                                                        try omega
                                                        all_goals
                                                          try simp only [zwr_rne, zwr_req, upd_ne, upd_eq, ne_eq, Nat.reduceEqDiff, not_false_eq_true, ca, cc]
                                                          refine ⟨by first | assumption | exact vin (by omega) | exact vp_in_I.mpr (by omega), ?_⟩
                                                          rintro _ rfl
                                                          try simp only [zwr_rne, zwr_req, upd_ne, upd_eq, ne_eq, Nat.reduceEqDiff, not_false_eq_true, ca, cc]
                                                          refine m_orNone s14 ?_
                                                          try simp only [zwr_rne, zwr_req, upd_ne, upd_eq, ne_eq, Nat.reduceEqDiff, not_false_eq_true, ca, cc]
                                                          refine ⟨s5, ?_⟩
                                                          unfold Rall
                                                          simp only [zwr_rne, zwr_req, upd_ne, upd_eq, ne_eq, Nat.reduceEqDiff, not_false_eq_true]
                                                          exact ⟨⟨k1, k2, k3, k4, k5, k6, k7, k8, k9⟩, kas.setC (enc_nn (by omega)).symm (by omega) (by omega), kcl, kda, kdh, kpl, kkp, ksh, kwt, ktp, klw, ksd, Rwx_stale, Rwx_stale⟩
                                                  · try simp only [zwr_rne, zwr_req, upd_ne, upd_eq, ne_eq, Nat.reduceEqDiff, not_false_eq_true, ca, cc] at g86
                                                    try omega
                                                    all_goals
                                                      try simp only [zwr_rne, zwr_req, upd_ne, upd_eq, ne_eq, Nat.reduceEqDiff, not_false_eq_true, ca, cc]
                                                      exact ⟨by first | rfl | trivial, hh⟩
                                              · try simp only [zwr_rne, zwr_req, upd_ne, upd_eq, ne_eq, Nat.reduceEqDiff, not_false_eq_true, ca, cc] at g85
                                                try omega
                                                all_goals
                                                  try simp only [zwr_rne, zwr_req, upd_ne, upd_eq, ne_eq, Nat.reduceEqDiff, not_false_eq_true, ca, cc]
                                                  exact ⟨by first | rfl | trivial, hh⟩
                                      · try simp only [zwr_rne, zwr_req, upd_ne, upd_eq, ne_eq, Nat.reduceEqDiff, not_false_eq_true, ca, cc] at g82
                                        try omega
                                        all_goals
                                          try simp only [one_ne, zero_eq, if_false, if_true, or_true, true_or, or_false, false_or]
                                          try simp only [zwr_rne, zwr_req, upd_ne, upd_eq, ne_eq, Nat.reduceEqDiff, not_false_eq_true, ca, cc]
                                          exact ⟨by first | rfl | trivial, hh⟩
                              · try simp only [zwr_rne, zwr_req, upd_ne, upd_eq, ne_eq, Nat.reduceEqDiff, not_false_eq_true, ca, cc] at g75
                                try omega
                                all_goals
                                  try simp only [one_ne, zero_eq, if_false, if_true, or_true, true_or, or_false, false_or]
                                  try simp only [zwr_rne, zwr_req, upd_ne, upd_eq, ne_eq, Nat.reduceEqDiff, not_false_eq_true, ca, cc]
                                  exact ⟨by first | rfl | trivial, hh⟩
                          · try simp only [zwr_rne, zwr_req, upd_ne, upd_eq, ne_eq, Nat.reduceEqDiff, not_false_eq_true, ca, cc] at g74
                            try omega
                            all_goals
                              refine en_X12_charge ?_
                              try simp only [zwr_rne, zwr_req, upd_ne, upd_eq, ne_eq, Nat.reduceEqDiff, not_false_eq_true, ca, cc]
                              refine m_isAsset (by first | omega | (simp only [zwr_rne, zwr_req, upd_ne, upd_eq, ne_eq, Nat.reduceEqDiff, not_false_eq_true, ca, cc]; omega)) (fun g88 g88' => ?_) (fun g88 => ?_)
                              · try simp only [zwr_rne, zwr_req, upd_ne, upd_eq, ne_eq, Nat.reduceEqDiff, not_false_eq_true, ca, cc] at g88
                                try simp only [zwr_rne, zwr_req, upd_ne, upd_eq, ne_eq, Nat.reduceEqDiff, not_false_eq_true, ca, cc] at g88'
                                try omega
                                all_goals
                                  try simp only [one_ne, zero_eq, if_false, if_true, or_true, true_or, or_false, false_or]
                                  try simp only [zwr_rne, zwr_req, upd_ne, upd_eq, ne_eq, Nat.reduceEqDiff, not_false_eq_true, ca, cc]
                                  refine zeq (fun g89 => ?_) (fun g89 => ?_)
                                  · try simp only [zwr_rne, zwr_req, upd_ne, upd_eq, ne_eq, Nat.reduceEqDiff, not_false_eq_true, ca, cc] at g89
                                    try omega
                                    all_goals
                                      try simp only [zwr_rne, zwr_req, upd_ne, upd_eq, ne_eq, Nat.reduceEqDiff, not_false_eq_true, ca, cc]
                                      refine zeq (fun g90 => ?_) (fun g90 => ?_)
                                      · try simp only [zwr_rne, zwr_req, upd_ne, upd_eq, ne_eq, Nat.reduceEqDiff, not_false_eq_true, ca, cc] at g90
                                        try omega
                                        all_goals
                                          try simp only [zwr_rne, zwr_req, upd_ne, upd_eq, ne_eq, Nat.reduceEqDiff, not_false_eq_true, ca, cc]
                                          refine ⟨by first | assumption | exact vin (by omega) | exact vp_in_I.mpr (by omega), ?_⟩
                                          refine zeq (fun g91 => ?_) (fun g91 => ?_)
                                          · try simp only [zwr_rne, zwr_req, upd_ne, upd_eq, ne_eq, Nat.reduceEqDiff, not_false_eq_true, ca, cc] at g91
                                            try omega
                                            all_goals
                                              try simp only [zwr_rne, zwr_req, upd_ne, upd_eq, ne_eq, Nat.reduceEqDiff, not_false_eq_true, ca, cc]
                                              refine ⟨by first | assumption | exact vin (by omega) | exact vp_in_I.mpr (by omega), ?_⟩
                                              rintro _ rfl
                                              try simp only [zwr_rne, zwr_req, upd_ne, upd_eq, ne_eq, Nat.reduceEqDiff, not_false_eq_true, ca, cc]
                                              refine m_orNone s14 ?_
                                              try simp only [zwr_rne, zwr_req, upd_ne, upd_eq, ne_eq, Nat.reduceEqDiff, not_false_eq_true, ca, cc]
                                              refine ⟨s5, ?_⟩
                                              unfold Rall
                                              simp only [zwr_rne, zwr_req, upd_ne, upd_eq, ne_eq, Nat.reduceEqDiff, not_false_eq_true]
                                              exact ⟨⟨k1, k2, k3, k4, k5, k6, k7, k8, k9⟩, kas.setC (enc_nn (by omega)).symm (by omega) (by omega), kcl, kda, kdh, kpl, kkp, ksh, kwt, ktp, klw, ksd, Rwx_stale, Rwx_stale⟩
                                          · try simp only [zwr_rne, zwr_req, upd_ne, upd_eq, ne_eq, Nat.reduceEqDiff, not_false_eq_true, ca, cc] at g91
                                            try omega
                                            all_goals
                                              try simp only [zwr_rne, zwr_req, upd_ne, upd_eq, ne_eq, Nat.reduceEqDiff, not_false_eq_true, ca, cc]
                                              refine ⟨by first | assumption | exact vin (by omega) | exact vp_in_I.mpr (by omega), ?_⟩
                                              rintro _ rfl
                                              try simp only [zwr_rne, zwr_req, upd_ne, upd_eq, ne_eq, Nat.reduceEqDiff, not_false_eq_true, ca, cc]
                                              refine m_orNone s14 ?_
                                              try simp only [zwr_rne, zwr_req, upd_ne, upd_eq, ne_eq, Nat.reduceEqDiff, not_false_eq_true, ca, cc]
                                              refine ⟨s5, ?_⟩
                                              unfold Rall
                                              simp only [zwr_rne, zwr_req, upd_ne, upd_eq, ne_eq, Nat.reduceEqDiff, not_false_eq_true]
                                              exact ⟨⟨k1, k2, k3, k4, k5, k6, k7, k8, k9⟩, kas.setC (enc_nn (by omega)).symm (by omega) (by omega), kcl, kda, kdh, kpl, kkp, ksh, kwt, ktp, klw, ksd, Rwx_stale, Rwx_stale⟩
                                      · try simp only [zwr_rne, zwr_req, upd_ne, upd_eq, ne_eq, Nat.reduceEqDiff, not_false_eq_true, ca, cc] at g90
                                        try omega
                                        all_goals
                                          try simp only [zwr_rne, zwr_req, upd_ne, upd_eq, ne_eq, Nat.reduceEqDiff, not_false_eq_true, ca, cc]
                                          refine ⟨by first | assumption | exact vin (by omega) | exact vp_in_I.mpr (by omega), ?_⟩
                                          refine zeq (fun g92 => ?_) (fun g92 => ?_)
                                          · try simp only [zwr_rne, zwr_req, upd_ne, upd_eq, ne_eq, Nat.reduceEqDiff, not_false_eq_true, ca, cc] at g92
                                            try omega
                                            all_goals
                                              try simp only [zwr_rne, zwr_req, upd_ne, upd_eq, ne_eq, Nat.reduceEqDiff, not_false_eq_true, ca, cc]
                                              refine ⟨by first | assumption | exact vin (by omega) | exact vp_in_I.mpr (by omega), ?_⟩
                                              refine ⟨by first | assumption | exact vin (by omega) | exact vp_in_I.mpr (by omega), ?_⟩
                                              refine zeq (fun g93 => ?_) (fun g93 => ?_)
                                              · try simp only [zwr_rne, zwr_req, upd_ne, upd_eq, ne_eq, Nat.reduceEqDiff, not_false_eq_true, ca, cc] at g93
                                                try omega
                                                all_goals
                                                  try simp only [zwr_rne, zwr_req, upd_ne, upd_eq, ne_eq, Nat.reduceEqDiff, not_false_eq_true, ca, cc]
                                                  refine ⟨by first | assumption | exact vin (by omega) | exact vp_in_I.mpr (by omega), ?_⟩
                                                  refine zeq (fun g94 => ?_) (fun g94 => ?_)
                                                  · try simp only [zwr_rne, zwr_req, upd_ne, upd_eq, ne_eq, Nat.reduceEqDiff, not_false_eq_true, ca, cc] at g94
                                                    try omega
                                                    all_goals
                                                      try simp only [zwr_rne, zwr_req, upd_ne, upd_eq, ne_eq, Nat.reduceEqDiff, not_false_eq_true, ca, cc]
                                                      refine ⟨by first | assumption | exact vin (by omega) | exact vp_in_I.mpr (by omega), ?_⟩
                                                      rintro _ rfl
                                                      try simp only [zwr_rne, zwr_req, upd_ne, upd_eq, ne_eq, Nat.reduceEqDiff, not_false_eq_true, ca, cc]
                                                      refine m_orNone s14 ?_
                                                      try simp only [zwr_rne, zwr_req, upd_ne, upd_eq, ne_eq, Nat.reduceEqDiff, not_false_eq_true, ca, cc]
                                                      refine ⟨s5, ?_⟩
                                                      unfold Rall
                                                      simp only [zwr_rne, zwr_req, upd_ne, upd_eq, ne_eq, Nat.reduceEqDiff, not_false_eq_true]
                                                      exact ⟨⟨k1, k2, k3, k4, k5, k6, k7, k8, k9⟩, kas.setC (enc_nn (by omega)).symm (by omega) (by omega), kcl, kda, kdh, kpl, kkp, ksh, kwt, ktp, klw, ksd, Rwx_stale, Rwx_stale⟩
                                                  · try simp only [zwr_rne, zwr_req, upd_ne, upd_eq, ne_eq, Nat.reduceEqDiff, not_false_eq_true, ca, cc] at g94
                                                    try omega
                                                    all_goals
                                                      try simp only [zwr_rne, zwr_req, upd_ne, upd_eq, ne_eq, Nat.reduceEqDiff, not_false_eq_true, ca, cc]
                                                      refine ⟨by first | assumption | exact vin (by omega) | exact vp_in_I.mpr (by omega), ?_⟩
                                                      rintro _ rfl
                                                      try simp only [zwr_rne, zwr_req, upd_ne, upd_eq, ne_eq, Nat.reduceEqDiff, not_false_eq_true, ca, cc]
                                                      refine m_orNone s14 ?_
                                                      try simp only [zwr_rne, zwr_req, upd_ne, upd_eq, ne_eq, Nat.reduceEqDiff, not_false_eq_true, ca, cc]
                                                      refine ⟨s5, ?_⟩
                                                      unfold Rall
                                                      simp only [zwr_rne, zwr_req, upd_ne, upd_eq, ne_eq, Nat.reduceEqDiff, not_false_eq_true]
                                                      exact ⟨⟨k1, k2, k3, k4, k5, k6, k7, k8, k9⟩, kas.setC (enc_nn (by omega)).symm (by omega) (by omega), kcl, kda, kdh, kpl, kkp, ksh, kwt, ktp, klw, ksd, Rwx_stale, Rwx_stale⟩
                                              · try simp only [zwr_rne, zwr_req, upd_ne, upd_eq, ne_eq, Nat.reduceEqDiff, not_false_eq_true, ca, cc] at g93
                                                try omega
                                                all_goals
                                                  try simp only [zwr_rne, zwr_req, upd_ne, upd_eq, ne_eq, Nat.reduceEqDiff, not_false_eq_true, ca, cc]
                                                  exact ⟨by first | rfl | trivial, hh⟩
                                          · try simp only [zwr_rne, zwr_req, upd_ne, upd_eq, ne_eq, Nat.reduceEqDiff, not_false_eq_true, ca, cc] at g92
                                            try omega
                                            all_goals
                                              try simp only [zwr_rne, zwr_req, upd_ne, upd_eq, ne_eq, Nat.reduceEqDiff, not_false_eq_true, ca, cc]
                                              exact ⟨by first | rfl | trivial, hh⟩
                                  · try simp only [zwr_rne, zwr_req, upd_ne, upd_eq, ne_eq, Nat.reduceEqDiff, not_false_eq_true, ca, cc] at g89
                                    try omega
                                    all_goals
                                      try simp only [zwr_rne, zwr_req, upd_ne, upd_eq, ne_eq, Nat.reduceEqDiff, not_false_eq_true, ca, cc]
                                      refine m_isClaim (by first | omega | (simp only [zwr_rne, zwr_req, upd_ne, upd_eq, ne_eq, Nat.reduceEqDiff, not_false_eq_true, ca, cc]; omega)) (fun g95 g95' => ?_) (fun g95 => ?_)
                                      · try simp only [zwr_rne, zwr_req, upd_ne, upd_eq, ne_eq, Nat.reduceEqDiff, not_false_eq_true, ca, cc] at g95
                                        try simp only [zwr_rne, zwr_req, upd_ne, upd_eq, ne_eq, Nat.reduceEqDiff, not_false_eq_true, ca, cc] at g95'
                                        try omega
                                        all_goals
                                          try simp only [one_ne, zero_eq, if_false, if_true, or_true, true_or, or_false, false_or]
                                          try simp only [zwr_rne, zwr_req, upd_ne, upd_eq, ne_eq, Nat.reduceEqDiff, not_false_eq_true, ca, cc]
                                          refine zeq (fun g96 => ?_) (fun g96 => ?_)
                                          · try simp only [zwr_rne, zwr_req, upd_ne, upd_eq, ne_eq, Nat.reduceEqDiff, not_false_eq_true, ca, cc] at g96
                                            try omega
                                            all_goals
                                              try simp only [zwr_rne, zwr_req, upd_ne, upd_eq, ne_eq, Nat.reduceEqDiff, not_false_eq_true, ca, cc]
                                              refine ⟨by first | assumption | exact vin (by omega) | exact vp_in_I.mpr (by omega), ?_⟩
                                              refine zeq (fun g97 => ?_) (fun g97 => ?_)
                                              · try simp only [zwr_rne, zwr_req, upd_ne, upd_eq, ne_eq, Nat.reduceEqDiff, not_false_eq_true, ca, cc] at g97
                                                try omega
                                                all_goals
                                                  try simp only [zwr_rne, zwr_req, upd_ne, upd_eq, ne_eq, Nat.reduceEqDiff, not_false_eq_true, ca, cc]
                                                  refine ⟨by first | assumption | exact vin (by omega) | exact vp_in_I.mpr (by omega), ?_⟩
                                                  rintro _ rfl
                                                  try simp only [zwr_rne, zwr_req, upd_ne, upd_eq, ne_eq, Nat.reduceEqDiff, not_false_eq_true, ca, cc]
                                                  refine m_orNone s14 ?_
                                                  try simp only [zwr_rne, zwr_req, upd_ne, upd_eq, ne_eq, Nat.reduceEqDiff, not_false_eq_true, ca, cc]
                                                  refine ⟨s5, ?_⟩
                                                  unfold Rall
                                                  simp only [zwr_rne, zwr_req, upd_ne, upd_eq, ne_eq, Nat.reduceEqDiff, not_false_eq_true]
                                                  exact ⟨⟨k1, k2, k3, k4, k5, k6, k7, k8, k9⟩, kas.setC (enc_nn (by omega)).symm (by omega) (by omega), kcl, kda, kdh, kpl, kkp, ksh, kwt, ktp, klw, ksd, Rwx_stale, Rwx_stale⟩
                                              · try simp only [zwr_rne, zwr_req, upd_ne, upd_eq, ne_eq, Nat.reduceEqDiff, not_false_eq_true, ca, cc] at g97
                                                try omega
                                                all_goals
                                                  try simp only [zwr_rne, zwr_req, upd_ne, upd_eq, ne_eq, Nat.reduceEqDiff, not_false_eq_true, ca, cc]
                                                  refine ⟨by first | assumption | exact vin (by omega) | exact vp_in_I.mpr (by omega), ?_⟩
                                                  rintro _ rfl
                                                  try simp only [zwr_rne, zwr_req, upd_ne, upd_eq, ne_eq, Nat.reduceEqDiff, not_false_eq_true, ca, cc]
                                                  refine m_orNone s14 ?_
                                                  try simp only [zwr_rne, zwr_req, upd_ne, upd_eq, ne_eq, Nat.reduceEqDiff, not_false_eq_true, ca, cc]
                                                  refine ⟨s5, ?_⟩
                                                  unfold Rall
                                                  simp only [zwr_rne, zwr_req, upd_ne, upd_eq, ne_eq, Nat.reduceEqDiff, not_false_eq_true]
                                                  exact ⟨⟨k1, k2, k3, k4, k5, k6, k7, k8, k9⟩, kas.setC (enc_nn (by omega)).symm (by omega) (by omega), kcl, kda, kdh, kpl, kkp, ksh, kwt, ktp, klw, ksd, Rwx_stale, Rwx_stale⟩
                                          · try simp only [zwr_rne, zwr_req, upd_ne, upd_eq, ne_eq, Nat.reduceEqDiff, not_false_eq_true, ca, cc] at g96
                                            try omega
                                            all_goals
                                              try simp only [zwr_rne, zwr_req, upd_ne, upd_eq, ne_eq, Nat.reduceEqDiff, not_false_eq_true, ca, cc]
                                              refine ⟨by first | assumption | exact vin (by omega) | exact vp_in_I.mpr (by omega), ?_⟩
                                              refine zeq (fun g98 => ?_) (fun g98 => ?_)
                                              · try simp only [zwr_rne, zwr_req, upd_ne, upd_eq, ne_eq, Nat.reduceEqDiff, not_false_eq_true, ca, cc] at g98
                                                try omega
                                                all_goals
                                                  try simp only [zwr_rne, zwr_req, upd_ne, upd_eq, ne_eq, Nat.reduceEqDiff, not_false_eq_true, ca, cc]
                                                  refine ⟨by first | assumption | exact vin (by omega) | exact vp_in_I.mpr (by omega), ?_⟩
                                                  refine ⟨by first | assumption | exact vin (by omega) | exact vp_in_I.mpr (by omega), ?_⟩
                                                  refine zeq (fun g99 => ?_) (fun g99 => ?_)
                                                  · try simp only [zwr_rne, zwr_req, upd_ne, upd_eq, ne_eq, Nat.reduceEqDiff, not_false_eq_true, ca, cc] at g99
                                                    try omega
                                                    all_goals
                                                      try simp only [zwr_rne, zwr_req, upd_ne, upd_eq, ne_eq, Nat.reduceEqDiff, not_false_eq_true, ca, cc]
                                                      refine ⟨by first | assumption | exact vin (by omega) | exact vp_in_I.mpr (by omega), ?_⟩
                                                      refine zeq (fun g100 => ?_) (fun g100 => ?_)
                                                      · try simp only [zwr_rne, zwr_req, upd_ne, upd_eq, ne_eq, Nat.reduceEqDiff, not_false_eq_true, ca, cc] at g100
                                                        try omega
                                                        all_goals
                                                          try simp only [zwr_rne, zwr_req, upd_ne, upd_eq, ne_eq, Nat.reduceEqDiff, not_false_eq_true, ca, cc]
                                                          refine ⟨by first | assumption | exact vin (by omega) | exact vp_in_I.mpr (by omega), ?_⟩
                                                          rintro _ rfl
                                                          try simp only [zwr_rne, zwr_req, upd_ne, upd_eq, ne_eq, Nat.reduceEqDiff, not_false_eq_true, ca, cc]
                                                          refine m_orNone s14 ?_
                                                          try simp only [zwr_rne, zwr_req, upd_ne, upd_eq, ne_eq, Nat.reduceEqDiff, not_false_eq_true, ca, cc]
                                                          refine ⟨s5, ?_⟩
                                                          unfold Rall
                                                          simp only [zwr_rne, zwr_req, upd_ne, upd_eq, ne_eq, Nat.reduceEqDiff, not_false_eq_true]
                                                          exact ⟨⟨k1, k2, k3, k4, k5, k6, k7, k8, k9⟩, kas.setC (enc_nn (by omega)).symm (by omega) (by omega), kcl, kda, kdh, kpl, kkp, ksh, kwt, ktp, klw, ksd, Rwx_stale, Rwx_stale⟩
                                                      · try simp only [zwr_rne, zwr_req, upd_ne, upd_eq, ne_eq, Nat.reduceEqDiff, not_false_eq_true, ca, cc] at g100
                                                        try omega
                                                        all_goals
                                                          try simp only [zwr_rne, zwr_req, upd_ne, upd_eq, ne_eq, Nat.reduceEqDiff, not_false_eq_true, ca, cc]
                                                          refine ⟨by first | assumption | exact vin (by omega) | exact vp_in_I.mpr (by omega), ?_⟩
                                                          rintro _ rfl
                                                          try simp only [zwr_rne, zwr_req, upd_ne, upd_eq, ne_eq, Nat.reduceEqDiff, not_false_eq_true, ca, cc]
                                                          refine m_orNone s14 ?_
                                                          try simp only [zwr_rne, zwr_req, upd_ne, upd_eq, ne_eq, Nat.reduceEqDiff, not_false_eq_true, ca, cc]
                                                          refine ⟨s5, ?_⟩
                                                          unfold Rall
                                                          simp only [zwr_rne, zwr_req, upd_ne, upd_eq, ne_eq, Nat.reduceEqDiff, not_false_eq_true]
                                                          exact ⟨⟨k1, k2, k3, k4, k5, k6, k7, k8, k9⟩, kas.setC (enc_nn (by omega)).symm (by omega) (by omega), kcl, kda, kdh, kpl, kkp, ksh, kwt, ktp, klw, ksd, Rwx_stale, Rwx_stale⟩
                                                  · try simp only [zwr_rne, zwr_req, upd_ne, upd_eq, ne_eq, Nat.reduceEqDiff, not_false_eq_true, ca, cc] at g99
                                                    try omega
                                                    all_goals
                                                      try simp only [zwr_rne, zwr_req, upd_ne, upd_eq, ne_eq, Nat.reduceEqDiff, not_false_eq_true, ca, cc]
                                                      exact ⟨by first | rfl | trivial, hh⟩
                                              · try simp only [zwr_rne, zwr_req, upd_ne, upd_eq, ne_eq, Nat.reduceEqDiff, not_false_eq_true, ca, cc] at g98
                                                try omega
                                                all_goals
                                                  try simp only [zwr_rne, zwr_req, upd_ne, upd_eq, ne_eq, Nat.reduceEqDiff, not_false_eq_true, ca, cc]
                                                  exact ⟨by first | rfl | trivial, hh⟩
                                      · try simp only [zwr_rne, zwr_req, upd_ne, upd_eq, ne_eq, Nat.reduceEqDiff, not_false_eq_true, ca, cc] at g95
                                        try omega
                                        all_goals
                                          try simp only [one_ne, zero_eq, if_false, if_true, or_true, true_or, or_false, false_or]
                                          try simp only [zwr_rne, zwr_req, upd_ne, upd_eq, ne_eq, Nat.reduceEqDiff, not_false_eq_true, ca, cc]
                                          exact ⟨by first | rfl | trivial, hh⟩
                              · try simp only [zwr_rne, zwr_req, upd_ne, upd_eq, ne_eq, Nat.reduceEqDiff, not_false_eq_true, ca, cc] at g88
                                try omega
                                all_goals
                                  try simp only [one_ne, zero_eq, if_false, if_true, or_true, true_or, or_false, false_or]
                                  try simp only [zwr_rne, zwr_req, upd_ne, upd_eq, ne_eq, Nat.reduceEqDiff, not_false_eq_true, ca, cc]
                                  exact ⟨by first | rfl | trivial, hh⟩
                      · try simp only [zwr_rne, zwr_req, upd_ne, upd_eq, ne_eq, Nat.reduceEqDiff, not_false_eq_true, ca, cc] at g73
                        try omega
                        all_goals
                          refine en_X12_charge ?_
                          try simp only [zwr_rne, zwr_req, upd_ne, upd_eq, ne_eq, Nat.reduceEqDiff, not_false_eq_true, ca, cc]
                          refine m_isAsset (by first | omega | (simp only [zwr_rne, zwr_req, upd_ne, upd_eq, ne_eq, Nat.reduceEqDiff, not_false_eq_true, ca, cc]; omega)) (fun g101 g101' => ?_) (fun g101 => ?_)
                          · try simp only [zwr_rne, zwr_req, upd_ne, upd_eq, ne_eq, Nat.reduceEqDiff, not_false_eq_true, ca, cc] at g101
                            try simp only [zwr_rne, zwr_req, upd_ne, upd_eq, ne_eq, Nat.reduceEqDiff, not_false_eq_true, ca, cc] at g101'
                            try omega
                            all_goals
                              try simp only [one_ne, zero_eq, if_false, if_true, or_true, true_or, or_false, false_or]
                              try simp only [zwr_rne, zwr_req, upd_ne, upd_eq, ne_eq, Nat.reduceEqDiff, not_false_eq_true, ca, cc]
                              refine zeq (fun g102 => ?_) (fun g102 => ?_)
                              · try simp only [zwr_rne, zwr_req, upd_ne, upd_eq, ne_eq, Nat.reduceEqDiff, not_false_eq_true, ca, cc] at g102
                                try omega
                                all_goals
                                  try simp only [zwr_rne, zwr_req, upd_ne, upd_eq, ne_eq, Nat.reduceEqDiff, not_false_eq_true, ca, cc]
                                  refine zeq (fun g103 => ?_) (fun g103 => ?_)
                                  · try simp only [zwr_rne, zwr_req, upd_ne, upd_eq, ne_eq, Nat.reduceEqDiff, not_false_eq_true, ca, cc] at g103
                                    try omega
                                    all_goals
                                      try simp only [zwr_rne, zwr_req, upd_ne, upd_eq, ne_eq, Nat.reduceEqDiff, not_false_eq_true, ca, cc]
                                      refine ⟨by first | assumption | exact vin (by omega) | exact vp_in_I.mpr (by omega), ?_⟩
                                      refine zeq (fun g104 => ?_) (fun g104 => ?_)
                                      · try simp only [zwr_rne, zwr_req, upd_ne, upd_eq, ne_eq, Nat.reduceEqDiff, not_false_eq_true, ca, cc] at g104
                                        try omega
                                        all_goals
                                          try simp only [zwr_rne, zwr_req, upd_ne, upd_eq, ne_eq, Nat.reduceEqDiff, not_false_eq_true, ca, cc]
                                          refine ⟨by first | assumption | exact vin (by omega) | exact vp_in_I.mpr (by omega), ?_⟩
                                          rintro _ rfl
                                          try simp only [zwr_rne, zwr_req, upd_ne, upd_eq, ne_eq, Nat.reduceEqDiff, not_false_eq_true, ca, cc]
                                          refine m_orNone s14 ?_
                                          try simp only [zwr_rne, zwr_req, upd_ne, upd_eq, ne_eq, Nat.reduceEqDiff, not_false_eq_true, ca, cc]
                                          refine ⟨s5, ?_⟩
                                          unfold Rall
                                          simp only [zwr_rne, zwr_req, upd_ne, upd_eq, ne_eq, Nat.reduceEqDiff, not_false_eq_true]
                                          exact ⟨⟨k1, k2, k3, k4, k5, k6, k7, k8, k9⟩, kas.setC (enc_nn (by omega)).symm (by omega) (by omega), kcl, kda, kdh, kpl, kkp, ksh, kwt, ktp, klw, ksd, Rwx_stale, Rwx_stale⟩
                                      · try simp only [zwr_rne, zwr_req, upd_ne, upd_eq, ne_eq, Nat.reduceEqDiff, not_false_eq_true, ca, cc] at g104
                                        try omega
                                        all_goals
                                          try simp only [zwr_rne, zwr_req, upd_ne, upd_eq, ne_eq, Nat.reduceEqDiff, not_false_eq_true, ca, cc]
                                          refine ⟨by first | assumption | exact vin (by omega) | exact vp_in_I.mpr (by omega), ?_⟩
                                          rintro _ rfl
                                          try simp only [zwr_rne, zwr_req, upd_ne, upd_eq, ne_eq, Nat.reduceEqDiff, not_false_eq_true, ca, cc]
                                          refine m_orNone s14 ?_
                                          try simp only [zwr_rne, zwr_req, upd_ne, upd_eq, ne_eq, Nat.reduceEqDiff, not_false_eq_true, ca, cc]
                                          refine ⟨s5, ?_⟩
                                          unfold Rall
                                          simp only [zwr_rne, zwr_req, upd_ne, upd_eq, ne_eq, Nat.reduceEqDiff, not_false_eq_true]
                                          exact ⟨⟨k1, k2, k3, k4, k5, k6, k7, k8, k9⟩, kas.setC (enc_nn (by omega)).symm (by omega) (by omega), kcl, kda, kdh, kpl, kkp, ksh, kwt, ktp, klw, ksd, Rwx_stale, Rwx_stale⟩
                                  · try simp only [zwr_rne, zwr_req, upd_ne, upd_eq, ne_eq, Nat.reduceEqDiff, not_false_eq_true, ca, cc] at g103
                                    try omega
                                    all_goals
                                      try simp only [zwr_rne, zwr_req, upd_ne, upd_eq, ne_eq, Nat.reduceEqDiff, not_false_eq_true, ca, cc]
                                      refine ⟨by first | assumption | exact vin (by omega) | exact vp_in_I.mpr (by omega), ?_⟩
                                      refine zeq (fun g105 => ?_) (fun g105 => ?_)
                                      · try simp only [zwr_rne, zwr_req, upd_ne, upd_eq, ne_eq, Nat.reduceEqDiff, not_false_eq_true, ca, cc] at g105
                                        try omega
                                        all_goals
                                          try simp only [zwr_rne, zwr_req, upd_ne, upd_eq, ne_eq, Nat.reduceEqDiff, not_false_eq_true, ca, cc]
                                          refine ⟨by first | assumption | exact vin (by omega) | exact vp_in_I.mpr (by omega), ?_⟩
                                          refine ⟨by first | assumption | exact vin (by omega) | exact vp_in_I.mpr (by omega), ?_⟩
                                          refine zeq (fun g106 => ?_) (fun g106 => ?_)
                                          · try simp only [zwr_rne, zwr_req, upd_ne, upd_eq, ne_eq, Nat.reduceEqDiff, not_false_eq_true, ca, cc] at g106
                                            try omega
                                            all_goals
                                              try simp only [zwr_rne, zwr_req, upd_ne, upd_eq, ne_eq, Nat.reduceEqDiff, not_false_eq_true, ca, cc]
                                              refine ⟨by first | assumption | exact vin (by omega) | exact vp_in_I.mpr (by omega), ?_⟩
                                              refine zeq (fun g107 => ?_) (fun g107 => ?_)
                                              · try simp only [zwr_rne, zwr_req, upd_ne, upd_eq, ne_eq, Nat.reduceEqDiff, not_false_eq_true, ca, cc] at g107
                                                try omega
                                                all_goals
                                                  try simp only [zwr_rne, zwr_req, upd_ne, upd_eq, ne_eq, Nat.reduceEqDiff, not_false_eq_true, ca, cc]
                                                  refine ⟨by first | assumption | exact vin (by omega) | exact vp_in_I.mpr (by omega), ?_⟩
                                                  rintro _ rfl
                                                  try simp only [zwr_rne, zwr_req, upd_ne, upd_eq, ne_eq, Nat.reduceEqDiff, not_false_eq_true, ca, cc]
                                                  refine m_orNone s14 ?_
                                                  try simp only [zwr_rne, zwr_req, upd_ne, upd_eq, ne_eq, Nat.reduceEqDiff, not_false_eq_true, ca, cc]
                                                  refine ⟨s5, ?_⟩
                                                  unfold Rall
                                                  simp only [zwr_rne, zwr_req, upd_ne, upd_eq, ne_eq, Nat.reduceEqDiff, not_false_eq_true]
                                                  exact ⟨⟨k1, k2, k3, k4, k5, k6, k7, k8, k9⟩, kas.setC (enc_nn (by omega)).symm (by omega) (by omega), kcl, kda, kdh, kpl, kkp, ksh, kwt, ktp, klw, ksd, Rwx_stale, Rwx_stale⟩
                                              · try simp only [zwr_rne, zwr_req, upd_ne, upd_eq, ne_eq, Nat.reduceEqDiff, not_false_eq_true, ca, cc] at g107
                                                try omega
                                                all_goals
                                                  try simp only [zwr_rne, zwr_req, upd_ne, upd_eq, ne_eq, Nat.reduceEqDiff, not_false_eq_true, ca, cc]
                                                  refine ⟨by first | assumption | exact vin (by omega) | exact vp_in_I.mpr (by omega), ?_⟩
                                                  rintro _ rfl
                                                  try simp only [zwr_rne, zwr_req, upd_ne, upd_eq, ne_eq, Nat.reduceEqDiff, not_false_eq_true, ca, cc]
                                                  refine m_orNone s14 ?_
                                                  try simp only [zwr_rne, zwr_req, upd_ne, upd_eq, ne_eq, Nat.reduceEqDiff, not_false_eq_true, ca, cc]
                                                  refine ⟨s5, ?_⟩
                                                  unfold Rall
                                                  simp only [zwr_rne, zwr_req, upd_ne, upd_eq, ne_eq, Nat.reduceEqDiff, not_false_eq_true]
                                                  exact ⟨⟨k1, k2, k3, k4, k5, k6, k7, k8, k9⟩, kas.setC (enc_nn (by omega)).symm (by omega) (by omega), kcl, kda, kdh, kpl, kkp, ksh, kwt, ktp, klw, ksd, Rwx_stale, Rwx_stale⟩
                                          · try simp only [zwr_rne, zwr_req, upd_ne, upd_eq, ne_eq, Nat.reduceEqDiff, not_false_eq_true, ca, cc] at g106
                                            try omega
                                            all_goals
                                              try simp only [zwr_rne, zwr_req, upd_ne, upd_eq, ne_eq, Nat.reduceEqDiff, not_false_eq_true, ca, cc]
                                              exact ⟨by first | rfl | trivial, hh⟩
                                      · try simp only [zwr_rne, zwr_req, upd_ne, upd_eq, ne_eq, Nat.reduceEqDiff, not_false_eq_true, ca, cc] at g105
                                        try omega
                                        all_goals
                                          try simp only [zwr_rne, zwr_req, upd_ne, upd_eq, ne_eq, Nat.reduceEqDiff, not_false_eq_true, ca, cc]
                                          exact ⟨by first | rfl | trivial, hh⟩
                              · try simp only [zwr_rne, zwr_req, upd_ne, upd_eq, ne_eq, Nat.reduceEqDiff, not_false_eq_true, ca, cc] at g102
                                try omega
                                all_goals
                                  try simp only [zwr_rne, zwr_req, upd_ne, upd_eq, ne_eq, Nat.reduceEqDiff, not_false_eq_true, ca, cc]
                                  refine m_isClaim (by first | omega | (simp only [zwr_rne, zwr_req, upd_ne, upd_eq, ne_eq, Nat.reduceEqDiff, not_false_eq_true, ca, cc]; omega)) (fun g108 g108' => ?_) (fun g108 => ?_)
                                  · try simp only [zwr_rne, zwr_req, upd_ne, upd_eq, ne_eq, Nat.reduceEqDiff, not_false_eq_true, ca, cc] at g108
                                    try simp only [zwr_rne, zwr_req, upd_ne, upd_eq, ne_eq, Nat.reduceEqDiff, not_false_eq_true, ca, cc] at g108'
                                    try omega
                                    all_goals
                                      try simp only [one_ne, zero_eq, if_false, if_true, or_true, true_or, or_false, false_or]
                                      try simp only [zwr_rne, zwr_req, upd_ne, upd_eq, ne_eq, Nat.reduceEqDiff, not_false_eq_true, ca, cc]
                                      refine zeq (fun g109 => ?_) (fun g109 => ?_)
                                      · try simp only [zwr_rne, zwr_req, upd_ne, upd_eq, ne_eq, Nat.reduceEqDiff, not_false_eq_true, ca, cc] at g109
                                        try omega
                                        all_goals
                                          try simp only [zwr_rne, zwr_req, upd_ne, upd_eq, ne_eq, Nat.reduceEqDiff, not_false_eq_true, ca, cc]
                                          refine ⟨by first | assumption | exact vin (by omega) | exact vp_in_I.mpr (by omega), ?_⟩
                                          refine zeq (fun g110 => ?_) (fun g110 => ?_)
                                          · try simp only [zwr_rne, zwr_req, upd_ne, upd_eq, ne_eq, Nat.reduceEqDiff, not_false_eq_true, ca, cc] at g110
                                            try omega
                                            all_goals
                                              try simp only [zwr_rne, zwr_req, upd_ne, upd_eq, ne_eq, Nat.reduceEqDiff, not_false_eq_true, ca, cc]
                                              refine ⟨by first | assumption | exact vin (by omega) | exact vp_in_I.mpr (by omega), ?_⟩
                                              rintro _ rfl
                                              try simp only [zwr_rne, zwr_req, upd_ne, upd_eq, ne_eq, Nat.reduceEqDiff, not_false_eq_true, ca, cc]
                                              refine m_orNone s14 ?_
                                              try simp only [zwr_rne, zwr_req, upd_ne, upd_eq, ne_eq, Nat.reduceEqDiff, not_false_eq_true, ca, cc]
                                              refine ⟨s5, ?_⟩
                                              unfold Rall
                                              simp only [zwr_rne, zwr_req, upd_ne, upd_eq, ne_eq, Nat.reduceEqDiff, not_false_eq_true]
                                              exact ⟨⟨k1, k2, k3, k4, k5, k6, k7, k8, k9⟩, kas.setC (enc_nn (by omega)).symm (by omega) (by omega), kcl, kda, kdh, kpl, kkp, ksh, kwt, ktp, klw, ksd, Rwx_stale, Rwx_stale⟩
                                          · try simp only [zwr_rne, zwr_req, upd_ne, upd_eq, ne_eq, Nat.reduceEqDiff, not_false_eq_true, ca, cc] at g110
                                            try omega
                                            all_goals
                                              try simp only [zwr_rne, zwr_req, upd_ne, upd_eq, ne_eq, Nat.reduceEqDiff, not_false_eq_true, ca, cc]
                                              refine ⟨by first | assumption | exact vin (by omega) | exact vp_in_I.mpr (by omega), ?_⟩
                                              rintro _ rfl
                                              try simp only [zwr_rne, zwr_req, upd_ne, upd_eq, ne_eq, Nat.reduceEqDiff, not_false_eq_true, ca, cc]
                                              refine m_orNone s14 ?_
                                              try simp only [zwr_rne, zwr_req, upd_ne, upd_eq, ne_eq, Nat.reduceEqDiff, not_false_eq_true, ca, cc]
                                              refine ⟨s5, ?_⟩
                                              unfold Rall
                                              simp only [zwr_rne, zwr_req, upd_ne, upd_eq, ne_eq, Nat.reduceEqDiff, not_false_eq_true]
                                              exact ⟨⟨k1, k2, k3, k4, k5, k6, k7, k8, k9⟩, kas.setC (enc_nn (by omega)).symm (by omega) (by omega), kcl, kda, kdh, kpl, kkp, ksh, kwt, ktp, klw, ksd, Rwx_stale, Rwx_stale⟩
                                      · try simp only [zwr_rne, zwr_req, upd_ne, upd_eq, ne_eq, Nat.reduceEqDiff, not_false_eq_true, ca, cc] at g109
                                        try omega
                                        all_goals
                                          try simp only [zwr_rne, zwr_req, upd_ne, upd_eq, ne_eq, Nat.reduceEqDiff, not_false_eq_true, ca, cc]
                                          refine ⟨by first | assumption | exact vin (by omega) | exact vp_in_I.mpr (by omega), ?_⟩
                                          refine zeq (fun g111 => ?_) (fun g111 => ?_)
                                          · try simp only [zwr_rne, zwr_req, upd_ne, upd_eq, ne_eq, Nat.reduceEqDiff, not_false_eq_true, ca, cc] at g111
                                            try omega
                                            all_goals
                                              try simp only [zwr_rne, zwr_req, upd_ne, upd_eq, ne_eq, Nat.reduceEqDiff, not_false_eq_true, ca, cc]
                                              refine ⟨by first | assumption | exact vin (by omega) | exact vp_in_I.mpr (by omega), ?_⟩
                                              refine ⟨by first | assumption | exact vin (by omega) | exact vp_in_I.mpr (by omega), ?_⟩
                                              refine zeq (fun g112 => ?_) (fun g112 => ?_)
                                              · try simp only [zwr_rne, zwr_req, upd_ne, upd_eq, ne_eq, Nat.reduceEqDiff, not_false_eq_true, ca, cc] at g112
                                                try omega
                                                all_goals
                                                  try simp only [zwr_rne, zwr_req, upd_ne, upd_eq, ne_eq, Nat.reduceEqDiff, not_false_eq_true, ca, cc]
                                                  refine ⟨by first | assumption | exact vin (by omega) | exact vp_in_I.mpr (by omega), ?_⟩
                                                  refine zeq (fun g113 => ?_) (fun g113 => ?_)
                                                  · try simp only [zwr_rne, zwr_req, upd_ne, upd_eq, ne_eq, Nat.reduceEqDiff, not_false_eq_true, ca, cc] at g113
                                                    try omega
                                                    all_goals
                                                      try simp only [zwr_rne, zwr_req, upd_ne, upd_eq, ne_eq, Nat.reduceEqDiff, not_false_eq_true, ca, cc]
                                                      refine ⟨by first | assumption | exact vin (by omega) | exact vp_in_I.mpr (by omega), ?_⟩
                                                      rintro _ rfl
                                                      try simp only [zwr_rne, zwr_req, upd_ne, upd_eq, ne_eq, Nat.reduceEqDiff, not_false_eq_true, ca, cc]
                                                      refine m_orNone s14 ?_
                                                      try simp only [zwr_rne, zwr_req, upd_ne, upd_eq, ne_eq, Nat.reduceEqDiff, not_false_eq_true, ca, cc]
                                                      refine ⟨s5, ?_⟩
                                                      unfold Rall
                                                      simp only [zwr_rne, zwr_req, upd_ne, upd_eq, ne_eq, Nat.reduceEqDiff, not_false_eq_true]
                                                      exact ⟨⟨k1, k2, k3, k4, k5, k6, k7, k8, k9⟩, kas.setC (enc_nn (by omega)).symm (by omega) (by omega), kcl, kda, kdh, kpl, kkp, ksh, kwt, ktp, klw, ksd, Rwx_stale, Rwx_stale⟩
                                                  · try simp only [zwr_rne, zwr_req, upd_ne, upd_eq, ne_eq, Nat.reduceEqDiff, not_false_eq_true, ca, cc] at g113
                                                    try omega
                                                    all_goals
                                                      try simp only [zwr_rne, zwr_req, upd_ne, upd_eq, ne_eq, Nat.reduceEqDiff, not_false_eq_true, ca, cc]
                                                      refine ⟨by first | assumption | exact vin (by omega) | exact vp_in_I.mpr (by omega), ?_⟩
                                                      rintro _ rfl
                                                      try simp only [zwr_rne, zwr_req, upd_ne, upd_eq, ne_eq, Nat.reduceEqDiff, not_false_eq_true, ca, cc]
                                                      refine m_orNone s14 ?_
                                                      try simp only [zwr_rne, zwr_req, upd_ne, upd_eq, ne_eq, Nat.reduceEqDiff, not_false_eq_true, ca, cc]
                                                      refine ⟨s5, ?_⟩
                                                      unfold Rall
                                                      simp only [zwr_rne, zwr_req, upd_ne, upd_eq, ne_eq, Nat.reduceEqDiff, not_false_eq_true]
                                                      exact ⟨⟨k1, k2, k3, k4, k5, k6, k7, k8, k9⟩, kas.setC (enc_nn (by omega)).symm (by omega) (by omega), kcl, kda, kdh, kpl, kkp, ksh, kwt, ktp, klw, ksd, Rwx_stale, Rwx_stale⟩
                                              · try simp only [zwr_rne, zwr_req, upd_ne, upd_eq, ne_eq, Nat.reduceEqDiff, not_false_eq_true, ca, cc] at g112
                                                try omega
                                                all_goals
                                                  try simp only [zwr_rne, zwr_req, upd_ne, upd_eq, ne_eq, Nat.reduceEqDiff, not_false_eq_true, ca, cc]
                                                  exact ⟨by first | rfl | trivial, hh⟩
                                          · try simp only [zwr_rne, zwr_req, upd_ne, upd_eq, ne_eq, Nat.reduceEqDiff, not_false_eq_true, ca, cc] at g111
                                            try omega
                                            all_goals
                                              try simp only [zwr_rne, zwr_req, upd_ne, upd_eq, ne_eq, Nat.reduceEqDiff, not_false_eq_true, ca, cc]
                                              exact ⟨by first | rfl | trivial, hh⟩
                                  · try simp only [zwr_rne, zwr_req, upd_ne, upd_eq, ne_eq, Nat.reduceEqDiff, not_false_eq_true, ca, cc] at g108
                                    try omega
                                    all_goals
                                      try simp only [one_ne, zero_eq, if_false, if_true, or_true, true_or, or_false, false_or]
                                      try simp only [zwr_rne, zwr_req, upd_ne, upd_eq, ne_eq, Nat.reduceEqDiff, not_false_eq_true, ca, cc]
                                      exact ⟨by first | rfl | trivial, hh⟩
                          · try simp only [zwr_rne, zwr_req, upd_ne, upd_eq, ne_eq, Nat.reduceEqDiff, not_false_eq_true, ca, cc] at g101
                            try omega
                            all_goals
                              try simp only [one_ne, zero_eq, if_false, if_true, or_true, true_or, or_false, false_or]
                              try simp only [zwr_rne, zwr_req, upd_ne, upd_eq, ne_eq, Nat.reduceEqDiff, not_false_eq_true, ca, cc]
                              exact ⟨by first | rfl | trivial, hh⟩
              · try simp only [zwr_rne, zwr_req, upd_ne, upd_eq, ne_eq, Nat.reduceEqDiff, not_false_eq_true, ca, cc] at g58
                try omega
                all_goals
                  try simp only [one_ne, zero_eq, if_false, if_true, or_true, true_or, or_false, false_or]
                  refine en_X12_charge ?_
                  try simp only [zwr_rne, zwr_req, upd_ne, upd_eq, ne_eq, Nat.reduceEqDiff, not_false_eq_true, ca, cc]
                  refine m_isAsset (by first | omega | (simp only [zwr_rne, zwr_req, upd_ne, upd_eq, ne_eq, Nat.reduceEqDiff, not_false_eq_true, ca, cc]; omega)) (fun g114 g114' => ?_) (fun g114 => ?_)
                  · try simp only [zwr_rne, zwr_req, upd_ne, upd_eq, ne_eq, Nat.reduceEqDiff, not_false_eq_true, ca, cc] at g114
                    try simp only [zwr_rne, zwr_req, upd_ne, upd_eq, ne_eq, Nat.reduceEqDiff, not_false_eq_true, ca, cc] at g114'
                    try omega
                    all_goals
                      try simp only [one_ne, zero_eq, if_false, if_true, or_true, true_or, or_false, false_or]
                      try simp only [zwr_rne, zwr_req, upd_ne, upd_eq, ne_eq, Nat.reduceEqDiff, not_false_eq_true, ca, cc]
                      refine zeq (fun g115 => ?_) (fun g115 => ?_)
                      · try simp only [zwr_rne, zwr_req, upd_ne, upd_eq, ne_eq, Nat.reduceEqDiff, not_false_eq_true, ca, cc] at g115
                        try omega
                        all_goals
                          try simp only [zwr_rne, zwr_req, upd_ne, upd_eq, ne_eq, Nat.reduceEqDiff, not_false_eq_true, ca, cc]
                          refine zeq (fun g116 => ?_) (fun g116 => ?_)
                          · try simp only [zwr_rne, zwr_req, upd_ne, upd_eq, ne_eq, Nat.reduceEqDiff, not_false_eq_true, ca, cc] at g116
                            try omega
                            all_goals
                              try simp only [zwr_rne, zwr_req, upd_ne, upd_eq, ne_eq, Nat.reduceEqDiff, not_false_eq_true, ca, cc]
                              refine ⟨by first | assumption | exact vin (by omega) | exact vp_in_I.mpr (by omega), ?_⟩
                              refine zeq (fun g117 => ?_) (fun g117 => ?_)
                              · try simp only [zwr_rne, zwr_req, upd_ne, upd_eq, ne_eq, Nat.reduceEqDiff, not_false_eq_true, ca, cc] at g117
                                try omega
                                all_goals
                                  try simp only [zwr_rne, zwr_req, upd_ne, upd_eq, ne_eq, Nat.reduceEqDiff, not_false_eq_true, ca, cc]
                                  refine ⟨by first | assumption | exact vin (by omega) | exact vp_in_I.mpr (by omega), ?_⟩
                                  rintro _ rfl
                                  try simp only [zwr_rne, zwr_req, upd_ne, upd_eq, ne_eq, Nat.reduceEqDiff, not_false_eq_true, ca, cc]
                                  refine m_orNone s14 ?_
                                  try simp only [zwr_rne, zwr_req, upd_ne, upd_eq, ne_eq, Nat.reduceEqDiff, not_false_eq_true, ca, cc]
                                  refine ⟨s5, ?_⟩
                                  unfold Rall
                                  simp only [zwr_rne, zwr_req, upd_ne, upd_eq, ne_eq, Nat.reduceEqDiff, not_false_eq_true]
                                  exact ⟨⟨k1, k2, k3, k4, k5, k6, k7, k8, k9⟩, kas.setC (enc_nn (by omega)).symm (by omega) (by omega), kcl, kda, kdh, kpl, kkp, ksh, kwt, ktp, klw, ksd, Rwx_stale, Rwx_stale⟩
                              · try simp only [zwr_rne, zwr_req, upd_ne, upd_eq, ne_eq, Nat.reduceEqDiff, not_false_eq_true, ca, cc] at g117
                                try omega
                                all_goals
                                  try simp only [zwr_rne, zwr_req, upd_ne, upd_eq, ne_eq, Nat.reduceEqDiff, not_false_eq_true, ca, cc]
                                  refine ⟨by first | assumption | exact vin (by omega) | exact vp_in_I.mpr (by omega), ?_⟩
                                  rintro _ rfl
                                  try simp only [zwr_rne, zwr_req, upd_ne, upd_eq, ne_eq, Nat.reduceEqDiff, not_false_eq_true, ca, cc]
                                  refine m_orNone s14 ?_
                                  try simp only [zwr_rne, zwr_req, upd_ne, upd_eq, ne_eq, Nat.reduceEqDiff, not_false_eq_true, ca, cc]
                                  refine ⟨s5, ?_⟩
                                  unfold Rall
                                  simp only [zwr_rne, zwr_req, upd_ne, upd_eq, ne_eq, Nat.reduceEqDiff, not_false_eq_true]
                                  exact ⟨⟨k1, k2, k3, k4, k5, k6, k7, k8, k9⟩, kas.setC (enc_nn (by omega)).symm (by omega) (by omega), kcl, kda, kdh, kpl, kkp, ksh, kwt, ktp, klw, ksd, Rwx_stale, Rwx_stale⟩
                          · try simp only [zwr_rne, zwr_req, upd_ne, upd_eq, ne_eq, Nat.reduceEqDiff, not_false_eq_true, ca, cc] at g116
                            try omega
                            all_goals
                              try simp only [zwr_rne, zwr_req, upd_ne, upd_eq, ne_eq, Nat.reduceEqDiff, not_false_eq_true, ca, cc]
                              refine ⟨by first | assumption | exact vin (by omega) | exact vp_in_I.mpr (by omega), ?_⟩
                              refine zeq (fun g118 => ?_) (fun g118 => ?_)
                              · try simp only [zwr_rne, zwr_req, upd_ne, upd_eq, ne_eq, Nat.reduceEqDiff, not_false_eq_true, ca, cc] at g118
                                try omega
                                all_goals
                                  try simp only [zwr_rne, zwr_req, upd_ne, upd_eq, ne_eq, Nat.reduceEqDiff, not_false_eq_true, ca, cc]
                                  refine ⟨by first | assumption | exact vin (by omega) | exact vp_in_I.mpr (by omega), ?_⟩
                                  refine ⟨by first | assumption | exact vin (by omega) | exact vp_in_I.mpr (by omega), ?_⟩
                                  refine zeq (fun g119 => ?_) (fun g119 => ?_)
                                  · try simp only [zwr_rne, zwr_req, upd_ne, upd_eq, ne_eq, Nat.reduceEqDiff, not_false_eq_true, ca, cc] at g119
                                    try omega
                                    all_goals
                                      try simp only [zwr_rne, zwr_req, upd_ne, upd_eq, ne_eq, Nat.reduceEqDiff, not_false_eq_true, ca, cc]
                                      refine ⟨by first | assumption | exact vin (by omega) | exact vp_in_I.mpr (by omega), ?_⟩
                                      refine zeq (fun g120 => ?_) (fun g120 => ?_)
                                      · try simp only [zwr_rne, zwr_req, upd_ne, upd_eq, ne_eq, Nat.reduceEqDiff, not_false_eq_true, ca, cc] at g120
                                        try omega
                                        all_goals
                                          try simp only [zwr_rne, zwr_req, upd_ne, upd_eq, ne_eq, Nat.reduceEqDiff, not_false_eq_true, ca, cc]
                                          refine ⟨by first | assumption | exact vin (by omega) | exact vp_in_I.mpr (by omega), ?_⟩
                                          rintro _ rfl
                                          try simp only [zwr_rne, zwr_req, upd_ne, upd_eq, ne_eq, Nat.reduceEqDiff, not_false_eq_true, ca, cc]
                                          refine m_orNone s14 ?_
                                          try simp only [zwr_rne, zwr_req, upd_ne, upd_eq, ne_eq, Nat.reduceEqDiff, not_false_eq_true, ca, cc]
                                          refine ⟨s5, ?_⟩
                                          unfold Rall
                                          simp only [zwr_rne, zwr_req, upd_ne, upd_eq, ne_eq, Nat.reduceEqDiff, not_false_eq_true]
                                          exact ⟨⟨k1, k2, k3, k4, k5, k6, k7, k8, k9⟩, kas.setC (enc_nn (by omega)).symm (by omega) (by omega), kcl, kda, kdh, kpl, kkp, ksh, kwt, ktp, klw, ksd, Rwx_stale, Rwx_stale⟩
                                      · try simp only [zwr_rne, zwr_req, upd_ne, upd_eq, ne_eq, Nat.reduceEqDiff, not_false_eq_true, ca, cc] at g120
                                        try omega
                                        all_goals
                                          try simp only [zwr_rne, zwr_req, upd_ne, upd_eq, ne_eq, Nat.reduceEqDiff, not_false_eq_true, ca, cc]
                                          refine ⟨by first | assumption | exact vin (by omega) | exact vp_in_I.mpr (by omega), ?_⟩
                                          rintro _ rfl
                                          try simp only [zwr_rne, zwr_req, upd_ne, upd_eq, ne_eq, Nat.reduceEqDiff, not_false_eq_true, ca, cc]
                                          refine m_orNone s14 ?_
                                          try simp only [zwr_rne, zwr_req, upd_ne, upd_eq, ne_eq, Nat.reduceEqDiff, not_false_eq_true, ca, cc]
                                          refine ⟨s5, ?_⟩
                                          unfold Rall
                                          simp only [zwr_rne, zwr_req, upd_ne, upd_eq, ne_eq, Nat.reduceEqDiff, not_false_eq_true]
                                          exact ⟨⟨k1, k2, k3, k4, k5, k6, k7, k8, k9⟩, kas.setC (enc_nn (by omega)).symm (by omega) (by omega), kcl, kda, kdh, kpl, kkp, ksh, kwt, ktp, klw, ksd, Rwx_stale, Rwx_stale⟩
                                  · try simp only [zwr_rne, zwr_req, upd_ne, upd_eq, ne_eq, Nat.reduceEqDiff, not_false_eq_true, ca, cc] at g119
                                    try omega
                                    all_goals
                                      try simp only [zwr_rne, zwr_req, upd_ne, upd_eq, ne_eq, Nat.reduceEqDiff, not_false_eq_true, ca, cc]
                                      exact ⟨by first | rfl | trivial, hh⟩
                              · try simp only [zwr_rne, zwr_req, upd_ne, upd_eq, ne_eq, Nat.reduceEqDiff, not_false_eq_true, ca, cc] at g118
                                try omega
                                all_goals
                                  try simp only [zwr_rne, zwr_req, upd_ne, upd_eq, ne_eq, Nat.reduceEqDiff, not_false_eq_true, ca, cc]
                                  exact ⟨by first | rfl | trivial, hh⟩
                      · try simp only [zwr_rne, zwr_req, upd_ne, upd_eq, ne_eq, Nat.reduceEqDiff, not_false_eq_true, ca, cc] at g115
                        try omega
                        all_goals
                          try simp only [zwr_rne, zwr_req, upd_ne, upd_eq, ne_eq, Nat.reduceEqDiff, not_false_eq_true, ca, cc]
                          refine m_isClaim (by first | omega | (simp only [zwr_rne, zwr_req, upd_ne, upd_eq, ne_eq, Nat.reduceEqDiff, not_false_eq_true, ca, cc]; omega)) (fun g121 g121' => ?_) (fun g121 => ?_)
                          · try simp only [zwr_rne, zwr_req, upd_ne, upd_eq, ne_eq, Nat.reduceEqDiff, not_false_eq_true, ca, cc] at g121
                            try simp only [zwr_rne, zwr_req, upd_ne, upd_eq, ne_eq, Nat.reduceEqDiff, not_false_eq_true, ca, cc] at g121'
                            try omega
                            all_goals
                              try simp only [one_ne, zero_eq, if_false, if_true, or_true, true_or, or_false, false_or]
                              try simp only [zwr_rne, zwr_req, upd_ne, upd_eq, ne_eq, Nat.reduceEqDiff, not_false_eq_true, ca, cc]
                              refine zeq (fun g122 => ?_) (fun g122 => ?_)
                              · try simp only [zwr_rne, zwr_req, upd_ne, upd_eq, ne_eq, Nat.reduceEqDiff, not_false_eq_true, ca, cc] at g122
                                try omega
                                all_goals
                                  try simp only [zwr_rne, zwr_req, upd_ne, upd_eq, ne_eq, Nat.reduceEqDiff, not_false_eq_true, ca, cc]
                                  refine ⟨by first | assumption | exact vin (by omega) | exact vp_in_I.mpr (by omega), ?_⟩
                                  refine zeq (fun g123 => ?_) (fun g123 => ?_)
                                  · try simp only [zwr_rne, zwr_req, upd_ne, upd_eq, ne_eq, Nat.reduceEqDiff, not_false_eq_true, ca, cc] at g123
                                    try omega
                                    all_goals
                                      try simp only [zwr_rne, zwr_req, upd_ne, upd_eq, ne_eq, Nat.reduceEqDiff, not_false_eq_true, ca, cc]
                                      refine ⟨by first | assumption | exact vin (by omega) | exact vp_in_I.mpr (by omega), ?_⟩
                                      rintro _ rfl
                                      try simp only [zwr_rne, zwr_req, upd_ne, upd_eq, ne_eq, Nat.reduceEqDiff, not_false_eq_true, ca, cc]
                                      refine m_orNone s14 ?_
                                      try simp only [zwr_rne, zwr_req, upd_ne, upd_eq, ne_eq, Nat.reduceEqDiff, not_false_eq_true, ca, cc]
                                      refine ⟨s5, ?_⟩
                                      unfold Rall
                                      simp only [zwr_rne, zwr_req, upd_ne, upd_eq, ne_eq, Nat.reduceEqDiff, not_false_eq_true]
                                      exact ⟨⟨k1, k2, k3, k4, k5, k6, k7, k8, k9⟩, kas.setC (enc_nn (by omega)).symm (by omega) (by omega), kcl, kda, kdh, kpl, kkp, ksh, kwt, ktp, klw, ksd, Rwx_stale, Rwx_stale⟩
                                  · try simp only [zwr_rne, zwr_req, upd_ne, upd_eq, ne_eq, Nat.reduceEqDiff, not_false_eq_true, ca, cc] at g123
                                    try omega
                                    all_goals
                                      try simp only [zwr_rne, zwr_req, upd_ne, upd_eq, ne_eq, Nat.reduceEqDiff, not_false_eq_true, ca, cc]
                                      refine ⟨by first | assumption | exact vin (by omega) | exact vp_in_I.mpr (by omega), ?_⟩
                                      rintro _ rfl
                                      try simp only [zwr_rne, zwr_req, upd_ne, upd_eq, ne_eq, Nat.reduceEqDiff, not_false_eq_true, ca, cc]
                                      refine m_orNone s14 ?_
                                      try simp only [zwr_rne, zwr_req, upd_ne, upd_eq, ne_eq, Nat.reduceEqDiff, not_false_eq_true, ca, cc]
                                      refine ⟨s5, ?_⟩
                                      unfold Rall
                                      simp only [zwr_rne, zwr_req, upd_ne, upd_eq, ne_eq, Nat.reduceEqDiff, not_false_eq_true]
                                      exact ⟨⟨k1, k2, k3, k4, k5, k6, k7, k8, k9⟩, kas.setC (enc_nn (by omega)).symm (by omega) (by omega), kcl, kda, kdh, kpl, kkp, ksh, kwt, ktp, klw, ksd, Rwx_stale, Rwx_stale⟩
                              · try simp only [zwr_rne, zwr_req, upd_ne, upd_eq, ne_eq, Nat.reduceEqDiff, not_false_eq_true, ca, cc] at g122
                                try omega
                                all_goals
                                  try simp only [zwr_rne, zwr_req, upd_ne, upd_eq, ne_eq, Nat.reduceEqDiff, not_false_eq_true, ca, cc]
                                  refine ⟨by first | assumption | exact vin (by omega) | exact vp_in_I.mpr (by omega), ?_⟩
                                  refine zeq (fun g124 => ?_) (fun g124 => ?_)
                                  · try simp only [zwr_rne, zwr_req, upd_ne, upd_eq, ne_eq, Nat.reduceEqDiff, not_false_eq_true, ca, cc] at g124
                                    try omega
                                    all_goals
                                      try simp only [zwr_rne, zwr_req, upd_ne, upd_eq, ne_eq, Nat.reduceEqDiff, not_false_eq_true, ca, cc]
                                      refine ⟨by first | assumption | exact vin (by omega) | exact vp_in_I.mpr (by omega), ?_⟩
                                      refine ⟨by first | assumption | exact vin (by omega) | exact vp_in_I.mpr (by omega), ?_⟩
                                      refine zeq (fun g125 => ?_) (fun g125 => ?_)
                                      · try simp only [zwr_rne, zwr_req, upd_ne, upd_eq, ne_eq, Nat.reduceEqDiff, not_false_eq_true, ca, cc] at g125
                                        try omega
                                        all_goals
                                          try simp only [zwr_rne, zwr_req, upd_ne, upd_eq, ne_eq, Nat.reduceEqDiff, not_false_eq_true, ca, cc]
                                          refine ⟨by first | assumption | exact vin (by omega) | exact vp_in_I.mpr (by omega), ?_⟩
                                          refine zeq (fun g126 => ?_) (fun g126 => ?_)
                                          · try simp only [zwr_rne, zwr_req, upd_ne, upd_eq, ne_eq, Nat.reduceEqDiff, not_false_eq_true, ca, cc] at g126
                                            try omega
                                            all_goals
                                              try simp only [zwr_rne, zwr_req, upd_ne, upd_eq, ne_eq, Nat.reduceEqDiff, not_false_eq_true, ca, cc]
                                              refine ⟨by first | assumption | exact vin (by omega) | exact vp_in_I.mpr (by omega), ?_⟩
                                              rintro _ rfl
                                              try simp only [zwr_rne, zwr_req, upd_ne, upd_eq, ne_eq, Nat.reduceEqDiff, not_false_eq_true, ca, cc]
                                              refine m_orNone s14 ?_
                                              try simp only [zwr_rne, zwr_req, upd_ne, upd_eq, ne_eq, Nat.reduceEqDiff, not_false_eq_true, ca, cc]
                                              refine ⟨s5, ?_⟩
                                              unfold Rall
                                              simp only [zwr_rne, zwr_req, upd_ne, upd_eq, ne_eq, Nat.reduceEqDiff, not_false_eq_true]
                                              exact ⟨⟨k1, k2, k3, k4, k5, k6, k7, k8, k9⟩, kas.setC (enc_nn (by omega)).symm (by omega) (by omega), kcl, kda, kdh, kpl, kkp, ksh, kwt, ktp, klw, ksd, Rwx_stale, Rwx_stale⟩
                                          · try simp only [zwr_rne, zwr_req, upd_ne, upd_eq, ne_eq, Nat.reduceEqDiff, not_false_eq_true, ca, cc] at g126
                                            try omega
                                            all_goals
                                              try simp only [zwr_rne, zwr_req, upd_ne, upd_eq, ne_eq, Nat.reduceEqDiff, not_false_eq_true, ca, cc]
                                              refine ⟨by first | assumption | exact vin (by omega) | exact vp_in_I.mpr (by omega), ?_⟩
                                              rintro _ rfl
                                              try simp only [zwr_rne, zwr_req, upd_ne, upd_eq, ne_eq, Nat.reduceEqDiff, not_false_eq_true, ca, cc]
                                              refine m_orNone s14 ?_
                                              try simp only [zwr_rne, zwr_req, upd_ne, upd_eq, ne_eq, Nat.reduceEqDiff, not_false_eq_true, ca, cc]
                                              refine ⟨s5, ?_⟩
                                              unfold Rall
                                              simp only [zwr_rne, zwr_req, upd_ne, upd_eq, ne_eq, Nat.reduceEqDiff, not_false_eq_true]
                                              exact ⟨⟨k1, k2, k3, k4, k5, k6, k7, k8, k9⟩, kas.setC (enc_nn (by omega)).symm (by omega) (by omega), kcl, kda, kdh, kpl, kkp, ksh, kwt, ktp, klw, ksd, Rwx_stale, Rwx_stale⟩
                                      · try simp only [zwr_rne, zwr_req, upd_ne, upd_eq, ne_eq, Nat.reduceEqDiff, not_false_eq_true, ca, cc] at g125
                                        try omega
                                        all_goals
                                          try simp only [zwr_rne, zwr_req, upd_ne, upd_eq, ne_eq, Nat.reduceEqDiff, not_false_eq_true, ca, cc]
                                          exact ⟨by first | rfl | trivial, hh⟩
                                  · try simp only [zwr_rne, zwr_req, upd_ne, upd_eq, ne_eq, Nat.reduceEqDiff, not_false_eq_true, ca, cc] at g124
                                    try omega
                                    all_goals
                                      try simp only [zwr_rne, zwr_req, upd_ne, upd_eq, ne_eq, Nat.reduceEqDiff, not_false_eq_true, ca, cc]
                                      exact ⟨by first | rfl | trivial, hh⟩
                          · try simp only [zwr_rne, zwr_req, upd_ne, upd_eq, ne_eq, Nat.reduceEqDiff, not_false_eq_true, ca, cc] at g121
                            try omega
                            all_goals
                              try simp only [one_ne, zero_eq, if_false, if_true, or_true, true_or, or_false, false_or]
                              try simp only [zwr_rne, zwr_req, upd_ne, upd_eq, ne_eq, Nat.reduceEqDiff, not_false_eq_true, ca, cc]
                              exact ⟨by first | rfl | trivial, hh⟩
                  · try simp only [zwr_rne, zwr_req, upd_ne, upd_eq, ne_eq, Nat.reduceEqDiff, not_false_eq_true, ca, cc] at g114
                    try omega
                    all_goals
                      try simp only [one_ne, zero_eq, if_false, if_true, or_true, true_or, or_false, false_or]
                      try simp only [zwr_rne, zwr_req, upd_ne, upd_eq, ne_eq, Nat.reduceEqDiff, not_false_eq_true, ca, cc]
                      exact ⟨by first | rfl | trivial, hh⟩
      · try simp only [zwr_rne, zwr_req, upd_ne, upd_eq, ne_eq, Nat.reduceEqDiff, not_false_eq_true, ca, cc] at g1
        try omega
        all_goals
          try simp only [one_ne, zero_eq, if_false, if_true, or_true, true_or, or_false, false_or]
          refine en_X12_charge ?_
          try simp only [zwr_rne, zwr_req, upd_ne, upd_eq, ne_eq, Nat.reduceEqDiff, not_false_eq_true, ca, cc]
          refine m_isAsset (by first | omega | (simp only [zwr_rne, zwr_req, upd_ne, upd_eq, ne_eq, Nat.reduceEqDiff, not_false_eq_true, ca, cc]; omega)) (fun g127 g127' => ?_) (fun g127 => ?_)
          · try simp only [zwr_rne, zwr_req, upd_ne, upd_eq, ne_eq, Nat.reduceEqDiff, not_false_eq_true, ca, cc] at g127
            try simp only [zwr_rne, zwr_req, upd_ne, upd_eq, ne_eq, Nat.reduceEqDiff, not_false_eq_true, ca, cc] at g127'
            try omega
            all_goals
              try simp only [one_ne, zero_eq, if_false, if_true, or_true, true_or, or_false, false_or]
              try simp only [zwr_rne, zwr_req, upd_ne, upd_eq, ne_eq, Nat.reduceEqDiff, not_false_eq_true, ca, cc]
              refine zeq (fun g128 => ?_) (fun g128 => ?_)
              · try simp only [zwr_rne, zwr_req, upd_ne, upd_eq, ne_eq, Nat.reduceEqDiff, not_false_eq_true, ca, cc] at g128
                try omega
                all_goals
                  try simp only [zwr_rne, zwr_req, upd_ne, upd_eq, ne_eq, Nat.reduceEqDiff, not_false_eq_true, ca, cc]
                  refine zeq (fun g129 => ?_) (fun g129 => ?_)
                  · try simp only [zwr_rne, zwr_req, upd_ne, upd_eq, ne_eq, Nat.reduceEqDiff, not_false_eq_true, ca, cc] at g129
                    try omega
                    all_goals
                      try simp only [zwr_rne, zwr_req, upd_ne, upd_eq, ne_eq, Nat.reduceEqDiff, not_false_eq_true, ca, cc]
                      refine ⟨by first | assumption | exact vin (by omega) | exact vp_in_I.mpr (by omega), ?_⟩
                      refine zeq (fun g130 => ?_) (fun g130 => ?_)
                      · try simp only [zwr_rne, zwr_req, upd_ne, upd_eq, ne_eq, Nat.reduceEqDiff, not_false_eq_true, ca, cc] at g130
                        try omega
                        all_goals
                          try simp only [zwr_rne, zwr_req, upd_ne, upd_eq, ne_eq, Nat.reduceEqDiff, not_false_eq_true, ca, cc]
                          refine ⟨by first | assumption | exact vin (by omega) | exact vp_in_I.mpr (by omega), ?_⟩
                          rintro _ rfl
                          try simp only [zwr_rne, zwr_req, upd_ne, upd_eq, ne_eq, Nat.reduceEqDiff, not_false_eq_true, ca, cc]
                          refine m_orNone s14 ?_
                          try simp only [zwr_rne, zwr_req, upd_ne, upd_eq, ne_eq, Nat.reduceEqDiff, not_false_eq_true, ca, cc]
                          refine ⟨s5, ?_⟩
                          unfold Rall
                          simp only [zwr_rne, zwr_req, upd_ne, upd_eq, ne_eq, Nat.reduceEqDiff, not_false_eq_true]
                          exact ⟨⟨k1, k2, k3, k4, k5, k6, k7, k8, k9⟩, kas.setC (enc_nn (by omega)).symm (by omega) (by omega), kcl, kda, kdh, kpl, kkp, ksh, kwt, ktp, klw, ksd, Rwx_stale, Rwx_stale⟩
                      · try simp only [zwr_rne, zwr_req, upd_ne, upd_eq, ne_eq, Nat.reduceEqDiff, not_false_eq_true, ca, cc] at g130
                        try omega
                        all_goals
                          try simp only [zwr_rne, zwr_req, upd_ne, upd_eq, ne_eq, Nat.reduceEqDiff, not_false_eq_true, ca, cc]
                          refine ⟨by first | assumption | exact vin (by omega) | exact vp_in_I.mpr (by omega), ?_⟩
                          rintro _ rfl
                          try simp only [zwr_rne, zwr_req, upd_ne, upd_eq, ne_eq, Nat.reduceEqDiff, not_false_eq_true, ca, cc]
                          refine m_orNone s14 ?_
                          try simp only [zwr_rne, zwr_req, upd_ne, upd_eq, ne_eq, Nat.reduceEqDiff, not_false_eq_true, ca, cc]
                          refine ⟨s5, ?_⟩
                          unfold Rall
                          simp only [zwr_rne, zwr_req, upd_ne, upd_eq, ne_eq, Nat.reduceEqDiff, not_false_eq_true]
                          exact ⟨⟨k1, k2, k3, k4, k5, k6, k7, k8, k9⟩, kas.setC (enc_nn (by omega)).symm (by omega) (by omega), kcl, kda, kdh, kpl, kkp, ksh, kwt, ktp, klw, ksd, Rwx_stale, Rwx_stale⟩
                  · try simp only [zwr_rne, zwr_req, upd_ne, upd_eq, ne_eq, Nat.reduceEqDiff, not_false_eq_true, ca, cc] at g129
                    try omega
                    all_goals
                      try simp only [zwr_rne, zwr_req, upd_ne, upd_eq, ne_eq, Nat.reduceEqDiff, not_false_eq_true, ca, cc]
                      refine ⟨by first | assumption | exact vin (by omega) | exact vp_in_I.mpr (by omega), ?_⟩
                      refine zeq (fun g131 => ?_) (fun g131 => ?_)
                      · try simp only [zwr_rne, zwr_req, upd_ne, upd_eq, ne_eq, Nat.reduceEqDiff, not_false_eq_true, ca, cc] at g131
                        try omega
                        all_goals
                          try simp only [zwr_rne, zwr_req, upd_ne, upd_eq, ne_eq, Nat.reduceEqDiff, not_false_eq_true, ca, cc]
                          refine ⟨by first | assumption | exact vin (by omega) | exact vp_in_I.mpr (by omega), ?_⟩
                          refine ⟨by first | assumption | exact vin (by omega) | exact vp_in_I.mpr (by omega), ?_⟩
                          refine zeq (fun g132 => ?_) (fun g132 => ?_)
                          · try simp only [zwr_rne, zwr_req, upd_ne, upd_eq, ne_eq, Nat.reduceEqDiff, not_false_eq_true, ca, cc] at g132
                            try omega
                            all_goals
                              try simp only [zwr_rne, zwr_req, upd_ne, upd_eq, ne_eq, Nat.reduceEqDiff, not_false_eq_true, ca, cc]
                              refine ⟨by first | assumption | exact vin (by omega) | exact vp_in_I.mpr (by omega), ?_⟩
                              refine zeq (fun g133 => ?_) (fun g133 => ?_)
                              · try simp only [zwr_rne, zwr_req, upd_ne, upd_eq, ne_eq, Nat.reduceEqDiff, not_false_eq_true, ca, cc] at g133
                                try omega
                                all_goals
                                  try simp only [zwr_rne, zwr_req, upd_ne, upd_eq, ne_eq, Nat.reduceEqDiff, not_false_eq_true, ca, cc]
                                  refine ⟨by first | assumption | exact vin (by omega) | exact vp_in_I.mpr (by omega), ?_⟩
                                  rintro _ rfl
                                  try simp only [zwr_rne, zwr_req, upd_ne, upd_eq, ne_eq, Nat.reduceEqDiff, not_false_eq_true, ca, cc]
                                  refine m_orNone s14 ?_
                                  try simp only [zwr_rne, zwr_req, upd_ne, upd_eq, ne_eq, Nat.reduceEqDiff, not_false_eq_true, ca, cc]
                                  refine ⟨s5, ?_⟩
                                  unfold Rall
                                  simp only [zwr_rne, zwr_req, upd_ne, upd_eq, ne_eq, Nat.reduceEqDiff, not_false_eq_true]
                                  exact ⟨⟨k1, k2, k3, k4, k5, k6, k7, k8, k9⟩, kas.setC (enc_nn (by omega)).symm (by omega) (by omega), kcl, kda, kdh, kpl, kkp, ksh, kwt, ktp, klw, ksd, Rwx_stale, Rwx_stale⟩
                              · try simp only [zwr_rne, zwr_req, upd_ne, upd_eq, ne_eq, Nat.reduceEqDiff, not_false_eq_true, ca, cc] at g133
                                try omega
                                all_goals
                                  try simp only [zwr_rne, zwr_req, upd_ne, upd_eq, ne_eq, Nat.reduceEqDiff, not_false_eq_true, ca, cc]
                                  refine ⟨by first | assumption | exact vin (by omega) | exact vp_in_I.mpr (by omega), ?_⟩
                                  rintro _ rfl
                                  try simp only [zwr_rne, zwr_req, upd_ne, upd_eq, ne_eq, Nat.reduceEqDiff, not_false_eq_true, ca, cc]
                                  refine m_orNone s14 ?_
                                  try simp only [zwr_rne, zwr_req, upd_ne, upd_eq, ne_eq, Nat.reduceEqDiff, not_false_eq_true, ca, cc]
                                  refine ⟨s5, ?_⟩
                                  unfold Rall
                                  simp only [zwr_rne, zwr_req, upd_ne, upd_eq, ne_eq, Nat.reduceEqDiff, not_false_eq_true]
                                  exact ⟨⟨k1, k2, k3, k4, k5, k6, k7, k8, k9⟩, kas.setC (enc_nn (by omega)).symm (by omega) (by omega), kcl, kda, kdh, kpl, kkp, ksh, kwt, ktp, klw, ksd, Rwx_stale, Rwx_stale⟩
                          · try simp only [zwr_rne, zwr_req, upd_ne, upd_eq, ne_eq, Nat.reduceEqDiff, not_false_eq_true, ca, cc] at g132
                            try omega
                            all_goals
                              try simp only [zwr_rne, zwr_req, upd_ne, upd_eq, ne_eq, Nat.reduceEqDiff, not_false_eq_true, ca, cc]
                              exact ⟨by first | rfl | trivial, hh⟩
                      · try simp only [zwr_rne, zwr_req, upd_ne, upd_eq, ne_eq, Nat.reduceEqDiff, not_false_eq_true, ca, cc] at g131
                        try omega
                        all_goals
                          try simp only [zwr_rne, zwr_req, upd_ne, upd_eq, ne_eq, Nat.reduceEqDiff, not_false_eq_true, ca, cc]
                          exact ⟨by first | rfl | trivial, hh⟩
              · try simp only [zwr_rne, zwr_req, upd_ne, upd_eq, ne_eq, Nat.reduceEqDiff, not_false_eq_true, ca, cc] at g128
                try omega
                all_goals
                  try simp only [zwr_rne, zwr_req, upd_ne, upd_eq, ne_eq, Nat.reduceEqDiff, not_false_eq_true, ca, cc]
                  refine m_isClaim (by first | omega | (simp only [zwr_rne, zwr_req, upd_ne, upd_eq, ne_eq, Nat.reduceEqDiff, not_false_eq_true, ca, cc]; omega)) (fun g134 g134' => ?_) (fun g134 => ?_)
                  · try simp only [zwr_rne, zwr_req, upd_ne, upd_eq, ne_eq, Nat.reduceEqDiff, not_false_eq_true, ca, cc] at g134
                    try simp only [zwr_rne, zwr_req, upd_ne, upd_eq, ne_eq, Nat.reduceEqDiff, not_false_eq_true, ca, cc] at g134'
                    try omega
                    all_goals
                      try simp only [one_ne, zero_eq, if_false, if_true, or_true, true_or, or_false, false_or]
                      try simp only [zwr_rne, zwr_req, upd_ne, upd_eq, ne_eq, Nat.reduceEqDiff, not_false_eq_true, ca, cc]
                      refine zeq (fun g135 => ?_) (fun g135 => ?_)
                      · try simp only [zwr_rne, zwr_req, upd_ne, upd_eq, ne_eq, Nat.reduceEqDiff, not_false_eq_true, ca, cc] at g135
                        try omega
                        all_goals
                          try simp only [zwr_rne, zwr_req, upd_ne, upd_eq, ne_eq, Nat.reduceEqDiff, not_false_eq_true, ca, cc]
                          refine ⟨by first | assumption | exact vin (by omega) | exact vp_in_I.mpr (by omega), ?_⟩
                          refine zeq (fun g136 => ?_) (fun g136 => ?_)
                          · try simp only [zwr_rne, zwr_req, upd_ne, upd_eq, ne_eq, Nat.reduceEqDiff, not_false_eq_true, ca, cc] at g136
                            try omega
                            all_goals
                              try simp only [zwr_rne, zwr_req, upd_ne, upd_eq, ne_eq, Nat.reduceEqDiff, not_false_eq_true, ca, cc]
                              refine ⟨by first | assumption | exact vin (by omega) | exact vp_in_I.mpr (by omega), ?_⟩
                              rintro _ rfl
                              try simp only [zwr_rne, zwr_req, upd_ne, upd_eq, ne_eq, Nat.reduceEqDiff, not_false_eq_true, ca, cc]
                              refine m_orNone s14 ?_
                              try simp only [zwr_rne, zwr_req, upd_ne, upd_eq, ne_eq, Nat.reduceEqDiff, not_false_eq_true, ca, cc]
                              refine ⟨s5, ?_⟩
                              unfold Rall
                              simp only [zwr_rne, zwr_req, upd_ne, upd_eq, ne_eq, Nat.reduceEqDiff, not_false_eq_true]
                              exact ⟨⟨k1, k2, k3, k4, k5, k6, k7, k8, k9⟩, kas.setC (enc_nn (by omega)).symm (by omega) (by omega), kcl, kda, kdh, kpl, kkp, ksh, kwt, ktp, klw, ksd, Rwx_stale, Rwx_stale⟩
                          · try simp only [zwr_rne, zwr_req, upd_ne, upd_eq, ne_eq, Nat.reduceEqDiff, not_false_eq_true, ca, cc] at g136
                            try omega
                            all_goals
                              try simp only [zwr_rne, zwr_req, upd_ne, upd_eq, ne_eq, Nat.reduceEqDiff, not_false_eq_true, ca, cc]
                              refine ⟨by first | assumption | exact vin (by omega) | exact vp_in_I.mpr (by omega), ?_⟩
                              rintro _ rfl
                              try simp only [zwr_rne, zwr_req, upd_ne, upd_eq, ne_eq, Nat.reduceEqDiff, not_false_eq_true, ca, cc]
                              refine m_orNone s14 ?_
                              try simp only [zwr_rne, zwr_req, upd_ne, upd_eq, ne_eq, Nat.reduceEqDiff, not_false_eq_true, ca, cc]
                              refine ⟨s5, ?_⟩
                              unfold Rall
                              simp only [zwr_rne, zwr_req, upd_ne, upd_eq, ne_eq, Nat.reduceEqDiff, not_false_eq_true]
                              exact ⟨⟨k1, k2, k3, k4, k5, k6, k7, k8, k9⟩, kas.setC (enc_nn (by omega)).symm (by omega) (by omega), kcl, kda, kdh, kpl, kkp, ksh, kwt, ktp, klw, ksd, Rwx_stale, Rwx_stale⟩
                      · try simp only [zwr_rne, zwr_req, upd_ne, upd_eq, ne_eq, Nat.reduceEqDiff, not_false_eq_true, ca, cc] at g135
                        try omega
                        all_goals
                          try simp only [zwr_rne, zwr_req, upd_ne, upd_eq, ne_eq, Nat.reduceEqDiff, not_false_eq_true, ca, cc]
                          refine ⟨by first | assumption | exact vin (by omega) | exact vp_in_I.mpr (by omega), ?_⟩
                          refine zeq (fun g137 => ?_) (fun g137 => ?_)
                          · try simp only [zwr_rne, zwr_req, upd_ne, upd_eq, ne_eq, Nat.reduceEqDiff, not_false_eq_true, ca, cc] at g137
                            try omega
                            all_goals
                              try simp only [zwr_rne, zwr_req, upd_ne, upd_eq, ne_eq, Nat.reduceEqDiff, not_false_eq_true, ca, cc]
                              refine ⟨by first | assumption | exact vin (by omega) | exact vp_in_I.mpr (by omega), ?_⟩
                              refine ⟨by first | assumption | exact vin (by omega) | exact vp_in_I.mpr (by omega), ?_⟩
                              refine zeq (fun g138 => ?_) (fun g138 => ?_)
                              · try simp only [zwr_rne, zwr_req, upd_ne, upd_eq, ne_eq, Nat.reduceEqDiff, not_false_eq_true, ca, cc] at g138
                                try omega
                                all_goals
                                  try simp only [zwr_rne, zwr_req, upd_ne, upd_eq, ne_eq, Nat.reduceEqDiff, not_false_eq_true, ca, cc]
                                  refine ⟨by first | assumption | exact vin (by omega) | exact vp_in_I.mpr (by omega), ?_⟩
                                  refine zeq (fun g139 => ?_) (fun g139 => ?_)
                                  · try simp only [zwr_rne, zwr_req, upd_ne, upd_eq, ne_eq, Nat.reduceEqDiff, not_false_eq_true, ca, cc] at g139
                                    try omega
                                    all_goals
                                      try simp only [zwr_rne, zwr_req, upd_ne, upd_eq, ne_eq, Nat.reduceEqDiff, not_false_eq_true, ca, cc]
                                      refine ⟨by first | assumption | exact vin (by omega) | exact vp_in_I.mpr (by omega), ?_⟩
                                      rintro _ rfl
                                      try simp only [zwr_rne, zwr_req, upd_ne, upd_eq, ne_eq, Nat.reduceEqDiff, not_false_eq_true, ca, cc]
                                      refine m_orNone s14 ?_
                                      try simp only [zwr_rne, zwr_req, upd_ne, upd_eq, ne_eq, Nat.reduceEqDiff, not_false_eq_true, ca, cc]
                                      refine ⟨s5, ?_⟩
                                      unfold Rall
                                      simp only [zwr_rne, zwr_req, upd_ne, upd_eq, ne_eq, Nat.reduceEqDiff, not_false_eq_true]
                                      exact ⟨⟨k1, k2, k3, k4, k5, k6, k7, k8, k9⟩, kas.setC (enc_nn (by omega)).symm (by omega) (by omega), kcl, kda, kdh, kpl, kkp, ksh, kwt, ktp, klw, ksd, Rwx_stale, Rwx_stale⟩
                                  · try simp only [zwr_rne, zwr_req, upd_ne, upd_eq, ne_eq, Nat.reduceEqDiff, not_false_eq_true, ca, cc] at g139
                                    try omega
                                    all_goals
                                      try simp only [zwr_rne, zwr_req, upd_ne, upd_eq, ne_eq, Nat.reduceEqDiff, not_false_eq_true, ca, cc]
                                      refine ⟨by first | assumption | exact vin (by omega) | exact vp_in_I.mpr (by omega), ?_⟩
                                      rintro _ rfl
                                      try simp only [zwr_rne, zwr_req, upd_ne, upd_eq, ne_eq, Nat.reduceEqDiff, not_false_eq_true, ca, cc]
                                      refine m_orNone s14 ?_
                                      try simp only [zwr_rne, zwr_req, upd_ne, upd_eq, ne_eq, Nat.reduceEqDiff, not_false_eq_true, ca, cc]
                                      refine ⟨s5, ?_⟩
                                      unfold Rall
                                      simp only [zwr_rne, zwr_req, upd_ne, upd_eq, ne_eq, Nat.reduceEqDiff, not_false_eq_true]
                                      exact ⟨⟨k1, k2, k3, k4, k5, k6, k7, k8, k9⟩, kas.setC (enc_nn (by omega)).symm (by omega) (by omega), kcl, kda, kdh, kpl, kkp, ksh, kwt, ktp, klw, ksd, Rwx_stale, Rwx_stale⟩
                              · try simp only [zwr_rne, zwr_req, upd_ne, upd_eq, ne_eq, Nat.reduceEqDiff, not_false_eq_true, ca, cc] at g138
                                try omega
                                all_goals
                                  try simp only [zwr_rne, zwr_req, upd_ne, upd_eq, ne_eq, Nat.reduceEqDiff, not_false_eq_true, ca, cc]
                                  exact ⟨by first | rfl | trivial, hh⟩
                          · try simp only [zwr_rne, zwr_req, upd_ne, upd_eq, ne_eq, Nat.reduceEqDiff, not_false_eq_true, ca, cc] at g137
                            try omega
                            all_goals
                              try simp only [zwr_rne, zwr_req, upd_ne, upd_eq, ne_eq, Nat.reduceEqDiff, not_false_eq_true, ca, cc]
                              exact ⟨by first | rfl | trivial, hh⟩
                  · try simp only [zwr_rne, zwr_req, upd_ne, upd_eq, ne_eq, Nat.reduceEqDiff, not_false_eq_true, ca, cc] at g134
                    try omega
                    all_goals
                      try simp only [one_ne, zero_eq, if_false, if_true, or_true, true_or, or_false, false_or]
                      try simp only [zwr_rne, zwr_req, upd_ne, upd_eq, ne_eq, Nat.reduceEqDiff, not_false_eq_true, ca, cc]
                      exact ⟨by first | rfl | trivial, hh⟩
          · try simp only [zwr_rne, zwr_req, upd_ne, upd_eq, ne_eq, Nat.reduceEqDiff, not_false_eq_true, ca, cc] at g127
            try omega
            all_goals
              try simp only [one_ne, zero_eq, if_false, if_true, or_true, true_or, or_false, false_or]
              try simp only [zwr_rne, zwr_req, upd_ne, upd_eq, ne_eq, Nat.reduceEqDiff, not_false_eq_true, ca, cc]
              exact ⟨by first | rfl | trivial, hh⟩
