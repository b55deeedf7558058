theorem P_asset {G : zGT} {d : Nat} {v1 v2 v3 v4 : Int32} : Pair G (d + 6) Y_X11_asset Y_X12_asset [.inl v1, .inl v2, .inl v3, .inl v4] := by
  intro σ h
  have hh := h
  obtain ⟨⟨k1, k2, k3, k4, k5, k6, k7, k8, k9⟩, kas, kcl, kda, kdh, kpl, kkp, ksh, kwt, ktp, klw, ksd, kw0, kw1⟩ := h
  obtain ⟨e1, b1, u1⟩ := id k1
  obtain ⟨e2, b2, u2⟩ := id k2
  obtain ⟨e3, b3, u3⟩ := id k3
  obtain ⟨e4, b4, u4⟩ := id k4
  obtain ⟨e5, b5, u5⟩ := id k5
  obtain ⟨e6, b6, u6⟩ := id k6
  obtain ⟨e7, b7, u7⟩ := id k7
  obtain ⟨e8, b8, u8⟩ := id k8
  obtain ⟨e9, b9, u9⟩ := id k9
  have f1 : (σ 0 15).toInt = (σ 72 1).toInt := by rw [e1]
  have f2 : (σ 14 5).toInt = (σ 72 2).toInt := by rw [e2]
  have f3 : (σ 1 6).toInt = (σ 72 8).toInt := by rw [e3]
  have f4 : (σ 0 16).toInt = (σ 72 0).toInt := by rw [e4]
  have f5 : (σ 55 7).toInt = (σ 72 22).toInt := by rw [e5]
  have f6 : (σ 14 6).toInt = (σ 72 23).toInt := by rw [e6]
  have f7 : (σ 0 17).toInt = (σ 72 24).toInt := by rw [e7]
  have f8 : (σ 0 13).toInt = (σ 72 25).toInt := by rw [e8]
  have f9 : (σ 46 1).toInt = (σ 72 28).toInt := by rw [e9]
  have l0 := ti0
  have l1 := ti1
  have l2 := ti2
  have l3 := ti3
  have l4 := ti4
  have l5 := ti5
  have l6 := ti6
  have l8 := ti8
  have l9 := ti9
  have l10 := ti10
  have l16 := ti16
  have l20 := ti20
  have l24 := ti24
  have l31 := ti31
  have l60 := ti60
  have l96 := ti96
  have l100 := ti100
  have l200 := ti200
  have l400 := ti400
  have l600 := ti600
  have l1200 := ti1200
  have l100000 := ti100000
  have lm1 := tim1
  have lB := tiB
  have lN := tiN
  obtain ⟨k, hk, hk2, hk3⟩ := num_of b2 u2
  have ck : (nI k).toNatClampNeg = k := cln hk3
  have tk := tin hk3
  have kas' := kas
  rw [hk] at e2 f2 kas'
  have hkt : (σ 72 2).toInt = (k : Int) := by rw [hk]; exact tk
  refine en_X11_asset ?_
  try simp only [zwr_rne, zwr_req, upd_ne, upd_eq, ne_eq, Nat.reduceEqDiff, not_false_eq_true, e2, hk, ck]
  refine c_isFirm (fun g1 g1' => ?_) (fun g1 => ?_)
  · try simp only [zwr_rne, zwr_req, upd_ne, upd_eq, ne_eq, Nat.reduceEqDiff, not_false_eq_true, e2, hk, ck] at g1
    try simp only [zwr_rne, zwr_req, upd_ne, upd_eq, ne_eq, Nat.reduceEqDiff, not_false_eq_true, e2, hk, ck] at g1'
    try omega
    all_goals
      try simp only [one_ne, zero_eq, if_false, if_true, or_true, true_or, or_false, false_or]
      refine c_isWithin (fun g2 g2' => ?_) (fun g2 => ?_)
      · try simp only [zwr_rne, zwr_req, upd_ne, upd_eq, ne_eq, Nat.reduceEqDiff, not_false_eq_true, e2, hk, ck] at g2
        try simp only [zwr_rne, zwr_req, upd_ne, upd_eq, ne_eq, Nat.reduceEqDiff, not_false_eq_true, e2, hk, ck] at g2'
        try omega
        all_goals
          try simp only [one_ne, zero_eq, if_false, if_true, or_true, true_or, or_false, false_or]
          refine c_isWithin (fun g3 g3' => ?_) (fun g3 => ?_)
          · try simp only [zwr_rne, zwr_req, upd_ne, upd_eq, ne_eq, Nat.reduceEqDiff, not_false_eq_true, e2, hk, ck] at g3
            try simp only [zwr_rne, zwr_req, upd_ne, upd_eq, ne_eq, Nat.reduceEqDiff, not_false_eq_true, e2, hk, ck] at g3'
            try omega
            all_goals
              try simp only [one_ne, zero_eq, if_false, if_true, or_true, true_or, or_false, false_or]
              refine c_isWithin (fun g4 g4' => ?_) (fun g4 => ?_)
              · try simp only [zwr_rne, zwr_req, upd_ne, upd_eq, ne_eq, Nat.reduceEqDiff, not_false_eq_true, e2, hk, ck] at g4
                try simp only [zwr_rne, zwr_req, upd_ne, upd_eq, ne_eq, Nat.reduceEqDiff, not_false_eq_true, e2, hk, ck] at g4'
                try omega
                all_goals
                  try simp only [one_ne, zero_eq, if_false, if_true, or_true, true_or, or_false, false_or]
                  refine zlt (fun g5 => ?_) (fun g5 => ?_)
                  · try simp only [zwr_rne, zwr_req, upd_ne, upd_eq, ne_eq, Nat.reduceEqDiff, not_false_eq_true, e2, hk, ck] at g5
                    try omega
                    all_goals
                      refine c_changed ?_
                      try simp only [zwr_rne, zwr_req, upd_ne, upd_eq, ne_eq, Nat.reduceEqDiff, not_false_eq_true, e2, hk, ck]
                      refine en_X0_add ?_
                      try simp only [zwr_rne, zwr_req, upd_ne, upd_eq, ne_eq, Nat.reduceEqDiff, not_false_eq_true, e2, hk, ck]
                      refine ⟨by first | assumption | exact vin (by omega) | exact vp_in_I.mpr (by omega), ?_⟩
                      rintro _ rfl
                      try simp only [zwr_rne, zwr_req, upd_ne, upd_eq, ne_eq, Nat.reduceEqDiff, not_false_eq_true, e2, hk, ck]
                      refine ⟨by first | assumption | exact vin (by omega) | exact vp_in_I.mpr (by omega), ?_⟩
                      rintro _ rfl
                      try simp only [zwr_rne, zwr_req, upd_ne, upd_eq, ne_eq, Nat.reduceEqDiff, not_false_eq_true, e2, hk, ck]
                      refine ⟨by first | assumption | exact vin (by omega) | exact vp_in_I.mpr (by omega), ?_⟩
                      rintro _ rfl
                      try simp only [zwr_rne, zwr_req, upd_ne, upd_eq, ne_eq, Nat.reduceEqDiff, not_false_eq_true, e2, hk, ck]
                      refine ⟨by first | assumption | exact vin (by omega) | exact vp_in_I.mpr (by omega), ?_⟩
                      rintro _ rfl
                      try simp only [zwr_rne, zwr_req, upd_ne, upd_eq, ne_eq, Nat.reduceEqDiff, not_false_eq_true, e2, hk, ck]
                      refine ⟨by first | assumption | exact vin (by omega) | exact vp_in_I.mpr (by omega), ?_⟩
                      rintro _ rfl
                      try simp only [zwr_rne, zwr_req, upd_ne, upd_eq, ne_eq, Nat.reduceEqDiff, not_false_eq_true, e2, hk, ck]
                      rintro _ rfl
                      try simp only [zwr_rne, zwr_req, upd_ne, upd_eq, ne_eq, Nat.reduceEqDiff, not_false_eq_true, e2, hk, ck]
                      try simp only [zwr_rne, zwr_req, upd_ne, upd_eq, ne_eq, Nat.reduceEqDiff, not_false_eq_true, e2, hk, ck]
                      refine en_X12_asset ?_
                      try simp only [zwr_rne, zwr_req, upd_ne, upd_eq, ne_eq, Nat.reduceEqDiff, not_false_eq_true, e2, hk, ck]
                      refine m_isFirm (by first | omega | (simp only [zwr_rne, zwr_req, upd_ne, upd_eq, ne_eq, Nat.reduceEqDiff, not_false_eq_true, e2, hk, ck]; omega)) (fun g6 g6' => ?_) (fun g6 => ?_)
                      · try simp only [zwr_rne, zwr_req, upd_ne, upd_eq, ne_eq, Nat.reduceEqDiff, not_false_eq_true, e2, hk, ck] at g6
                        try simp only [zwr_rne, zwr_req, upd_ne, upd_eq, ne_eq, Nat.reduceEqDiff, not_false_eq_true, e2, hk, ck] at g6'
                        try omega
                        all_goals
                          try simp only [one_ne, zero_eq, if_false, if_true, or_true, true_or, or_false, false_or]
                          try simp only [zwr_rne, zwr_req, upd_ne, upd_eq, ne_eq, Nat.reduceEqDiff, not_false_eq_true, e2, hk, ck]
                          refine m_isIn (fun g7 g7' => ?_) (fun g7 => ?_)
                          · try simp only [zwr_rne, zwr_req, upd_ne, upd_eq, ne_eq, Nat.reduceEqDiff, not_false_eq_true, e2, hk, ck] at g7
                            try simp only [zwr_rne, zwr_req, upd_ne, upd_eq, ne_eq, Nat.reduceEqDiff, not_false_eq_true, e2, hk, ck] at g7'
                            try omega
                            all_goals
                              try simp only [one_ne, zero_eq, if_false, if_true, or_true, true_or, or_false, false_or]
                              try simp only [zwr_rne, zwr_req, upd_ne, upd_eq, ne_eq, Nat.reduceEqDiff, not_false_eq_true, e2, hk, ck]
                              refine m_isIn (fun g8 g8' => ?_) (fun g8 => ?_)
                              · try simp only [zwr_rne, zwr_req, upd_ne, upd_eq, ne_eq, Nat.reduceEqDiff, not_false_eq_true, e2, hk, ck] at g8
                                try simp only [zwr_rne, zwr_req, upd_ne, upd_eq, ne_eq, Nat.reduceEqDiff, not_false_eq_true, e2, hk, ck] at g8'
                                try omega
                                all_goals
                                  try simp only [one_ne, zero_eq, if_false, if_true, or_true, true_or, or_false, false_or]
                                  try simp only [zwr_rne, zwr_req, upd_ne, upd_eq, ne_eq, Nat.reduceEqDiff, not_false_eq_true, e2, hk, ck]
                                  refine m_isIn (fun g9 g9' => ?_) (fun g9 => ?_)
                                  · try simp only [zwr_rne, zwr_req, upd_ne, upd_eq, ne_eq, Nat.reduceEqDiff, not_false_eq_true, e2, hk, ck] at g9
                                    try simp only [zwr_rne, zwr_req, upd_ne, upd_eq, ne_eq, Nat.reduceEqDiff, not_false_eq_true, e2, hk, ck] at g9'
                                    try omega
                                    all_goals
                                      try simp only [one_ne, zero_eq, if_false, if_true, or_true, true_or, or_false, false_or]
                                      try simp only [zwr_rne, zwr_req, upd_ne, upd_eq, ne_eq, Nat.reduceEqDiff, not_false_eq_true, e2, hk, ck]
                                      refine zeq (fun g10 => ?_) (fun g10 => ?_)
                                      · try simp only [zwr_rne, zwr_req, upd_ne, upd_eq, ne_eq, Nat.reduceEqDiff, not_false_eq_true, e2, hk, ck] at g10
                                        try omega
                                        all_goals
                                          try simp only [zwr_rne, zwr_req, upd_ne, upd_eq, ne_eq, Nat.reduceEqDiff, not_false_eq_true, e2, hk, ck]
                                          exact ⟨by first | rfl | trivial, hh⟩
                                      · try simp only [zwr_rne, zwr_req, upd_ne, upd_eq, ne_eq, Nat.reduceEqDiff, not_false_eq_true, e2, hk, ck] at g10
                                        try omega
                                        all_goals
                                          try simp only [zwr_rne, zwr_req, upd_ne, upd_eq, ne_eq, Nat.reduceEqDiff, not_false_eq_true, e2, hk, ck]
                                          refine ⟨by first | assumption | exact vin (by omega) | exact vp_in_I.mpr (by omega), ?_⟩
                                          rintro _ rfl
                                          try simp only [zwr_rne, zwr_req, upd_ne, upd_eq, ne_eq, Nat.reduceEqDiff, not_false_eq_true, e2, hk, ck]
                                          refine ⟨by first | assumption | exact vin (by omega) | exact vp_in_I.mpr (by omega), ?_⟩
                                          rintro _ rfl
                                          try simp only [zwr_rne, zwr_req, upd_ne, upd_eq, ne_eq, Nat.reduceEqDiff, not_false_eq_true, e2, hk, ck]
                                          refine ⟨by first | assumption | exact vin (by omega) | exact vp_in_I.mpr (by omega), ?_⟩
                                          rintro _ rfl
                                          try simp only [zwr_rne, zwr_req, upd_ne, upd_eq, ne_eq, Nat.reduceEqDiff, not_false_eq_true, e2, hk, ck]
                                          refine ⟨by first | assumption | exact vin (by omega) | exact vp_in_I.mpr (by omega), ?_⟩
                                          rintro _ rfl
                                          try simp only [zwr_rne, zwr_req, upd_ne, upd_eq, ne_eq, Nat.reduceEqDiff, not_false_eq_true, e2, hk, ck]
                                          refine ⟨by first | assumption | exact vin (by omega) | exact vp_in_I.mpr (by omega), ?_⟩
                                          rintro _ rfl
                                          try simp only [zwr_rne, zwr_req, upd_ne, upd_eq, ne_eq, Nat.reduceEqDiff, not_false_eq_true, e2, hk, ck]
                                          rintro _ rfl
                                          try simp only [zwr_rne, zwr_req, upd_ne, upd_eq, ne_eq, Nat.reduceEqDiff, not_false_eq_true, e2, hk, ck]
                                          refine ⟨by simp, ?_⟩
                                          unfold Rall
                                          simp only [zwr_rne, zwr_req, upd_ne, upd_eq, ne_eq, Nat.reduceEqDiff, not_false_eq_true]
                                          exact ⟨⟨k1, Rcnt.k (by omega) (by omega), k3, k4, k5, k6, k7, k8, k9⟩, Ras.push (by omega) kas' (by omega) (by omega) (by omega) (by omega) (by omega) (by omega) (by omega) (by omega), kcl, kda, kdh, kpl, kkp, ksh, kwt, ktp, klw, ksd, Rwx_stale, Rwx_stale⟩
                                  · try simp only [zwr_rne, zwr_req, upd_ne, upd_eq, ne_eq, Nat.reduceEqDiff, not_false_eq_true, e2, hk, ck] at g9
                                    try omega
                                    all_goals
                                      try simp only [one_ne, zero_eq, if_false, if_true, or_true, true_or, or_false, false_or]
                                      try simp only [zwr_rne, zwr_req, upd_ne, upd_eq, ne_eq, Nat.reduceEqDiff, not_false_eq_true, e2, hk, ck]
                                      exact ⟨by first | rfl | trivial, hh⟩
                              · try simp only [zwr_rne, zwr_req, upd_ne, upd_eq, ne_eq, Nat.reduceEqDiff, not_false_eq_true, e2, hk, ck] at g8
                                try omega
                                all_goals
                                  try simp only [one_ne, zero_eq, if_false, if_true, or_true, true_or, or_false, false_or]
                                  try simp only [zwr_rne, zwr_req, upd_ne, upd_eq, ne_eq, Nat.reduceEqDiff, not_false_eq_true, e2, hk, ck]
                                  exact ⟨by first | rfl | trivial, hh⟩
                          · try simp only [zwr_rne, zwr_req, upd_ne, upd_eq, ne_eq, Nat.reduceEqDiff, not_false_eq_true, e2, hk, ck] at g7
                            try omega
                            all_goals
                              try simp only [one_ne, zero_eq, if_false, if_true, or_true, true_or, or_false, false_or]
                              try simp only [zwr_rne, zwr_req, upd_ne, upd_eq, ne_eq, Nat.reduceEqDiff, not_false_eq_true, e2, hk, ck]
                              exact ⟨by first | rfl | trivial, hh⟩
                      · try simp only [zwr_rne, zwr_req, upd_ne, upd_eq, ne_eq, Nat.reduceEqDiff, not_false_eq_true, e2, hk, ck] at g6
                        try omega
                        all_goals
                          try simp only [one_ne, zero_eq, if_false, if_true, or_true, true_or, or_false, false_or]
                          try simp only [zwr_rne, zwr_req, upd_ne, upd_eq, ne_eq, Nat.reduceEqDiff, not_false_eq_true, e2, hk, ck]
                          exact ⟨by first | rfl | trivial, hh⟩
                  · try simp only [zwr_rne, zwr_req, upd_ne, upd_eq, ne_eq, Nat.reduceEqDiff, not_false_eq_true, e2, hk, ck] at g5
                    try omega
                    all_goals
                      refine en_X12_asset ?_
                      try simp only [zwr_rne, zwr_req, upd_ne, upd_eq, ne_eq, Nat.reduceEqDiff, not_false_eq_true, e2, hk, ck]
                      refine m_isFirm (by first | omega | (simp only [zwr_rne, zwr_req, upd_ne, upd_eq, ne_eq, Nat.reduceEqDiff, not_false_eq_true, e2, hk, ck]; omega)) (fun g11 g11' => ?_) (fun g11 => ?_)
                      · try simp only [zwr_rne, zwr_req, upd_ne, upd_eq, ne_eq, Nat.reduceEqDiff, not_false_eq_true, e2, hk, ck] at g11
                        try simp only [zwr_rne, zwr_req, upd_ne, upd_eq, ne_eq, Nat.reduceEqDiff, not_false_eq_true, e2, hk, ck] at g11'
                        try omega
                        all_goals
                          try simp only [one_ne, zero_eq, if_false, if_true, or_true, true_or, or_false, false_or]
                          try simp only [zwr_rne, zwr_req, upd_ne, upd_eq, ne_eq, Nat.reduceEqDiff, not_false_eq_true, e2, hk, ck]
                          refine m_isIn (fun g12 g12' => ?_) (fun g12 => ?_)
                          · try simp only [zwr_rne, zwr_req, upd_ne, upd_eq, ne_eq, Nat.reduceEqDiff, not_false_eq_true, e2, hk, ck] at g12
                            try simp only [zwr_rne, zwr_req, upd_ne, upd_eq, ne_eq, Nat.reduceEqDiff, not_false_eq_true, e2, hk, ck] at g12'
                            try omega
                            all_goals
                              try simp only [one_ne, zero_eq, if_false, if_true, or_true, true_or, or_false, false_or]
                              try simp only [zwr_rne, zwr_req, upd_ne, upd_eq, ne_eq, Nat.reduceEqDiff, not_false_eq_true, e2, hk, ck]
                              refine m_isIn (fun g13 g13' => ?_) (fun g13 => ?_)
                              · try simp only [zwr_rne, zwr_req, upd_ne, upd_eq, ne_eq, Nat.reduceEqDiff, not_false_eq_true, e2, hk, ck] at g13
                                try simp only [zwr_rne, zwr_req, upd_ne, upd_eq, ne_eq, Nat.reduceEqDiff, not_false_eq_true, e2, hk, ck] at g13'
                                try omega
                                all_goals
                                  try simp only [one_ne, zero_eq, if_false, if_true, or_true, true_or, or_false, false_or]
                                  try simp only [zwr_rne, zwr_req, upd_ne, upd_eq, ne_eq, Nat.reduceEqDiff, not_false_eq_true, e2, hk, ck]
                                  refine m_isIn (fun g14 g14' => ?_) (fun g14 => ?_)
                                  · try simp only [zwr_rne, zwr_req, upd_ne, upd_eq, ne_eq, Nat.reduceEqDiff, not_false_eq_true, e2, hk, ck] at g14
                                    try simp only [zwr_rne, zwr_req, upd_ne, upd_eq, ne_eq, Nat.reduceEqDiff, not_false_eq_true, e2, hk, ck] at g14'
                                    try omega
                                    all_goals
                                      try simp only [one_ne, zero_eq, if_false, if_true, or_true, true_or, or_false, false_or]
                                      try simp only [zwr_rne, zwr_req, upd_ne, upd_eq, ne_eq, Nat.reduceEqDiff, not_false_eq_true, e2, hk, ck]
                                      refine zeq (fun g15 => ?_) (fun g15 => ?_)
                                      · try simp only [zwr_rne, zwr_req, upd_ne, upd_eq, ne_eq, Nat.reduceEqDiff, not_false_eq_true, e2, hk, ck] at g15
                                        try omega
                                        all_goals
                                          try simp only [zwr_rne, zwr_req, upd_ne, upd_eq, ne_eq, Nat.reduceEqDiff, not_false_eq_true, e2, hk, ck]
                                          exact ⟨by first | rfl | trivial, hh⟩
                                      · try simp only [zwr_rne, zwr_req, upd_ne, upd_eq, ne_eq, Nat.reduceEqDiff, not_false_eq_true, e2, hk, ck] at g15
                                        try omega
                                        all_goals
                                          try simp only [zwr_rne, zwr_req, upd_ne, upd_eq, ne_eq, Nat.reduceEqDiff, not_false_eq_true, e2, hk, ck]
                                          refine ⟨by first | assumption | exact vin (by omega) | exact vp_in_I.mpr (by omega), ?_⟩
                                          rintro _ rfl
                                          try simp only [zwr_rne, zwr_req, upd_ne, upd_eq, ne_eq, Nat.reduceEqDiff, not_false_eq_true, e2, hk, ck]
                                          refine ⟨by first | assumption | exact vin (by omega) | exact vp_in_I.mpr (by omega), ?_⟩
                                          rintro _ rfl
                                          try simp only [zwr_rne, zwr_req, upd_ne, upd_eq, ne_eq, Nat.reduceEqDiff, not_false_eq_true, e2, hk, ck]
                                          refine ⟨by first | assumption | exact vin (by omega) | exact vp_in_I.mpr (by omega), ?_⟩
                                          rintro _ rfl
                                          try simp only [zwr_rne, zwr_req, upd_ne, upd_eq, ne_eq, Nat.reduceEqDiff, not_false_eq_true, e2, hk, ck]
                                          refine ⟨by first | assumption | exact vin (by omega) | exact vp_in_I.mpr (by omega), ?_⟩
                                          rintro _ rfl
                                          try simp only [zwr_rne, zwr_req, upd_ne, upd_eq, ne_eq, Nat.reduceEqDiff, not_false_eq_true, e2, hk, ck]
                                          refine ⟨by first | assumption | exact vin (by omega) | exact vp_in_I.mpr (by omega), ?_⟩
                                          rintro _ rfl
                                          try simp only [zwr_rne, zwr_req, upd_ne, upd_eq, ne_eq, Nat.reduceEqDiff, not_false_eq_true, e2, hk, ck]
                                          rintro _ rfl
                                          try simp only [zwr_rne, zwr_req, upd_ne, upd_eq, ne_eq, Nat.reduceEqDiff, not_false_eq_true, e2, hk, ck]
                                          refine ⟨by simp, ?_⟩
                                          unfold Rall
                                          simp only [zwr_rne, zwr_req, upd_ne, upd_eq, ne_eq, Nat.reduceEqDiff, not_false_eq_true]
                                          exact ⟨⟨k1, Rcnt.k (by omega) (by omega), k3, k4, k5, k6, k7, k8, k9⟩, Ras.push (by omega) kas' (by omega) (by omega) (by omega) (by omega) (by omega) (by omega) (by omega) (by omega), kcl, kda, kdh, kpl, kkp, ksh, kwt, ktp, klw, ksd, Rwx_stale, Rwx_stale⟩
                                  · try simp only [zwr_rne, zwr_req, upd_ne, upd_eq, ne_eq, Nat.reduceEqDiff, not_false_eq_true, e2, hk, ck] at g14
                                    try omega
                                    all_goals
                                      try simp only [one_ne, zero_eq, if_false, if_true, or_true, true_or, or_false, false_or]
                                      try simp only [zwr_rne, zwr_req, upd_ne, upd_eq, ne_eq, Nat.reduceEqDiff, not_false_eq_true, e2, hk, ck]
                                      exact ⟨by first | rfl | trivial, hh⟩
                              · try simp only [zwr_rne, zwr_req, upd_ne, upd_eq, ne_eq, Nat.reduceEqDiff, not_false_eq_true, e2, hk, ck] at g13
                                try omega
                                all_goals
                                  try simp only [one_ne, zero_eq, if_false, if_true, or_true, true_or, or_false, false_or]
                                  try simp only [zwr_rne, zwr_req, upd_ne, upd_eq, ne_eq, Nat.reduceEqDiff, not_false_eq_true, e2, hk, ck]
                                  exact ⟨by first | rfl | trivial, hh⟩
                          · try simp only [zwr_rne, zwr_req, upd_ne, upd_eq, ne_eq, Nat.reduceEqDiff, not_false_eq_true, e2, hk, ck] at g12
                            try omega
                            all_goals
                              try simp only [one_ne, zero_eq, if_false, if_true, or_true, true_or, or_false, false_or]
                              try simp only [zwr_rne, zwr_req, upd_ne, upd_eq, ne_eq, Nat.reduceEqDiff, not_false_eq_true, e2, hk, ck]
                              exact ⟨by first | rfl | trivial, hh⟩
                      · try simp only [zwr_rne, zwr_req, upd_ne, upd_eq, ne_eq, Nat.reduceEqDiff, not_false_eq_true, e2, hk, ck] at g11
                        try omega
                        all_goals
                          try simp only [one_ne, zero_eq, if_false, if_true, or_true, true_or, or_false, false_or]
                          try simp only [zwr_rne, zwr_req, upd_ne, upd_eq, ne_eq, Nat.reduceEqDiff, not_false_eq_true, e2, hk, ck]
                          exact ⟨by first | rfl | trivial, hh⟩
              · try simp only [zwr_rne, zwr_req, upd_ne, upd_eq, ne_eq, Nat.reduceEqDiff, not_false_eq_true, e2, hk, ck] at g4
                try omega
                all_goals
                  try simp only [one_ne, zero_eq, if_false, if_true, or_true, true_or, or_false, false_or]
                  refine en_X12_asset ?_
                  try simp only [zwr_rne, zwr_req, upd_ne, upd_eq, ne_eq, Nat.reduceEqDiff, not_false_eq_true, e2, hk, ck]
                  refine m_isFirm (by first | omega | (simp only [zwr_rne, zwr_req, upd_ne, upd_eq, ne_eq, Nat.reduceEqDiff, not_false_eq_true, e2, hk, ck]; omega)) (fun g16 g16' => ?_) (fun g16 => ?_)
                  · try simp only [zwr_rne, zwr_req, upd_ne, upd_eq, ne_eq, Nat.reduceEqDiff, not_false_eq_true, e2, hk, ck] at g16
                    try simp only [zwr_rne, zwr_req, upd_ne, upd_eq, ne_eq, Nat.reduceEqDiff, not_false_eq_true, e2, hk, ck] at g16'
                    try omega
                    all_goals
                      try simp only [one_ne, zero_eq, if_false, if_true, or_true, true_or, or_false, false_or]
                      try simp only [zwr_rne, zwr_req, upd_ne, upd_eq, ne_eq, Nat.reduceEqDiff, not_false_eq_true, e2, hk, ck]
                      refine m_isIn (fun g17 g17' => ?_) (fun g17 => ?_)
                      · try simp only [zwr_rne, zwr_req, upd_ne, upd_eq, ne_eq, Nat.reduceEqDiff, not_false_eq_true, e2, hk, ck] at g17
                        try simp only [zwr_rne, zwr_req, upd_ne, upd_eq, ne_eq, Nat.reduceEqDiff, not_false_eq_true, e2, hk, ck] at g17'
                        try omega
                        all_goals
                          try simp only [one_ne, zero_eq, if_false, if_true, or_true, true_or, or_false, false_or]
                          try simp only [zwr_rne, zwr_req, upd_ne, upd_eq, ne_eq, Nat.reduceEqDiff, not_false_eq_true, e2, hk, ck]
                          refine m_isIn (fun g18 g18' => ?_) (fun g18 => ?_)
                          · try simp only [zwr_rne, zwr_req, upd_ne, upd_eq, ne_eq, Nat.reduceEqDiff, not_false_eq_true, e2, hk, ck] at g18
                            try simp only [zwr_rne, zwr_req, upd_ne, upd_eq, ne_eq, Nat.reduceEqDiff, not_false_eq_true, e2, hk, ck] at g18'
                            try omega
                            all_goals
                              try simp only [one_ne, zero_eq, if_false, if_true, or_true, true_or, or_false, false_or]
                              try simp only [zwr_rne, zwr_req, upd_ne, upd_eq, ne_eq, Nat.reduceEqDiff, not_false_eq_true, e2, hk, ck]
                              refine m_isIn (fun g19 g19' => ?_) (fun g19 => ?_)
                              · try simp only [zwr_rne, zwr_req, upd_ne, upd_eq, ne_eq, Nat.reduceEqDiff, not_false_eq_true, e2, hk, ck] at g19
                                try simp only [zwr_rne, zwr_req, upd_ne, upd_eq, ne_eq, Nat.reduceEqDiff, not_false_eq_true, e2, hk, ck] at g19'
                                try omega
                                all_goals
                                  try simp only [one_ne, zero_eq, if_false, if_true, or_true, true_or, or_false, false_or]
                                  try simp only [zwr_rne, zwr_req, upd_ne, upd_eq, ne_eq, Nat.reduceEqDiff, not_false_eq_true, e2, hk, ck]
                                  refine zeq (fun g20 => ?_) (fun g20 => ?_)
                                  · try simp only [zwr_rne, zwr_req, upd_ne, upd_eq, ne_eq, Nat.reduceEqDiff, not_false_eq_true, e2, hk, ck] at g20
                                    try omega
                                    all_goals
                                      try simp only [zwr_rne, zwr_req, upd_ne, upd_eq, ne_eq, Nat.reduceEqDiff, not_false_eq_true, e2, hk, ck]
                                      exact ⟨by first | rfl | trivial, hh⟩
                                  · try simp only [zwr_rne, zwr_req, upd_ne, upd_eq, ne_eq, Nat.reduceEqDiff, not_false_eq_true, e2, hk, ck] at g20
                                    try omega
                                    all_goals
                                      try simp only [zwr_rne, zwr_req, upd_ne, upd_eq, ne_eq, Nat.reduceEqDiff, not_false_eq_true, e2, hk, ck]
                                      refine ⟨by first | assumption | exact vin (by omega) | exact vp_in_I.mpr (by omega), ?_⟩
                                      rintro _ rfl
                                      try simp only [zwr_rne, zwr_req, upd_ne, upd_eq, ne_eq, Nat.reduceEqDiff, not_false_eq_true, e2, hk, ck]
                                      refine ⟨by first | assumption | exact vin (by omega) | exact vp_in_I.mpr (by omega), ?_⟩
                                      rintro _ rfl
                                      try simp only [zwr_rne, zwr_req, upd_ne, upd_eq, ne_eq, Nat.reduceEqDiff, not_false_eq_true, e2, hk, ck]
                                      refine ⟨by first | assumption | exact vin (by omega) | exact vp_in_I.mpr (by omega), ?_⟩
                                      rintro _ rfl
                                      try simp only [zwr_rne, zwr_req, upd_ne, upd_eq, ne_eq, Nat.reduceEqDiff, not_false_eq_true, e2, hk, ck]
                                      refine ⟨by first | assumption | exact vin (by omega) | exact vp_in_I.mpr (by omega), ?_⟩
                                      rintro _ rfl
                                      try simp only [zwr_rne, zwr_req, upd_ne, upd_eq, ne_eq, Nat.reduceEqDiff, not_false_eq_true, e2, hk, ck]
                                      refine ⟨by first | assumption | exact vin (by omega) | exact vp_in_I.mpr (by omega), ?_⟩
                                      rintro _ rfl
                                      try simp only [zwr_rne, zwr_req, upd_ne, upd_eq, ne_eq, Nat.reduceEqDiff, not_false_eq_true, e2, hk, ck]
                                      rintro _ rfl
                                      try simp only [zwr_rne, zwr_req, upd_ne, upd_eq, ne_eq, Nat.reduceEqDiff, not_false_eq_true, e2, hk, ck]
                                      refine ⟨by simp, ?_⟩
                                      unfold Rall
                                      simp only [zwr_rne, zwr_req, upd_ne, upd_eq, ne_eq, Nat.reduceEqDiff, not_false_eq_true]
                                      exact ⟨⟨k1, Rcnt.k (by omega) (by omega), k3, k4, k5, k6, k7, k8, k9⟩, Ras.push (by omega) kas' (by omega) (by omega) (by omega) (by omega) (by omega) (by omega) (by omega) (by omega), kcl, kda, kdh, kpl, kkp, ksh, kwt, ktp, klw, ksd, Rwx_stale, Rwx_stale⟩
                              · try simp only [zwr_rne, zwr_req, upd_ne, upd_eq, ne_eq, Nat.reduceEqDiff, not_false_eq_true, e2, hk, ck] at g19
                                try omega
                                all_goals
                                  try simp only [one_ne, zero_eq, if_false, if_true, or_true, true_or, or_false, false_or]
                                  try simp only [zwr_rne, zwr_req, upd_ne, upd_eq, ne_eq, Nat.reduceEqDiff, not_false_eq_true, e2, hk, ck]
                                  exact ⟨by first | rfl | trivial, hh⟩
                          · try simp only [zwr_rne, zwr_req, upd_ne, upd_eq, ne_eq, Nat.reduceEqDiff, not_false_eq_true, e2, hk, ck] at g18
                            try omega
                            all_goals
                              try simp only [one_ne, zero_eq, if_false, if_true, or_true, true_or, or_false, false_or]
                              try simp only [zwr_rne, zwr_req, upd_ne, upd_eq, ne_eq, Nat.reduceEqDiff, not_false_eq_true, e2, hk, ck]
                              exact ⟨by first | rfl | trivial, hh⟩
                      · try simp only [zwr_rne, zwr_req, upd_ne, upd_eq, ne_eq, Nat.reduceEqDiff, not_false_eq_true, e2, hk, ck] at g17
                        try omega
                        all_goals
                          try simp only [one_ne, zero_eq, if_false, if_true, or_true, true_or, or_false, false_or]
                          try simp only [zwr_rne, zwr_req, upd_ne, upd_eq, ne_eq, Nat.reduceEqDiff, not_false_eq_true, e2, hk, ck]
                          exact ⟨by first | rfl | trivial, hh⟩
                  · try simp only [zwr_rne, zwr_req, upd_ne, upd_eq, ne_eq, Nat.reduceEqDiff, not_false_eq_true, e2, hk, ck] at g16
                    try omega
                    all_goals
                      try simp only [one_ne, zero_eq, if_false, if_true, or_true, true_or, or_false, false_or]
                      try simp only [zwr_rne, zwr_req, upd_ne, upd_eq, ne_eq, Nat.reduceEqDiff, not_false_eq_true, e2, hk, ck]
                      exact ⟨by first | rfl | trivial, hh⟩
          · try simp only [zwr_rne, zwr_req, upd_ne, upd_eq, ne_eq, Nat.reduceEqDiff, not_false_eq_true, e2, hk, ck] at g3
            try omega
            all_goals
              try simp only [one_ne, zero_eq, if_false, if_true, or_true, true_or, or_false, false_or]
              refine en_X12_asset ?_
              try simp only [zwr_rne, zwr_req, upd_ne, upd_eq, ne_eq, Nat.reduceEqDiff, not_false_eq_true, e2, hk, ck]
              refine m_isFirm (by first | omega | (simp only [zwr_rne, zwr_req, upd_ne, upd_eq, ne_eq, Nat.reduceEqDiff, not_false_eq_true, e2, hk, ck]; omega)) (fun g21 g21' => ?_) (fun g21 => ?_)
              · try simp only [zwr_rne, zwr_req, upd_ne, upd_eq, ne_eq, Nat.reduceEqDiff, not_false_eq_true, e2, hk, ck] at g21
                try simp only [zwr_rne, zwr_req, upd_ne, upd_eq, ne_eq, Nat.reduceEqDiff, not_false_eq_true, e2, hk, ck] at g21'
                try omega
                all_goals
                  try simp only [one_ne, zero_eq, if_false, if_true, or_true, true_or, or_false, false_or]
                  try simp only [zwr_rne, zwr_req, upd_ne, upd_eq, ne_eq, Nat.reduceEqDiff, not_false_eq_true, e2, hk, ck]
                  refine m_isIn (fun g22 g22' => ?_) (fun g22 => ?_)
                  · try simp only [zwr_rne, zwr_req, upd_ne, upd_eq, ne_eq, Nat.reduceEqDiff, not_false_eq_true, e2, hk, ck] at g22
                    try simp only [zwr_rne, zwr_req, upd_ne, upd_eq, ne_eq, Nat.reduceEqDiff, not_false_eq_true, e2, hk, ck] at g22'
                    try omega
                    all_goals
                      try simp only [one_ne, zero_eq, if_false, if_true, or_true, true_or, or_false, false_or]
                      try simp only [zwr_rne, zwr_req, upd_ne, upd_eq, ne_eq, Nat.reduceEqDiff, not_false_eq_true, e2, hk, ck]
                      refine m_isIn (fun g23 g23' => ?_) (fun g23 => ?_)
                      · try simp only [zwr_rne, zwr_req, upd_ne, upd_eq, ne_eq, Nat.reduceEqDiff, not_false_eq_true, e2, hk, ck] at g23
                        try simp only [zwr_rne, zwr_req, upd_ne, upd_eq, ne_eq, Nat.reduceEqDiff, not_false_eq_true, e2, hk, ck] at g23'
                        try omega
                        all_goals
                          try simp only [one_ne, zero_eq, if_false, if_true, or_true, true_or, or_false, false_or]
                          try simp only [zwr_rne, zwr_req, upd_ne, upd_eq, ne_eq, Nat.reduceEqDiff, not_false_eq_true, e2, hk, ck]
                          refine m_isIn (fun g24 g24' => ?_) (fun g24 => ?_)
                          · try simp only [zwr_rne, zwr_req, upd_ne, upd_eq, ne_eq, Nat.reduceEqDiff, not_false_eq_true, e2, hk, ck] at g24
                            try simp only [zwr_rne, zwr_req, upd_ne, upd_eq, ne_eq, Nat.reduceEqDiff, not_false_eq_true, e2, hk, ck] at g24'
                            try omega
                            all_goals
                              try simp only [one_ne, zero_eq, if_false, if_true, or_true, true_or, or_false, false_or]
                              try simp only [zwr_rne, zwr_req, upd_ne, upd_eq, ne_eq, Nat.reduceEqDiff, not_false_eq_true, e2, hk, ck]
                              refine zeq (fun g25 => ?_) (fun g25 => ?_)
                              · try simp only [zwr_rne, zwr_req, upd_ne, upd_eq, ne_eq, Nat.reduceEqDiff, not_false_eq_true, e2, hk, ck] at g25
                                try omega
                                all_goals
                                  try simp only [zwr_rne, zwr_req, upd_ne, upd_eq, ne_eq, Nat.reduceEqDiff, not_false_eq_true, e2, hk, ck]
                                  exact ⟨by first | rfl | trivial, hh⟩
                              · try simp only [zwr_rne, zwr_req, upd_ne, upd_eq, ne_eq, Nat.reduceEqDiff, not_false_eq_true, e2, hk, ck] at g25
                                try omega
                                all_goals
                                  try simp only [zwr_rne, zwr_req, upd_ne, upd_eq, ne_eq, Nat.reduceEqDiff, not_false_eq_true, e2, hk, ck]
                                  refine ⟨by first | assumption | exact vin (by omega) | exact vp_in_I.mpr (by omega), ?_⟩
                                  rintro _ rfl
                                  try simp only [zwr_rne, zwr_req, upd_ne, upd_eq, ne_eq, Nat.reduceEqDiff, not_false_eq_true, e2, hk, ck]
                                  refine ⟨by first | assumption | exact vin (by omega) | exact vp_in_I.mpr (by omega), ?_⟩
                                  rintro _ rfl
                                  try simp only [zwr_rne, zwr_req, upd_ne, upd_eq, ne_eq, Nat.reduceEqDiff, not_false_eq_true, e2, hk, ck]
                                  refine ⟨by first | assumption | exact vin (by omega) | exact vp_in_I.mpr (by omega), ?_⟩
                                  rintro _ rfl
                                  try simp only [zwr_rne, zwr_req, upd_ne, upd_eq, ne_eq, Nat.reduceEqDiff, not_false_eq_true, e2, hk, ck]
                                  refine ⟨by first | assumption | exact vin (by omega) | exact vp_in_I.mpr (by omega), ?_⟩
                                  rintro _ rfl
                                  try simp only [zwr_rne, zwr_req, upd_ne, upd_eq, ne_eq, Nat.reduceEqDiff, not_false_eq_true, e2, hk, ck]
                                  refine ⟨by first | assumption | exact vin (by omega) | exact vp_in_I.mpr (by omega), ?_⟩
                                  rintro _ rfl
                                  try simp only [zwr_rne, zwr_req, upd_ne, upd_eq, ne_eq, Nat.reduceEqDiff, not_false_eq_true, e2, hk, ck]
                                  rintro _ rfl
                                  try simp only [zwr_rne, zwr_req, upd_ne, upd_eq, ne_eq, Nat.reduceEqDiff, not_false_eq_true, e2, hk, ck]
                                  refine ⟨by simp, ?_⟩
                                  unfold Rall
                                  simp only [zwr_rne, zwr_req, upd_ne, upd_eq, ne_eq, Nat.reduceEqDiff, not_false_eq_true]
                                  exact ⟨⟨k1, Rcnt.k (by omega) (by omega), k3, k4, k5, k6, k7, k8, k9⟩, Ras.push (by omega) kas' (by omega) (by omega) (by omega) (by omega) (by omega) (by omega) (by omega) (by omega), kcl, kda, kdh, kpl, kkp, ksh, kwt, ktp, klw, ksd, Rwx_stale, Rwx_stale⟩
                          · try simp only [zwr_rne, zwr_req, upd_ne, upd_eq, ne_eq, Nat.reduceEqDiff, not_false_eq_true, e2, hk, ck] at g24
                            try omega
                            all_goals
                              try simp only [one_ne, zero_eq, if_false, if_true, or_true, true_or, or_false, false_or]
                              try simp only [zwr_rne, zwr_req, upd_ne, upd_eq, ne_eq, Nat.reduceEqDiff, not_false_eq_true, e2, hk, ck]
                              exact ⟨by first | rfl | trivial, hh⟩
                      · try simp only [zwr_rne, zwr_req, upd_ne, upd_eq, ne_eq, Nat.reduceEqDiff, not_false_eq_true, e2, hk, ck] at g23
                        try omega
                        all_goals
                          try simp only [one_ne, zero_eq, if_false, if_true, or_true, true_or, or_false, false_or]
                          try simp only [zwr_rne, zwr_req, upd_ne, upd_eq, ne_eq, Nat.reduceEqDiff, not_false_eq_true, e2, hk, ck]
                          exact ⟨by first | rfl | trivial, hh⟩
                  · try simp only [zwr_rne, zwr_req, upd_ne, upd_eq, ne_eq, Nat.reduceEqDiff, not_false_eq_true, e2, hk, ck] at g22
                    try omega
                    all_goals
                      try simp only [one_ne, zero_eq, if_false, if_true, or_true, true_or, or_false, false_or]
                      try simp only [zwr_rne, zwr_req, upd_ne, upd_eq, ne_eq, Nat.reduceEqDiff, not_false_eq_true, e2, hk, ck]
                      exact ⟨by first | rfl | trivial, hh⟩
              · try simp only [zwr_rne, zwr_req, upd_ne, upd_eq, ne_eq, Nat.reduceEqDiff, not_false_eq_true, e2, hk, ck] at g21
                try omega
                all_goals
                  try simp only [one_ne, zero_eq, if_false, if_true, or_true, true_or, or_false, false_or]
                  try simp only [zwr_rne, zwr_req, upd_ne, upd_eq, ne_eq, Nat.reduceEqDiff, not_false_eq_true, e2, hk, ck]
                  exact ⟨by first | rfl | trivial, hh⟩
      · try simp only [zwr_rne, zwr_req, upd_ne, upd_eq, ne_eq, Nat.reduceEqDiff, not_false_eq_true, e2, hk, ck] at g2
        try omega
        all_goals
          try simp only [one_ne, zero_eq, if_false, if_true, or_true, true_or, or_false, false_or]
          refine en_X12_asset ?_
          try simp only [zwr_rne, zwr_req, upd_ne, upd_eq, ne_eq, Nat.reduceEqDiff, not_false_eq_true, e2, hk, ck]
          refine m_isFirm (by first | omega | (simp only [zwr_rne, zwr_req, upd_ne, upd_eq, ne_eq, Nat.reduceEqDiff, not_false_eq_true, e2, hk, ck]; omega)) (fun g26 g26' => ?_) (fun g26 => ?_)
          · try simp only [zwr_rne, zwr_req, upd_ne, upd_eq, ne_eq, Nat.reduceEqDiff, not_false_eq_true, e2, hk, ck] at g26
            try simp only [zwr_rne, zwr_req, upd_ne, upd_eq, ne_eq, Nat.reduceEqDiff, not_false_eq_true, e2, hk, ck] at g26'
            try omega
            all_goals
              try simp only [one_ne, zero_eq, if_false, if_true, or_true, true_or, or_false, false_or]
              try simp only [zwr_rne, zwr_req, upd_ne, upd_eq, ne_eq, Nat.reduceEqDiff, not_false_eq_true, e2, hk, ck]
              refine m_isIn (fun g27 g27' => ?_) (fun g27 => ?_)
              · try simp only [zwr_rne, zwr_req, upd_ne, upd_eq, ne_eq, Nat.reduceEqDiff, not_false_eq_true, e2, hk, ck] at g27
                try simp only [zwr_rne, zwr_req, upd_ne, upd_eq, ne_eq, Nat.reduceEqDiff, not_false_eq_true, e2, hk, ck] at g27'
                try omega
                all_goals
                  try simp only [one_ne, zero_eq, if_false, if_true, or_true, true_or, or_false, false_or]
                  try simp only [zwr_rne, zwr_req, upd_ne, upd_eq, ne_eq, Nat.reduceEqDiff, not_false_eq_true, e2, hk, ck]
                  refine m_isIn (fun g28 g28' => ?_) (fun g28 => ?_)
                  · try simp only [zwr_rne, zwr_req, upd_ne, upd_eq, ne_eq, Nat.reduceEqDiff, not_false_eq_true, e2, hk, ck] at g28
                    try simp only [zwr_rne, zwr_req, upd_ne, upd_eq, ne_eq, Nat.reduceEqDiff, not_false_eq_true, e2, hk, ck] at g28'
                    try omega
                    all_goals
                      try simp only [one_ne, zero_eq, if_false, if_true, or_true, true_or, or_false, false_or]
                      try simp only [zwr_rne, zwr_req, upd_ne, upd_eq, ne_eq, Nat.reduceEqDiff, not_false_eq_true, e2, hk, ck]
                      refine m_isIn (fun g29 g29' => ?_) (fun g29 => ?_)
                      · try simp only [zwr_rne, zwr_req, upd_ne, upd_eq, ne_eq, Nat.reduceEqDiff, not_false_eq_true, e2, hk, ck] at g29
                        try simp only [zwr_rne, zwr_req, upd_ne, upd_eq, ne_eq, Nat.reduceEqDiff, not_false_eq_true, e2, hk, ck] at g29'
                        try omega
                        all_goals
                          try simp only [one_ne, zero_eq, if_false, if_true, or_true, true_or, or_false, false_or]
                          try simp only [zwr_rne, zwr_req, upd_ne, upd_eq, ne_eq, Nat.reduceEqDiff, not_false_eq_true, e2, hk, ck]
                          refine zeq (fun g30 => ?_) (fun g30 => ?_)
                          · try simp only [zwr_rne, zwr_req, upd_ne, upd_eq, ne_eq, Nat.reduceEqDiff, not_false_eq_true, e2, hk, ck] at g30
                            try omega
                            all_goals
                              try simp only [zwr_rne, zwr_req, upd_ne, upd_eq, ne_eq, Nat.reduceEqDiff, not_false_eq_true, e2, hk, ck]
                              exact ⟨by first | rfl | trivial, hh⟩
                          · try simp only [zwr_rne, zwr_req, upd_ne, upd_eq, ne_eq, Nat.reduceEqDiff, not_false_eq_true, e2, hk, ck] at g30
                            try omega
                            all_goals
                              try simp only [zwr_rne, zwr_req, upd_ne, upd_eq, ne_eq, Nat.reduceEqDiff, not_false_eq_true, e2, hk, ck]
                              refine ⟨by first | assumption | exact vin (by omega) | exact vp_in_I.mpr (by omega), ?_⟩
                              rintro _ rfl
                              try simp only [zwr_rne, zwr_req, upd_ne, upd_eq, ne_eq, Nat.reduceEqDiff, not_false_eq_true, e2, hk, ck]
                              refine ⟨by first | assumption | exact vin (by omega) | exact vp_in_I.mpr (by omega), ?_⟩
                              rintro _ rfl
                              try simp only [zwr_rne, zwr_req, upd_ne, upd_eq, ne_eq, Nat.reduceEqDiff, not_false_eq_true, e2, hk, ck]
                              refine ⟨by first | assumption | exact vin (by omega) | exact vp_in_I.mpr (by omega), ?_⟩
                              rintro _ rfl
                              try simp only [zwr_rne, zwr_req, upd_ne, upd_eq, ne_eq, Nat.reduceEqDiff, not_false_eq_true, e2, hk, ck]
                              refine ⟨by first | assumption | exact vin (by omega) | exact vp_in_I.mpr (by omega), ?_⟩
                              rintro _ rfl
                              try simp only [zwr_rne, zwr_req, upd_ne, upd_eq, ne_eq, Nat.reduceEqDiff, not_false_eq_true, e2, hk, ck]
                              refine ⟨by first | assumption | exact vin (by omega) | exact vp_in_I.mpr (by omega), ?_⟩
                              rintro _ rfl
                              try simp only [zwr_rne, zwr_req, upd_ne, upd_eq, ne_eq, Nat.reduceEqDiff, not_false_eq_true, e2, hk, ck]
                              rintro _ rfl
                              try simp only [zwr_rne, zwr_req, upd_ne, upd_eq, ne_eq, Nat.reduceEqDiff, not_false_eq_true, e2, hk, ck]
                              refine ⟨by simp, ?_⟩
                              unfold Rall
                              simp only [zwr_rne, zwr_req, upd_ne, upd_eq, ne_eq, Nat.reduceEqDiff, not_false_eq_true]
                              exact ⟨⟨k1, Rcnt.k (by omega) (by omega), k3, k4, k5, k6, k7, k8, k9⟩, Ras.push (by omega) kas' (by omega) (by omega) (by omega) (by omega) (by omega) (by omega) (by omega) (by omega), kcl, kda, kdh, kpl, kkp, ksh, kwt, ktp, klw, ksd, Rwx_stale, Rwx_stale⟩
                      · try simp only [zwr_rne, zwr_req, upd_ne, upd_eq, ne_eq, Nat.reduceEqDiff, not_false_eq_true, e2, hk, ck] at g29
                        try omega
                        all_goals
                          try simp only [one_ne, zero_eq, if_false, if_true, or_true, true_or, or_false, false_or]
                          try simp only [zwr_rne, zwr_req, upd_ne, upd_eq, ne_eq, Nat.reduceEqDiff, not_false_eq_true, e2, hk, ck]
                          exact ⟨by first | rfl | trivial, hh⟩
                  · try simp only [zwr_rne, zwr_req, upd_ne, upd_eq, ne_eq, Nat.reduceEqDiff, not_false_eq_true, e2, hk, ck] at g28
                    try omega
                    all_goals
                      try simp only [one_ne, zero_eq, if_false, if_true, or_true, true_or, or_false, false_or]
                      try simp only [zwr_rne, zwr_req, upd_ne, upd_eq, ne_eq, Nat.reduceEqDiff, not_false_eq_true, e2, hk, ck]
                      exact ⟨by first | rfl | trivial, hh⟩
              · try simp only [zwr_rne, zwr_req, upd_ne, upd_eq, ne_eq, Nat.reduceEqDiff, not_false_eq_true, e2, hk, ck] at g27
                try omega
                all_goals
                  try simp only [one_ne, zero_eq, if_false, if_true, or_true, true_or, or_false, false_or]
                  try simp only [zwr_rne, zwr_req, upd_ne, upd_eq, ne_eq, Nat.reduceEqDiff, not_false_eq_true, e2, hk, ck]
                  exact ⟨by first | rfl | trivial, hh⟩
          · try simp only [zwr_rne, zwr_req, upd_ne, upd_eq, ne_eq, Nat.reduceEqDiff, not_false_eq_true, e2, hk, ck] at g26
            try omega
            all_goals
              try simp only [one_ne, zero_eq, if_false, if_true, or_true, true_or, or_false, false_or]
              try simp only [zwr_rne, zwr_req, upd_ne, upd_eq, ne_eq, Nat.reduceEqDiff, not_false_eq_true, e2, hk, ck]
              exact ⟨by first | rfl | trivial, hh⟩
  · try simp only [zwr_rne, zwr_req, upd_ne, upd_eq, ne_eq, Nat.reduceEqDiff, not_false_eq_true, e2, hk, ck] at g1
    try omega
    all_goals
      try simp only [one_ne, zero_eq, if_false, if_true, or_true, true_or, or_false, false_or]
      refine en_X12_asset ?_
      try simp only [zwr_rne, zwr_req, upd_ne, upd_eq, ne_eq, Nat.reduceEqDiff, not_false_eq_true, e2, hk, ck]
      refine m_isFirm (by first | omega | (simp only [zwr_rne, zwr_req, upd_ne, upd_eq, ne_eq, Nat.reduceEqDiff, not_false_eq_true, e2, hk, ck]; omega)) (fun g31 g31' => ?_) (fun g31 => ?_)
      · try simp only [zwr_rne, zwr_req, upd_ne, upd_eq, ne_eq, Nat.reduceEqDiff, not_false_eq_true, e2, hk, ck] at g31
        try simp only [zwr_rne, zwr_req, upd_ne, upd_eq, ne_eq, Nat.reduceEqDiff, not_false_eq_true, e2, hk, ck] at g31'
        try omega
        all_goals
          try simp only [one_ne, zero_eq, if_false, if_true, or_true, true_or, or_false, false_or]
          try simp only [zwr_rne, zwr_req, upd_ne, upd_eq, ne_eq, Nat.reduceEqDiff, not_false_eq_true, e2, hk, ck]
          refine m_isIn (fun g32 g32' => ?_) (fun g32 => ?_)
          · try simp only [zwr_rne, zwr_req, upd_ne, upd_eq, ne_eq, Nat.reduceEqDiff, not_false_eq_true, e2, hk, ck] at g32
            try simp only [zwr_rne, zwr_req, upd_ne, upd_eq, ne_eq, Nat.reduceEqDiff, not_false_eq_true, e2, hk, ck] at g32'
            try omega
            all_goals
              try simp only [one_ne, zero_eq, if_false, if_true, or_true, true_or, or_false, false_or]
              try simp only [zwr_rne, zwr_req, upd_ne, upd_eq, ne_eq, Nat.reduceEqDiff, not_false_eq_true, e2, hk, ck]
              refine m_isIn (fun g33 g33' => ?_) (fun g33 => ?_)
              · try simp only [zwr_rne, zwr_req, upd_ne, upd_eq, ne_eq, Nat.reduceEqDiff, not_false_eq_true, e2, hk, ck] at g33
                try simp only [zwr_rne, zwr_req, upd_ne, upd_eq, ne_eq, Nat.reduceEqDiff, not_false_eq_true, e2, hk, ck] at g33'
                try omega
                all_goals
                  try simp only [one_ne, zero_eq, if_false, if_true, or_true, true_or, or_false, false_or]
                  try simp only [zwr_rne, zwr_req, upd_ne, upd_eq, ne_eq, Nat.reduceEqDiff, not_false_eq_true, e2, hk, ck]
                  refine m_isIn (fun g34 g34' => ?_) (fun g34 => ?_)
                  · try simp only [zwr_rne, zwr_req, upd_ne, upd_eq, ne_eq, Nat.reduceEqDiff, not_false_eq_true, e2, hk, ck] at g34
                    try simp only [zwr_rne, zwr_req, upd_ne, upd_eq, ne_eq, Nat.reduceEqDiff, not_false_eq_true, e2, hk, ck] at g34'
                    try omega
                    all_goals
                      try simp only [one_ne, zero_eq, if_false, if_true, or_true, true_or, or_false, false_or]
                      try simp only [zwr_rne, zwr_req, upd_ne, upd_eq, ne_eq, Nat.reduceEqDiff, not_false_eq_true, e2, hk, ck]
                      refine zeq (fun g35 => ?_) (fun g35 => ?_)
                      · try simp only [zwr_rne, zwr_req, upd_ne, upd_eq, ne_eq, Nat.reduceEqDiff, not_false_eq_true, e2, hk, ck] at g35
                        try omega
                        all_goals
                          try simp only [zwr_rne, zwr_req, upd_ne, upd_eq, ne_eq, Nat.reduceEqDiff, not_false_eq_true, e2, hk, ck]
                          exact ⟨by first | rfl | trivial, hh⟩
                      · try simp only [zwr_rne, zwr_req, upd_ne, upd_eq, ne_eq, Nat.reduceEqDiff, not_false_eq_true, e2, hk, ck] at g35
                        try omega
                        all_goals
                          try simp only [zwr_rne, zwr_req, upd_ne, upd_eq, ne_eq, Nat.reduceEqDiff, not_false_eq_true, e2, hk, ck]
                          refine ⟨by first | assumption | exact vin (by omega) | exact vp_in_I.mpr (by omega), ?_⟩
                          rintro _ rfl
                          try simp only [zwr_rne, zwr_req, upd_ne, upd_eq, ne_eq, Nat.reduceEqDiff, not_false_eq_true, e2, hk, ck]
                          refine ⟨by first | assumption | exact vin (by omega) | exact vp_in_I.mpr (by omega), ?_⟩
                          rintro _ rfl
                          try simp only [zwr_rne, zwr_req, upd_ne, upd_eq, ne_eq, Nat.reduceEqDiff, not_false_eq_true, e2, hk, ck]
                          refine ⟨by first | assumption | exact vin (by omega) | exact vp_in_I.mpr (by omega), ?_⟩
                          rintro _ rfl
                          try simp only [zwr_rne, zwr_req, upd_ne, upd_eq, ne_eq, Nat.reduceEqDiff, not_false_eq_true, e2, hk, ck]
                          refine ⟨by first | assumption | exact vin (by omega) | exact vp_in_I.mpr (by omega), ?_⟩
                          rintro _ rfl
                          try simp only [zwr_rne, zwr_req, upd_ne, upd_eq, ne_eq, Nat.reduceEqDiff, not_false_eq_true, e2, hk, ck]
                          refine ⟨by first | assumption | exact vin (by omega) | exact vp_in_I.mpr (by omega), ?_⟩
                          rintro _ rfl
                          try simp only [zwr_rne, zwr_req, upd_ne, upd_eq, ne_eq, Nat.reduceEqDiff, not_false_eq_true, e2, hk, ck]
                          rintro _ rfl
                          try simp only [zwr_rne, zwr_req, upd_ne, upd_eq, ne_eq, Nat.reduceEqDiff, not_false_eq_true, e2, hk, ck]
                          refine ⟨by simp, ?_⟩
                          unfold Rall
                          simp only [zwr_rne, zwr_req, upd_ne, upd_eq, ne_eq, Nat.reduceEqDiff, not_false_eq_true]
                          exact ⟨⟨k1, Rcnt.k (by omega) (by omega), k3, k4, k5, k6, k7, k8, k9⟩, Ras.push (by omega) kas' (by omega) (by omega) (by omega) (by omega) (by omega) (by omega) (by omega) (by omega), kcl, kda, kdh, kpl, kkp, ksh, kwt, ktp, klw, ksd, Rwx_stale, Rwx_stale⟩
                  · try simp only [zwr_rne, zwr_req, upd_ne, upd_eq, ne_eq, Nat.reduceEqDiff, not_false_eq_true, e2, hk, ck] at g34
                    try omega
                    all_goals
                      try simp only [one_ne, zero_eq, if_false, if_true, or_true, true_or, or_false, false_or]
                      try simp only [zwr_rne, zwr_req, upd_ne, upd_eq, ne_eq, Nat.reduceEqDiff, not_false_eq_true, e2, hk, ck]
                      exact ⟨by first | rfl | trivial, hh⟩
              · try simp only [zwr_rne, zwr_req, upd_ne, upd_eq, ne_eq, Nat.reduceEqDiff, not_false_eq_true, e2, hk, ck] at g33
                try omega
                all_goals
                  try simp only [one_ne, zero_eq, if_false, if_true, or_true, true_or, or_false, false_or]
                  try simp only [zwr_rne, zwr_req, upd_ne, upd_eq, ne_eq, Nat.reduceEqDiff, not_false_eq_true, e2, hk, ck]
                  exact ⟨by first | rfl | trivial, hh⟩
          · try simp only [zwr_rne, zwr_req, upd_ne, upd_eq, ne_eq, Nat.reduceEqDiff, not_false_eq_true, e2, hk, ck] at g32
            try omega
            all_goals
              try simp only [one_ne, zero_eq, if_false, if_true, or_true, true_or, or_false, false_or]
              try simp only [zwr_rne, zwr_req, upd_ne, upd_eq, ne_eq, Nat.reduceEqDiff, not_false_eq_true, e2, hk, ck]
              exact ⟨by first | rfl | trivial, hh⟩
      · try simp only [zwr_rne, zwr_req, upd_ne, upd_eq, ne_eq, Nat.reduceEqDiff, not_false_eq_true, e2, hk, ck] at g31
        try omega
        all_goals
          try simp only [one_ne, zero_eq, if_false, if_true, or_true, true_or, or_false, false_or]
          try simp only [zwr_rne, zwr_req, upd_ne, upd_eq, ne_eq, Nat.reduceEqDiff, not_false_eq_true, e2, hk, ck]
          exact ⟨by first | rfl | trivial, hh⟩
