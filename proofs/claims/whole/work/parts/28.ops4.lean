theorem P_isOf {G : zGT} {d : Nat} {v1 v2 : Int32} : Pair G (d + 6) Y_X11_isOf Y_X12_isOf [.inl v1, .inl v2] := by
  intro σ h
  have hh := h
  obtain ⟨⟨k1, k2, k3, k4, k5, k6, k7, k8, k9⟩, kas, kcl, kda, kdh, kpl, kkp, ksh, kwt, ktp, klw, ksd, kw0, kw1⟩ := h
  obtain ⟨e1, b1, u1⟩ := id k1
  obtain ⟨e2, b2, u2⟩ := id k2
  obtain ⟨e3, b3, u3⟩ := id k3
  obtain ⟨e4, b4, u4⟩ := id k4
  obtain ⟨e5, b5, u5⟩ := id k5
  obtain ⟨e6, b6, u6⟩ := id k6
  obtain ⟨e7, b7, u7⟩ := id k7
  obtain ⟨e8, b8, u8⟩ := id k8
  obtain ⟨e9, b9, u9⟩ := id k9
  have f1 : (σ 0 15).toInt = (σ 72 1).toInt := by rw [e1]
  have f2 : (σ 14 5).toInt = (σ 72 2).toInt := by rw [e2]
  have f3 : (σ 1 6).toInt = (σ 72 8).toInt := by rw [e3]
  have f4 : (σ 0 16).toInt = (σ 72 0).toInt := by rw [e4]
  have f5 : (σ 55 7).toInt = (σ 72 22).toInt := by rw [e5]
  have f6 : (σ 14 6).toInt = (σ 72 23).toInt := by rw [e6]
  have f7 : (σ 0 17).toInt = (σ 72 24).toInt := by rw [e7]
  have f8 : (σ 0 13).toInt = (σ 72 25).toInt := by rw [e8]
  have f9 : (σ 46 1).toInt = (σ 72 28).toInt := by rw [e9]
  have l0 := ti0
  have l1 := ti1
  have l2 := ti2
  have l3 := ti3
  have l4 := ti4
  have l5 := ti5
  have l6 := ti6
  have l8 := ti8
  have l9 := ti9
  have l10 := ti10
  have l16 := ti16
  have l20 := ti20
  have l24 := ti24
  have l31 := ti31
  have l60 := ti60
  have l96 := ti96
  have l100 := ti100
  have l200 := ti200
  have l400 := ti400
  have l600 := ti600
  have l1200 := ti1200
  have l100000 := ti100000
  have lm1 := tim1
  have lB := tiB
  have lN := tiN
  rcases idx_of v1 (σ 72 8) with hb | ⟨c, rfl, hc, hc2⟩
  · refine en_X11_isOf ?_
    try simp only [zwr_rne, zwr_req, upd_ne, upd_eq, ne_eq, Nat.reduceEqDiff, not_false_eq_true]
    refine c_hasC (fun g1 g1' => ?_) (fun g1 => ?_)
    · try simp only [zwr_rne, zwr_req, upd_ne, upd_eq, ne_eq, Nat.reduceEqDiff, not_false_eq_true] at g1
      try simp only [zwr_rne, zwr_req, upd_ne, upd_eq, ne_eq, Nat.reduceEqDiff, not_false_eq_true] at g1'
      try omega
      all_goals
       try simp only [one_ne, zero_eq, if_false, if_true, or_true, true_or, or_false, false_or]
       refine c_isWithin (fun g2 g2' => ?_) (fun g2 => ?_)
       · try simp only [zwr_rne, zwr_req, upd_ne, upd_eq, ne_eq, Nat.reduceEqDiff, not_false_eq_true] at g2
         try simp only [zwr_rne, zwr_req, upd_ne, upd_eq, ne_eq, Nat.reduceEqDiff, not_false_eq_true] at g2'
         try omega
         all_goals
          try simp only [one_ne, zero_eq, if_false, if_true, or_true, true_or, or_false, false_or]
          refine ⟨by first | assumption | exact vin (by omega) | exact vp_in_I.mpr (by omega), ?_⟩
          refine zeq (fun g3 => ?_) (fun g3 => ?_)
          · try simp only [zwr_rne, zwr_req, upd_ne, upd_eq, ne_eq, Nat.reduceEqDiff, not_false_eq_true] at g3
            try omega
            all_goals
             exfalso; omega
             try simp only [zwr_rne, zwr_req, upd_ne, upd_eq, ne_eq, Nat.reduceEqDiff, not_false_eq_true]
             refine en_X12_isOf ?_
             try simp only [zwr_rne, zwr_req, upd_ne, upd_eq, ne_eq, Nat.reduceEqDiff, not_false_eq_true]
             refine m_isClaim (by first | omega | (simp only [zwr_rne, zwr_req, upd_ne, upd_eq, ne_eq, Nat.reduceEqDiff, not_false_eq_true]; omega)) (fun g4 g4' => ?_) (fun g4 => ?_)
             · try simp only [zwr_rne, zwr_req, upd_ne, upd_eq, ne_eq, Nat.reduceEqDiff, not_false_eq_true] at g4
               try simp only [zwr_rne, zwr_req, upd_ne, upd_eq, ne_eq, Nat.reduceEqDiff, not_false_eq_true] at g4'
               try omega
               all_goals
                try simp only [one_ne, zero_eq, if_false, if_true, or_true, true_or, or_false, false_or]
                try simp only [zwr_rne, zwr_req, upd_ne, upd_eq, ne_eq, Nat.reduceEqDiff, not_false_eq_true]
                refine m_isIn (fun g5 g5' => ?_) (fun g5 => ?_)
                · try simp only [zwr_rne, zwr_req, upd_ne, upd_eq, ne_eq, Nat.reduceEqDiff, not_false_eq_true] at g5
                  try simp only [zwr_rne, zwr_req, upd_ne, upd_eq, ne_eq, Nat.reduceEqDiff, not_false_eq_true] at g5'
                  try omega
                  all_goals
                   try simp only [one_ne, zero_eq, if_false, if_true, or_true, true_or, or_false, false_or]
                   try simp only [zwr_rne, zwr_req, upd_ne, upd_eq, ne_eq, Nat.reduceEqDiff, not_false_eq_true]
                   refine zeq (fun g6 => ?_) (fun g6 => ?_)
                   · try simp only [zwr_rne, zwr_req, upd_ne, upd_eq, ne_eq, Nat.reduceEqDiff, not_false_eq_true] at g6
                     try omega
                     all_goals
                      try simp only [zwr_rne, zwr_req, upd_ne, upd_eq, ne_eq, Nat.reduceEqDiff, not_false_eq_true]
                      exact ⟨by first | rfl | trivial, hh⟩
                   · exfalso; (try simp only [zwr_rne, zwr_req, upd_ne, upd_eq, ne_eq, Nat.reduceEqDiff, not_false_eq_true] at g6); omega
                · exfalso; (try simp only [zwr_rne, zwr_req, upd_ne, upd_eq, ne_eq, Nat.reduceEqDiff, not_false_eq_true] at g5); omega
             · exfalso; (try simp only [zwr_rne, zwr_req, upd_ne, upd_eq, ne_eq, Nat.reduceEqDiff, not_false_eq_true] at g4); omega
          · try simp only [zwr_rne, zwr_req, upd_ne, upd_eq, ne_eq, Nat.reduceEqDiff, not_false_eq_true] at g3
            try omega
            all_goals
             refine zeq (fun g7 => ?_) (fun g7 => ?_)
             · try simp only [zwr_rne, zwr_req, upd_ne, upd_eq, ne_eq, Nat.reduceEqDiff, not_false_eq_true] at g7
               try omega
               all_goals
                exfalso; omega
                try simp only [zwr_rne, zwr_req, upd_ne, upd_eq, ne_eq, Nat.reduceEqDiff, not_false_eq_true]
                refine en_X12_isOf ?_
                try simp only [zwr_rne, zwr_req, upd_ne, upd_eq, ne_eq, Nat.reduceEqDiff, not_false_eq_true]
                refine m_isClaim (by first | omega | (simp only [zwr_rne, zwr_req, upd_ne, upd_eq, ne_eq, Nat.reduceEqDiff, not_false_eq_true]; omega)) (fun g8 g8' => ?_) (fun g8 => ?_)
                · try simp only [zwr_rne, zwr_req, upd_ne, upd_eq, ne_eq, Nat.reduceEqDiff, not_false_eq_true] at g8
                  try simp only [zwr_rne, zwr_req, upd_ne, upd_eq, ne_eq, Nat.reduceEqDiff, not_false_eq_true] at g8'
                  try omega
                  all_goals
                   try simp only [one_ne, zero_eq, if_false, if_true, or_true, true_or, or_false, false_or]
                   try simp only [zwr_rne, zwr_req, upd_ne, upd_eq, ne_eq, Nat.reduceEqDiff, not_false_eq_true]
                   refine m_isIn (fun g9 g9' => ?_) (fun g9 => ?_)
                   · try simp only [zwr_rne, zwr_req, upd_ne, upd_eq, ne_eq, Nat.reduceEqDiff, not_false_eq_true] at g9
                     try simp only [zwr_rne, zwr_req, upd_ne, upd_eq, ne_eq, Nat.reduceEqDiff, not_false_eq_true] at g9'
                     try omega
                     all_goals
                      try simp only [one_ne, zero_eq, if_false, if_true, or_true, true_or, or_false, false_or]
                      try simp only [zwr_rne, zwr_req, upd_ne, upd_eq, ne_eq, Nat.reduceEqDiff, not_false_eq_true]
                      refine zeq (fun g10 => ?_) (fun g10 => ?_)
                      · exfalso; (try simp only [zwr_rne, zwr_req, upd_ne, upd_eq, ne_eq, Nat.reduceEqDiff, not_false_eq_true] at g10); omega
                      · try simp only [zwr_rne, zwr_req, upd_ne, upd_eq, ne_eq, Nat.reduceEqDiff, not_false_eq_true] at g10
                        try omega
                        all_goals
                         try simp only [zwr_rne, zwr_req, upd_ne, upd_eq, ne_eq, Nat.reduceEqDiff, not_false_eq_true]
                         refine ⟨by first | assumption | exact vin (by omega) | exact vp_in_I.mpr (by omega), ?_⟩
                         refine zeq (fun g11 => ?_) (fun g11 => ?_)
                         · try simp only [zwr_rne, zwr_req, upd_ne, upd_eq, ne_eq, Nat.reduceEqDiff, not_false_eq_true] at g11
                           try omega
                           all_goals
                            try simp only [zwr_rne, zwr_req, upd_ne, upd_eq, ne_eq, Nat.reduceEqDiff, not_false_eq_true]
                            exact ⟨by first | rfl | trivial, hh⟩
                         · exfalso; (try simp only [zwr_rne, zwr_req, upd_ne, upd_eq, ne_eq, Nat.reduceEqDiff, not_false_eq_true] at g11); omega
                   · exfalso; (try simp only [zwr_rne, zwr_req, upd_ne, upd_eq, ne_eq, Nat.reduceEqDiff, not_false_eq_true] at g9); omega
                · exfalso; (try simp only [zwr_rne, zwr_req, upd_ne, upd_eq, ne_eq, Nat.reduceEqDiff, not_false_eq_true] at g8); omega
             · try simp only [zwr_rne, zwr_req, upd_ne, upd_eq, ne_eq, Nat.reduceEqDiff, not_false_eq_true] at g7
               try omega
               all_goals
                refine zeq (fun g12 => ?_) (fun g12 => ?_)
                · try simp only [zwr_rne, zwr_req, upd_ne, upd_eq, ne_eq, Nat.reduceEqDiff, not_false_eq_true] at g12
                  try omega
                  all_goals
                   refine zeq (fun g13 => ?_) (fun g13 => ?_)
                   · try simp only [zwr_rne, zwr_req, upd_ne, upd_eq, ne_eq, Nat.reduceEqDiff, not_false_eq_true] at g13
                     try omega
                     all_goals
                      exfalso; omega
                      try simp only [zwr_rne, zwr_req, upd_ne, upd_eq, ne_eq, Nat.reduceEqDiff, not_false_eq_true]
                      refine en_X12_isOf ?_
                      try simp only [zwr_rne, zwr_req, upd_ne, upd_eq, ne_eq, Nat.reduceEqDiff, not_false_eq_true]
                      refine m_isClaim (by first | omega | (simp only [zwr_rne, zwr_req, upd_ne, upd_eq, ne_eq, Nat.reduceEqDiff, not_false_eq_true]; omega)) (fun g14 g14' => ?_) (fun g14 => ?_)
                      · try simp only [zwr_rne, zwr_req, upd_ne, upd_eq, ne_eq, Nat.reduceEqDiff, not_false_eq_true] at g14
                        try simp only [zwr_rne, zwr_req, upd_ne, upd_eq, ne_eq, Nat.reduceEqDiff, not_false_eq_true] at g14'
                        try omega
                        all_goals
                         try simp only [one_ne, zero_eq, if_false, if_true, or_true, true_or, or_false, false_or]
                         try simp only [zwr_rne, zwr_req, upd_ne, upd_eq, ne_eq, Nat.reduceEqDiff, not_false_eq_true]
                         refine m_isIn (fun g15 g15' => ?_) (fun g15 => ?_)
                         · try simp only [zwr_rne, zwr_req, upd_ne, upd_eq, ne_eq, Nat.reduceEqDiff, not_false_eq_true] at g15
                           try simp only [zwr_rne, zwr_req, upd_ne, upd_eq, ne_eq, Nat.reduceEqDiff, not_false_eq_true] at g15'
                           try omega
                           all_goals
                            try simp only [one_ne, zero_eq, if_false, if_true, or_true, true_or, or_false, false_or]
                            try simp only [zwr_rne, zwr_req, upd_ne, upd_eq, ne_eq, Nat.reduceEqDiff, not_false_eq_true]
                            refine zeq (fun g16 => ?_) (fun g16 => ?_)
                            · exfalso; (try simp only [zwr_rne, zwr_req, upd_ne, upd_eq, ne_eq, Nat.reduceEqDiff, not_false_eq_true] at g16); omega
                            · try simp only [zwr_rne, zwr_req, upd_ne, upd_eq, ne_eq, Nat.reduceEqDiff, not_false_eq_true] at g16
                              try omega
                              all_goals
                               try simp only [zwr_rne, zwr_req, upd_ne, upd_eq, ne_eq, Nat.reduceEqDiff, not_false_eq_true]
                               refine ⟨by first | assumption | exact vin (by omega) | exact vp_in_I.mpr (by omega), ?_⟩
                               refine zeq (fun g17 => ?_) (fun g17 => ?_)
                               · exfalso; (try simp only [zwr_rne, zwr_req, upd_ne, upd_eq, ne_eq, Nat.reduceEqDiff, not_false_eq_true] at g17); omega
                               · try simp only [zwr_rne, zwr_req, upd_ne, upd_eq, ne_eq, Nat.reduceEqDiff, not_false_eq_true] at g17
                                 try omega
                                 all_goals
                                  try simp only [zwr_rne, zwr_req, upd_ne, upd_eq, ne_eq, Nat.reduceEqDiff, not_false_eq_true]
                                  refine zeq (fun g18 => ?_) (fun g18 => ?_)
                                  · try simp only [zwr_rne, zwr_req, upd_ne, upd_eq, ne_eq, Nat.reduceEqDiff, not_false_eq_true] at g18
                                    try omega
                                    all_goals
                                     try simp only [zwr_rne, zwr_req, upd_ne, upd_eq, ne_eq, Nat.reduceEqDiff, not_false_eq_true]
                                     refine ⟨by first | assumption | exact vin (by omega) | exact vp_in_I.mpr (by omega), ?_⟩
                                     refine zeq (fun g19 => ?_) (fun g19 => ?_)
                                     · try simp only [zwr_rne, zwr_req, upd_ne, upd_eq, ne_eq, Nat.reduceEqDiff, not_false_eq_true] at g19
                                       try omega
                                       all_goals
                                        try simp only [zwr_rne, zwr_req, upd_ne, upd_eq, ne_eq, Nat.reduceEqDiff, not_false_eq_true]
                                        exact ⟨by first | rfl | trivial, hh⟩
                                     · exfalso; (try simp only [zwr_rne, zwr_req, upd_ne, upd_eq, ne_eq, Nat.reduceEqDiff, not_false_eq_true] at g19); omega
                                  · exfalso; (try simp only [zwr_rne, zwr_req, upd_ne, upd_eq, ne_eq, Nat.reduceEqDiff, not_false_eq_true] at g18); omega
                         · exfalso; (try simp only [zwr_rne, zwr_req, upd_ne, upd_eq, ne_eq, Nat.reduceEqDiff, not_false_eq_true] at g15); omega
                      · exfalso; (try simp only [zwr_rne, zwr_req, upd_ne, upd_eq, ne_eq, Nat.reduceEqDiff, not_false_eq_true] at g14); omega
                   · try simp only [zwr_rne, zwr_req, upd_ne, upd_eq, ne_eq, Nat.reduceEqDiff, not_false_eq_true] at g13
                     try omega
                     all_goals
                      exfalso; omega
                      try simp only [zwr_rne, zwr_req, upd_ne, upd_eq, ne_eq, Nat.reduceEqDiff, not_false_eq_true]
                      refine en_X12_isOf ?_
                      try simp only [zwr_rne, zwr_req, upd_ne, upd_eq, ne_eq, Nat.reduceEqDiff, not_false_eq_true]
                      refine m_isClaim (by first | omega | (simp only [zwr_rne, zwr_req, upd_ne, upd_eq, ne_eq, Nat.reduceEqDiff, not_false_eq_true]; omega)) (fun g20 g20' => ?_) (fun g20 => ?_)
                      · try simp only [zwr_rne, zwr_req, upd_ne, upd_eq, ne_eq, Nat.reduceEqDiff, not_false_eq_true] at g20
                        try simp only [zwr_rne, zwr_req, upd_ne, upd_eq, ne_eq, Nat.reduceEqDiff, not_false_eq_true] at g20'
                        try omega
                        all_goals
                         try simp only [one_ne, zero_eq, if_false, if_true, or_true, true_or, or_false, false_or]
                         try simp only [zwr_rne, zwr_req, upd_ne, upd_eq, ne_eq, Nat.reduceEqDiff, not_false_eq_true]
                         refine m_isIn (fun g21 g21' => ?_) (fun g21 => ?_)
                         · try simp only [zwr_rne, zwr_req, upd_ne, upd_eq, ne_eq, Nat.reduceEqDiff, not_false_eq_true] at g21
                           try simp only [zwr_rne, zwr_req, upd_ne, upd_eq, ne_eq, Nat.reduceEqDiff, not_false_eq_true] at g21'
                           try omega
                           all_goals
                            try simp only [one_ne, zero_eq, if_false, if_true, or_true, true_or, or_false, false_or]
                            try simp only [zwr_rne, zwr_req, upd_ne, upd_eq, ne_eq, Nat.reduceEqDiff, not_false_eq_true]
                            refine zeq (fun g22 => ?_) (fun g22 => ?_)
                            · exfalso; (try simp only [zwr_rne, zwr_req, upd_ne, upd_eq, ne_eq, Nat.reduceEqDiff, not_false_eq_true] at g22); omega
                            · try simp only [zwr_rne, zwr_req, upd_ne, upd_eq, ne_eq, Nat.reduceEqDiff, not_false_eq_true] at g22
                              try omega
                              all_goals
                               try simp only [zwr_rne, zwr_req, upd_ne, upd_eq, ne_eq, Nat.reduceEqDiff, not_false_eq_true]
                               refine ⟨by first | assumption | exact vin (by omega) | exact vp_in_I.mpr (by omega), ?_⟩
                               refine zeq (fun g23 => ?_) (fun g23 => ?_)
                               · exfalso; (try simp only [zwr_rne, zwr_req, upd_ne, upd_eq, ne_eq, Nat.reduceEqDiff, not_false_eq_true] at g23); omega
                               · try simp only [zwr_rne, zwr_req, upd_ne, upd_eq, ne_eq, Nat.reduceEqDiff, not_false_eq_true] at g23
                                 try omega
                                 all_goals
                                  try simp only [zwr_rne, zwr_req, upd_ne, upd_eq, ne_eq, Nat.reduceEqDiff, not_false_eq_true]
                                  refine zeq (fun g24 => ?_) (fun g24 => ?_)
                                  · try simp only [zwr_rne, zwr_req, upd_ne, upd_eq, ne_eq, Nat.reduceEqDiff, not_false_eq_true] at g24
                                    try omega
                                    all_goals
                                     try simp only [zwr_rne, zwr_req, upd_ne, upd_eq, ne_eq, Nat.reduceEqDiff, not_false_eq_true]
                                     refine ⟨by first | assumption | exact vin (by omega) | exact vp_in_I.mpr (by omega), ?_⟩
                                     refine zeq (fun g25 => ?_) (fun g25 => ?_)
                                     · exfalso; (try simp only [zwr_rne, zwr_req, upd_ne, upd_eq, ne_eq, Nat.reduceEqDiff, not_false_eq_true] at g25); omega
                                     · try simp only [zwr_rne, zwr_req, upd_ne, upd_eq, ne_eq, Nat.reduceEqDiff, not_false_eq_true] at g25
                                       try omega
                                       all_goals
                                        try simp only [zwr_rne, zwr_req, upd_ne, upd_eq, ne_eq, Nat.reduceEqDiff, not_false_eq_true]
                                        exact ⟨by first | rfl | trivial, hh⟩
                                  · exfalso; (try simp only [zwr_rne, zwr_req, upd_ne, upd_eq, ne_eq, Nat.reduceEqDiff, not_false_eq_true] at g24); omega
                         · exfalso; (try simp only [zwr_rne, zwr_req, upd_ne, upd_eq, ne_eq, Nat.reduceEqDiff, not_false_eq_true] at g21); omega
                      · exfalso; (try simp only [zwr_rne, zwr_req, upd_ne, upd_eq, ne_eq, Nat.reduceEqDiff, not_false_eq_true] at g20); omega
                · try simp only [zwr_rne, zwr_req, upd_ne, upd_eq, ne_eq, Nat.reduceEqDiff, not_false_eq_true] at g12
                  try omega
                  all_goals
                   exfalso; omega
                   try simp only [zwr_rne, zwr_req, upd_ne, upd_eq, ne_eq, Nat.reduceEqDiff, not_false_eq_true]
                   refine en_X12_isOf ?_
                   try simp only [zwr_rne, zwr_req, upd_ne, upd_eq, ne_eq, Nat.reduceEqDiff, not_false_eq_true]
                   refine m_isClaim (by first | omega | (simp only [zwr_rne, zwr_req, upd_ne, upd_eq, ne_eq, Nat.reduceEqDiff, not_false_eq_true]; omega)) (fun g26 g26' => ?_) (fun g26 => ?_)
                   · try simp only [zwr_rne, zwr_req, upd_ne, upd_eq, ne_eq, Nat.reduceEqDiff, not_false_eq_true] at g26
                     try simp only [zwr_rne, zwr_req, upd_ne, upd_eq, ne_eq, Nat.reduceEqDiff, not_false_eq_true] at g26'
                     try omega
                     all_goals
                      try simp only [one_ne, zero_eq, if_false, if_true, or_true, true_or, or_false, false_or]
                      try simp only [zwr_rne, zwr_req, upd_ne, upd_eq, ne_eq, Nat.reduceEqDiff, not_false_eq_true]
                      refine m_isIn (fun g27 g27' => ?_) (fun g27 => ?_)
                      · try simp only [zwr_rne, zwr_req, upd_ne, upd_eq, ne_eq, Nat.reduceEqDiff, not_false_eq_true] at g27
                        try simp only [zwr_rne, zwr_req, upd_ne, upd_eq, ne_eq, Nat.reduceEqDiff, not_false_eq_true] at g27'
                        try omega
                        all_goals
                         try simp only [one_ne, zero_eq, if_false, if_true, or_true, true_or, or_false, false_or]
                         try simp only [zwr_rne, zwr_req, upd_ne, upd_eq, ne_eq, Nat.reduceEqDiff, not_false_eq_true]
                         refine zeq (fun g28 => ?_) (fun g28 => ?_)
                         · exfalso; (try simp only [zwr_rne, zwr_req, upd_ne, upd_eq, ne_eq, Nat.reduceEqDiff, not_false_eq_true] at g28); omega
                         · try simp only [zwr_rne, zwr_req, upd_ne, upd_eq, ne_eq, Nat.reduceEqDiff, not_false_eq_true] at g28
                           try omega
                           all_goals
                            try simp only [zwr_rne, zwr_req, upd_ne, upd_eq, ne_eq, Nat.reduceEqDiff, not_false_eq_true]
                            refine ⟨by first | assumption | exact vin (by omega) | exact vp_in_I.mpr (by omega), ?_⟩
                            refine zeq (fun g29 => ?_) (fun g29 => ?_)
                            · exfalso; (try simp only [zwr_rne, zwr_req, upd_ne, upd_eq, ne_eq, Nat.reduceEqDiff, not_false_eq_true] at g29); omega
                            · try simp only [zwr_rne, zwr_req, upd_ne, upd_eq, ne_eq, Nat.reduceEqDiff, not_false_eq_true] at g29
                              try omega
                              all_goals
                               try simp only [zwr_rne, zwr_req, upd_ne, upd_eq, ne_eq, Nat.reduceEqDiff, not_false_eq_true]
                               refine zeq (fun g30 => ?_) (fun g30 => ?_)
                               · exfalso; (try simp only [zwr_rne, zwr_req, upd_ne, upd_eq, ne_eq, Nat.reduceEqDiff, not_false_eq_true] at g30); omega
                               · try simp only [zwr_rne, zwr_req, upd_ne, upd_eq, ne_eq, Nat.reduceEqDiff, not_false_eq_true] at g30
                                 try omega
                                 all_goals
                                  try simp only [zwr_rne, zwr_req, upd_ne, upd_eq, ne_eq, Nat.reduceEqDiff, not_false_eq_true]
                                  exact ⟨by first | rfl | trivial, hh⟩
                      · exfalso; (try simp only [zwr_rne, zwr_req, upd_ne, upd_eq, ne_eq, Nat.reduceEqDiff, not_false_eq_true] at g27); omega
                   · exfalso; (try simp only [zwr_rne, zwr_req, upd_ne, upd_eq, ne_eq, Nat.reduceEqDiff, not_false_eq_true] at g26); omega
       · try simp only [zwr_rne, zwr_req, upd_ne, upd_eq, ne_eq, Nat.reduceEqDiff, not_false_eq_true] at g2
         try omega
         all_goals
          try simp only [one_ne, zero_eq, if_false, if_true, or_true, true_or, or_false, false_or]
          refine en_X12_isOf ?_
          try simp only [zwr_rne, zwr_req, upd_ne, upd_eq, ne_eq, Nat.reduceEqDiff, not_false_eq_true]
          refine m_isClaim (by first | omega | (simp only [zwr_rne, zwr_req, upd_ne, upd_eq, ne_eq, Nat.reduceEqDiff, not_false_eq_true]; omega)) (fun g31 g31' => ?_) (fun g31 => ?_)
          · try simp only [zwr_rne, zwr_req, upd_ne, upd_eq, ne_eq, Nat.reduceEqDiff, not_false_eq_true] at g31
            try simp only [zwr_rne, zwr_req, upd_ne, upd_eq, ne_eq, Nat.reduceEqDiff, not_false_eq_true] at g31'
            try omega
            all_goals
             try simp only [one_ne, zero_eq, if_false, if_true, or_true, true_or, or_false, false_or]
             try simp only [zwr_rne, zwr_req, upd_ne, upd_eq, ne_eq, Nat.reduceEqDiff, not_false_eq_true]
             refine m_isIn (fun g32 g32' => ?_) (fun g32 => ?_)
             · exfalso; (try simp only [zwr_rne, zwr_req, upd_ne, upd_eq, ne_eq, Nat.reduceEqDiff, not_false_eq_true] at g32); (try simp only [zwr_rne, zwr_req, upd_ne, upd_eq, ne_eq, Nat.reduceEqDiff, not_false_eq_true] at g32'); omega
             · try simp only [zwr_rne, zwr_req, upd_ne, upd_eq, ne_eq, Nat.reduceEqDiff, not_false_eq_true] at g32
               try omega
               all_goals
                try simp only [one_ne, zero_eq, if_false, if_true, or_true, true_or, or_false, false_or]
                try simp only [zwr_rne, zwr_req, upd_ne, upd_eq, ne_eq, Nat.reduceEqDiff, not_false_eq_true]
                exact ⟨by first | rfl | trivial, hh⟩
          · exfalso; (try simp only [zwr_rne, zwr_req, upd_ne, upd_eq, ne_eq, Nat.reduceEqDiff, not_false_eq_true] at g31); omega
    · try simp only [zwr_rne, zwr_req, upd_ne, upd_eq, ne_eq, Nat.reduceEqDiff, not_false_eq_true] at g1
      try omega
      all_goals
       try simp only [one_ne, zero_eq, if_false, if_true, or_true, true_or, or_false, false_or]
       refine en_X12_isOf ?_
       try simp only [zwr_rne, zwr_req, upd_ne, upd_eq, ne_eq, Nat.reduceEqDiff, not_false_eq_true]
       refine m_isClaim (by first | omega | (simp only [zwr_rne, zwr_req, upd_ne, upd_eq, ne_eq, Nat.reduceEqDiff, not_false_eq_true]; omega)) (fun g33 g33' => ?_) (fun g33 => ?_)
       · exfalso; (try simp only [zwr_rne, zwr_req, upd_ne, upd_eq, ne_eq, Nat.reduceEqDiff, not_false_eq_true] at g33); (try simp only [zwr_rne, zwr_req, upd_ne, upd_eq, ne_eq, Nat.reduceEqDiff, not_false_eq_true] at g33'); omega
       · try simp only [zwr_rne, zwr_req, upd_ne, upd_eq, ne_eq, Nat.reduceEqDiff, not_false_eq_true] at g33
         try omega
         all_goals
          try simp only [one_ne, zero_eq, if_false, if_true, or_true, true_or, or_false, false_or]
          try simp only [zwr_rne, zwr_req, upd_ne, upd_eq, ne_eq, Nat.reduceEqDiff, not_false_eq_true]
          exact ⟨by first | rfl | trivial, hh⟩
  · have tc := tin hc2
    have cc : (nI c).toNatClampNeg = c := cln hc2
    have vc : vp_in (nI c) 24 := vin (by omega)
    obtain ⟨a1, a2, a3, a4⟩ := kda.1 c hc
    obtain ⟨h1, h2, h3, h4⟩ := kdh.1 c hc
    obtain ⟨q1, q2, q3, q4, q5, q6, q7, q8, q9, q10, q11, q12⟩ := kcl.1 c hc
    obtain ⟨p1, p2, p3, p4, p5, p6⟩ := kpl.1 c hc
    have fq1 : (σ 2 c).toInt = (σ 78 c).toInt := by rw [q1]
    have fq2 : (σ 3 c).toInt = (σ 79 c).toInt := by rw [q2]
    refine en_X11_isOf ?_
    try simp only [zwr_rne, zwr_req, upd_ne, upd_eq, ne_eq, Nat.reduceEqDiff, not_false_eq_true, cc]
    refine c_hasC (fun g1 g1' => ?_) (fun g1 => ?_)
    · try simp only [zwr_rne, zwr_req, upd_ne, upd_eq, ne_eq, Nat.reduceEqDiff, not_false_eq_true, cc] at g1
      try simp only [zwr_rne, zwr_req, upd_ne, upd_eq, ne_eq, Nat.reduceEqDiff, not_false_eq_true, cc] at g1'
      try omega
      all_goals
       try simp only [one_ne, zero_eq, if_false, if_true, or_true, true_or, or_false, false_or]
       refine c_isWithin (fun g2 g2' => ?_) (fun g2 => ?_)
       · try simp only [zwr_rne, zwr_req, upd_ne, upd_eq, ne_eq, Nat.reduceEqDiff, not_false_eq_true, cc] at g2
         try simp only [zwr_rne, zwr_req, upd_ne, upd_eq, ne_eq, Nat.reduceEqDiff, not_false_eq_true, cc] at g2'
         try omega
         all_goals
          try simp only [one_ne, zero_eq, if_false, if_true, or_true, true_or, or_false, false_or]
          refine ⟨by first | assumption | exact vin (by omega) | exact vp_in_I.mpr (by omega), ?_⟩
          refine zeq (fun g3 => ?_) (fun g3 => ?_)
          · try simp only [zwr_rne, zwr_req, upd_ne, upd_eq, ne_eq, Nat.reduceEqDiff, not_false_eq_true, cc] at g3
            try omega
            all_goals
             refine c_truth1 ?_
             try simp only [one_ne, zero_eq, if_false, if_true]
             try simp only [zwr_rne, zwr_req, upd_ne, upd_eq, ne_eq, Nat.reduceEqDiff, not_false_eq_true, cc]
             refine en_X12_isOf ?_
             try simp only [zwr_rne, zwr_req, upd_ne, upd_eq, ne_eq, Nat.reduceEqDiff, not_false_eq_true, cc]
             refine m_isClaim (by first | omega | (simp only [zwr_rne, zwr_req, upd_ne, upd_eq, ne_eq, Nat.reduceEqDiff, not_false_eq_true, cc]; omega)) (fun g4 g4' => ?_) (fun g4 => ?_)
             · try simp only [zwr_rne, zwr_req, upd_ne, upd_eq, ne_eq, Nat.reduceEqDiff, not_false_eq_true, cc] at g4
               try simp only [zwr_rne, zwr_req, upd_ne, upd_eq, ne_eq, Nat.reduceEqDiff, not_false_eq_true, cc] at g4'
               try omega
               all_goals
                try simp only [one_ne, zero_eq, if_false, if_true, or_true, true_or, or_false, false_or]
                try simp only [zwr_rne, zwr_req, upd_ne, upd_eq, ne_eq, Nat.reduceEqDiff, not_false_eq_true, cc]
                refine m_isIn (fun g5 g5' => ?_) (fun g5 => ?_)
                · try simp only [zwr_rne, zwr_req, upd_ne, upd_eq, ne_eq, Nat.reduceEqDiff, not_false_eq_true, cc] at g5
                  try simp only [zwr_rne, zwr_req, upd_ne, upd_eq, ne_eq, Nat.reduceEqDiff, not_false_eq_true, cc] at g5'
                  try omega
                  all_goals
                   try simp only [one_ne, zero_eq, if_false, if_true, or_true, true_or, or_false, false_or]
                   try simp only [zwr_rne, zwr_req, upd_ne, upd_eq, ne_eq, Nat.reduceEqDiff, not_false_eq_true, cc]
                   refine zeq (fun g6 => ?_) (fun g6 => ?_)
                   · try simp only [zwr_rne, zwr_req, upd_ne, upd_eq, ne_eq, Nat.reduceEqDiff, not_false_eq_true, cc] at g6
                     try omega
                     all_goals
                      try simp only [zwr_rne, zwr_req, upd_ne, upd_eq, ne_eq, Nat.reduceEqDiff, not_false_eq_true, cc]
                      exact ⟨by first | rfl | trivial, hh⟩
                   · exfalso; (try simp only [zwr_rne, zwr_req, upd_ne, upd_eq, ne_eq, Nat.reduceEqDiff, not_false_eq_true, cc] at g6); omega
                · exfalso; (try simp only [zwr_rne, zwr_req, upd_ne, upd_eq, ne_eq, Nat.reduceEqDiff, not_false_eq_true, cc] at g5); omega
             · exfalso; (try simp only [zwr_rne, zwr_req, upd_ne, upd_eq, ne_eq, Nat.reduceEqDiff, not_false_eq_true, cc] at g4); omega
          · try simp only [zwr_rne, zwr_req, upd_ne, upd_eq, ne_eq, Nat.reduceEqDiff, not_false_eq_true, cc] at g3
            try omega
            all_goals
             refine zeq (fun g7 => ?_) (fun g7 => ?_)
             · try simp only [zwr_rne, zwr_req, upd_ne, upd_eq, ne_eq, Nat.reduceEqDiff, not_false_eq_true, cc] at g7
               try omega
               all_goals
                refine c_truth1 ?_
                try simp only [one_ne, zero_eq, if_false, if_true]
                try simp only [zwr_rne, zwr_req, upd_ne, upd_eq, ne_eq, Nat.reduceEqDiff, not_false_eq_true, cc]
                refine en_X12_isOf ?_
                try simp only [zwr_rne, zwr_req, upd_ne, upd_eq, ne_eq, Nat.reduceEqDiff, not_false_eq_true, cc]
                refine m_isClaim (by first | omega | (simp only [zwr_rne, zwr_req, upd_ne, upd_eq, ne_eq, Nat.reduceEqDiff, not_false_eq_true, cc]; omega)) (fun g8 g8' => ?_) (fun g8 => ?_)
                · try simp only [zwr_rne, zwr_req, upd_ne, upd_eq, ne_eq, Nat.reduceEqDiff, not_false_eq_true, cc] at g8
                  try simp only [zwr_rne, zwr_req, upd_ne, upd_eq, ne_eq, Nat.reduceEqDiff, not_false_eq_true, cc] at g8'
                  try omega
                  all_goals
                   try simp only [one_ne, zero_eq, if_false, if_true, or_true, true_or, or_false, false_or]
                   try simp only [zwr_rne, zwr_req, upd_ne, upd_eq, ne_eq, Nat.reduceEqDiff, not_false_eq_true, cc]
                   refine m_isIn (fun g9 g9' => ?_) (fun g9 => ?_)
                   · try simp only [zwr_rne, zwr_req, upd_ne, upd_eq, ne_eq, Nat.reduceEqDiff, not_false_eq_true, cc] at g9
                     try simp only [zwr_rne, zwr_req, upd_ne, upd_eq, ne_eq, Nat.reduceEqDiff, not_false_eq_true, cc] at g9'
                     try omega
                     all_goals
                      try simp only [one_ne, zero_eq, if_false, if_true, or_true, true_or, or_false, false_or]
                      try simp only [zwr_rne, zwr_req, upd_ne, upd_eq, ne_eq, Nat.reduceEqDiff, not_false_eq_true, cc]
                      refine zeq (fun g10 => ?_) (fun g10 => ?_)
                      · exfalso; (try simp only [zwr_rne, zwr_req, upd_ne, upd_eq, ne_eq, Nat.reduceEqDiff, not_false_eq_true, cc] at g10); omega
                      · try simp only [zwr_rne, zwr_req, upd_ne, upd_eq, ne_eq, Nat.reduceEqDiff, not_false_eq_true, cc] at g10
                        try omega
                        all_goals
                         try simp only [zwr_rne, zwr_req, upd_ne, upd_eq, ne_eq, Nat.reduceEqDiff, not_false_eq_true, cc]
                         refine ⟨by first | assumption | exact vin (by omega) | exact vp_in_I.mpr (by omega), ?_⟩
                         refine zeq (fun g11 => ?_) (fun g11 => ?_)
                         · try simp only [zwr_rne, zwr_req, upd_ne, upd_eq, ne_eq, Nat.reduceEqDiff, not_false_eq_true, cc] at g11
                           try omega
                           all_goals
                            try simp only [zwr_rne, zwr_req, upd_ne, upd_eq, ne_eq, Nat.reduceEqDiff, not_false_eq_true, cc]
                            exact ⟨by first | rfl | trivial, hh⟩
                         · exfalso; (try simp only [zwr_rne, zwr_req, upd_ne, upd_eq, ne_eq, Nat.reduceEqDiff, not_false_eq_true, cc] at g11); omega
                   · exfalso; (try simp only [zwr_rne, zwr_req, upd_ne, upd_eq, ne_eq, Nat.reduceEqDiff, not_false_eq_true, cc] at g9); omega
                · exfalso; (try simp only [zwr_rne, zwr_req, upd_ne, upd_eq, ne_eq, Nat.reduceEqDiff, not_false_eq_true, cc] at g8); omega
             · try simp only [zwr_rne, zwr_req, upd_ne, upd_eq, ne_eq, Nat.reduceEqDiff, not_false_eq_true, cc] at g7
               try omega
               all_goals
                refine zeq (fun g12 => ?_) (fun g12 => ?_)
                · try simp only [zwr_rne, zwr_req, upd_ne, upd_eq, ne_eq, Nat.reduceEqDiff, not_false_eq_true, cc] at g12
                  try omega
                  all_goals
                   refine zeq (fun g13 => ?_) (fun g13 => ?_)
                   · try simp only [zwr_rne, zwr_req, upd_ne, upd_eq, ne_eq, Nat.reduceEqDiff, not_false_eq_true, cc] at g13
                     try omega
                     all_goals
                      refine c_truth1 ?_
                      try simp only [one_ne, zero_eq, if_false, if_true]
                      try simp only [zwr_rne, zwr_req, upd_ne, upd_eq, ne_eq, Nat.reduceEqDiff, not_false_eq_true, cc]
                      refine en_X12_isOf ?_
                      try simp only [zwr_rne, zwr_req, upd_ne, upd_eq, ne_eq, Nat.reduceEqDiff, not_false_eq_true, cc]
                      refine m_isClaim (by first | omega | (simp only [zwr_rne, zwr_req, upd_ne, upd_eq, ne_eq, Nat.reduceEqDiff, not_false_eq_true, cc]; omega)) (fun g14 g14' => ?_) (fun g14 => ?_)
                      · try simp only [zwr_rne, zwr_req, upd_ne, upd_eq, ne_eq, Nat.reduceEqDiff, not_false_eq_true, cc] at g14
                        try simp only [zwr_rne, zwr_req, upd_ne, upd_eq, ne_eq, Nat.reduceEqDiff, not_false_eq_true, cc] at g14'
                        try omega
                        all_goals
                         try simp only [one_ne, zero_eq, if_false, if_true, or_true, true_or, or_false, false_or]
                         try simp only [zwr_rne, zwr_req, upd_ne, upd_eq, ne_eq, Nat.reduceEqDiff, not_false_eq_true, cc]
                         refine m_isIn (fun g15 g15' => ?_) (fun g15 => ?_)
                         · try simp only [zwr_rne, zwr_req, upd_ne, upd_eq, ne_eq, Nat.reduceEqDiff, not_false_eq_true, cc] at g15
                           try simp only [zwr_rne, zwr_req, upd_ne, upd_eq, ne_eq, Nat.reduceEqDiff, not_false_eq_true, cc] at g15'
                           try omega
                           all_goals
                            try simp only [one_ne, zero_eq, if_false, if_true, or_true, true_or, or_false, false_or]
                            try simp only [zwr_rne, zwr_req, upd_ne, upd_eq, ne_eq, Nat.reduceEqDiff, not_false_eq_true, cc]
                            refine zeq (fun g16 => ?_) (fun g16 => ?_)
                            · exfalso; (try simp only [zwr_rne, zwr_req, upd_ne, upd_eq, ne_eq, Nat.reduceEqDiff, not_false_eq_true, cc] at g16); omega
                            · try simp only [zwr_rne, zwr_req, upd_ne, upd_eq, ne_eq, Nat.reduceEqDiff, not_false_eq_true, cc] at g16
                              try omega
                              all_goals
                               try simp only [zwr_rne, zwr_req, upd_ne, upd_eq, ne_eq, Nat.reduceEqDiff, not_false_eq_true, cc]
                               refine ⟨by first | assumption | exact vin (by omega) | exact vp_in_I.mpr (by omega), ?_⟩
                               refine zeq (fun g17 => ?_) (fun g17 => ?_)
                               · exfalso; (try simp only [zwr_rne, zwr_req, upd_ne, upd_eq, ne_eq, Nat.reduceEqDiff, not_false_eq_true, cc] at g17); omega
                               · try simp only [zwr_rne, zwr_req, upd_ne, upd_eq, ne_eq, Nat.reduceEqDiff, not_false_eq_true, cc] at g17
                                 try omega
                                 all_goals
                                  try simp only [zwr_rne, zwr_req, upd_ne, upd_eq, ne_eq, Nat.reduceEqDiff, not_false_eq_true, cc]
                                  refine zeq (fun g18 => ?_) (fun g18 => ?_)
                                  · try simp only [zwr_rne, zwr_req, upd_ne, upd_eq, ne_eq, Nat.reduceEqDiff, not_false_eq_true, cc] at g18
                                    try omega
                                    all_goals
                                     try simp only [zwr_rne, zwr_req, upd_ne, upd_eq, ne_eq, Nat.reduceEqDiff, not_false_eq_true, cc]
                                     refine ⟨by first | assumption | exact vin (by omega) | exact vp_in_I.mpr (by omega), ?_⟩
                                     refine zeq (fun g19 => ?_) (fun g19 => ?_)
                                     · try simp only [zwr_rne, zwr_req, upd_ne, upd_eq, ne_eq, Nat.reduceEqDiff, not_false_eq_true, cc] at g19
                                       try omega
                                       all_goals
                                        try simp only [zwr_rne, zwr_req, upd_ne, upd_eq, ne_eq, Nat.reduceEqDiff, not_false_eq_true, cc]
                                        exact ⟨by first | rfl | trivial, hh⟩
                                     · exfalso; (try simp only [zwr_rne, zwr_req, upd_ne, upd_eq, ne_eq, Nat.reduceEqDiff, not_false_eq_true, cc] at g19); omega
                                  · exfalso; (try simp only [zwr_rne, zwr_req, upd_ne, upd_eq, ne_eq, Nat.reduceEqDiff, not_false_eq_true, cc] at g18); omega
                         · exfalso; (try simp only [zwr_rne, zwr_req, upd_ne, upd_eq, ne_eq, Nat.reduceEqDiff, not_false_eq_true, cc] at g15); omega
                      · exfalso; (try simp only [zwr_rne, zwr_req, upd_ne, upd_eq, ne_eq, Nat.reduceEqDiff, not_false_eq_true, cc] at g14); omega
                   · try simp only [zwr_rne, zwr_req, upd_ne, upd_eq, ne_eq, Nat.reduceEqDiff, not_false_eq_true, cc] at g13
                     try omega
                     all_goals
                      refine c_truth0 ?_
                      try simp only [one_ne, zero_eq, if_false, if_true]
                      try simp only [zwr_rne, zwr_req, upd_ne, upd_eq, ne_eq, Nat.reduceEqDiff, not_false_eq_true, cc]
                      refine en_X12_isOf ?_
                      try simp only [zwr_rne, zwr_req, upd_ne, upd_eq, ne_eq, Nat.reduceEqDiff, not_false_eq_true, cc]
                      refine m_isClaim (by first | omega | (simp only [zwr_rne, zwr_req, upd_ne, upd_eq, ne_eq, Nat.reduceEqDiff, not_false_eq_true, cc]; omega)) (fun g20 g20' => ?_) (fun g20 => ?_)
                      · try simp only [zwr_rne, zwr_req, upd_ne, upd_eq, ne_eq, Nat.reduceEqDiff, not_false_eq_true, cc] at g20
                        try simp only [zwr_rne, zwr_req, upd_ne, upd_eq, ne_eq, Nat.reduceEqDiff, not_false_eq_true, cc] at g20'
                        try omega
                        all_goals
                         try simp only [one_ne, zero_eq, if_false, if_true, or_true, true_or, or_false, false_or]
                         try simp only [zwr_rne, zwr_req, upd_ne, upd_eq, ne_eq, Nat.reduceEqDiff, not_false_eq_true, cc]
                         refine m_isIn (fun g21 g21' => ?_) (fun g21 => ?_)
                         · try simp only [zwr_rne, zwr_req, upd_ne, upd_eq, ne_eq, Nat.reduceEqDiff, not_false_eq_true, cc] at g21
                           try simp only [zwr_rne, zwr_req, upd_ne, upd_eq, ne_eq, Nat.reduceEqDiff, not_false_eq_true, cc] at g21'
                           try omega
                           all_goals
                            try simp only [one_ne, zero_eq, if_false, if_true, or_true, true_or, or_false, false_or]
                            try simp only [zwr_rne, zwr_req, upd_ne, upd_eq, ne_eq, Nat.reduceEqDiff, not_false_eq_true, cc]
                            refine zeq (fun g22 => ?_) (fun g22 => ?_)
                            · exfalso; (try simp only [zwr_rne, zwr_req, upd_ne, upd_eq, ne_eq, Nat.reduceEqDiff, not_false_eq_true, cc] at g22); omega
                            · try simp only [zwr_rne, zwr_req, upd_ne, upd_eq, ne_eq, Nat.reduceEqDiff, not_false_eq_true, cc] at g22
                              try omega
                              all_goals
                               try simp only [zwr_rne, zwr_req, upd_ne, upd_eq, ne_eq, Nat.reduceEqDiff, not_false_eq_true, cc]
                               refine ⟨by first | assumption | exact vin (by omega) | exact vp_in_I.mpr (by omega), ?_⟩
                               refine zeq (fun g23 => ?_) (fun g23 => ?_)
                               · exfalso; (try simp only [zwr_rne, zwr_req, upd_ne, upd_eq, ne_eq, Nat.reduceEqDiff, not_false_eq_true, cc] at g23); omega
                               · try simp only [zwr_rne, zwr_req, upd_ne, upd_eq, ne_eq, Nat.reduceEqDiff, not_false_eq_true, cc] at g23
                                 try omega
                                 all_goals
                                  try simp only [zwr_rne, zwr_req, upd_ne, upd_eq, ne_eq, Nat.reduceEqDiff, not_false_eq_true, cc]
                                  refine zeq (fun g24 => ?_) (fun g24 => ?_)
                                  · try simp only [zwr_rne, zwr_req, upd_ne, upd_eq, ne_eq, Nat.reduceEqDiff, not_false_eq_true, cc] at g24
                                    try omega
                                    all_goals
                                     try simp only [zwr_rne, zwr_req, upd_ne, upd_eq, ne_eq, Nat.reduceEqDiff, not_false_eq_true, cc]
                                     refine ⟨by first | assumption | exact vin (by omega) | exact vp_in_I.mpr (by omega), ?_⟩
                                     refine zeq (fun g25 => ?_) (fun g25 => ?_)
                                     · exfalso; (try simp only [zwr_rne, zwr_req, upd_ne, upd_eq, ne_eq, Nat.reduceEqDiff, not_false_eq_true, cc] at g25); omega
                                     · try simp only [zwr_rne, zwr_req, upd_ne, upd_eq, ne_eq, Nat.reduceEqDiff, not_false_eq_true, cc] at g25
                                       try omega
                                       all_goals
                                        try simp only [zwr_rne, zwr_req, upd_ne, upd_eq, ne_eq, Nat.reduceEqDiff, not_false_eq_true, cc]
                                        exact ⟨by first | rfl | trivial, hh⟩
                                  · exfalso; (try simp only [zwr_rne, zwr_req, upd_ne, upd_eq, ne_eq, Nat.reduceEqDiff, not_false_eq_true, cc] at g24); omega
                         · exfalso; (try simp only [zwr_rne, zwr_req, upd_ne, upd_eq, ne_eq, Nat.reduceEqDiff, not_false_eq_true, cc] at g21); omega
                      · exfalso; (try simp only [zwr_rne, zwr_req, upd_ne, upd_eq, ne_eq, Nat.reduceEqDiff, not_false_eq_true, cc] at g20); omega
                · try simp only [zwr_rne, zwr_req, upd_ne, upd_eq, ne_eq, Nat.reduceEqDiff, not_false_eq_true, cc] at g12
                  try omega
                  all_goals
                   refine c_truth0 ?_
                   try simp only [one_ne, zero_eq, if_false, if_true]
                   try simp only [zwr_rne, zwr_req, upd_ne, upd_eq, ne_eq, Nat.reduceEqDiff, not_false_eq_true, cc]
                   refine en_X12_isOf ?_
                   try simp only [zwr_rne, zwr_req, upd_ne, upd_eq, ne_eq, Nat.reduceEqDiff, not_false_eq_true, cc]
                   refine m_isClaim (by first | omega | (simp only [zwr_rne, zwr_req, upd_ne, upd_eq, ne_eq, Nat.reduceEqDiff, not_false_eq_true, cc]; omega)) (fun g26 g26' => ?_) (fun g26 => ?_)
                   · try simp only [zwr_rne, zwr_req, upd_ne, upd_eq, ne_eq, Nat.reduceEqDiff, not_false_eq_true, cc] at g26
                     try simp only [zwr_rne, zwr_req, upd_ne, upd_eq, ne_eq, Nat.reduceEqDiff, not_false_eq_true, cc] at g26'
                     try omega
                     all_goals
                      try simp only [one_ne, zero_eq, if_false, if_true, or_true, true_or, or_false, false_or]
                      try simp only [zwr_rne, zwr_req, upd_ne, upd_eq, ne_eq, Nat.reduceEqDiff, not_false_eq_true, cc]
                      refine m_isIn (fun g27 g27' => ?_) (fun g27 => ?_)
                      · try simp only [zwr_rne, zwr_req, upd_ne, upd_eq, ne_eq, Nat.reduceEqDiff, not_false_eq_true, cc] at g27
                        try simp only [zwr_rne, zwr_req, upd_ne, upd_eq, ne_eq, Nat.reduceEqDiff, not_false_eq_true, cc] at g27'
                        try omega
                        all_goals
                         try simp only [one_ne, zero_eq, if_false, if_true, or_true, true_or, or_false, false_or]
                         try simp only [zwr_rne, zwr_req, upd_ne, upd_eq, ne_eq, Nat.reduceEqDiff, not_false_eq_true, cc]
                         refine zeq (fun g28 => ?_) (fun g28 => ?_)
                         · exfalso; (try simp only [zwr_rne, zwr_req, upd_ne, upd_eq, ne_eq, Nat.reduceEqDiff, not_false_eq_true, cc] at g28); omega
                         · try simp only [zwr_rne, zwr_req, upd_ne, upd_eq, ne_eq, Nat.reduceEqDiff, not_false_eq_true, cc] at g28
                           try omega
                           all_goals
                            try simp only [zwr_rne, zwr_req, upd_ne, upd_eq, ne_eq, Nat.reduceEqDiff, not_false_eq_true, cc]
                            refine ⟨by first | assumption | exact vin (by omega) | exact vp_in_I.mpr (by omega), ?_⟩
                            refine zeq (fun g29 => ?_) (fun g29 => ?_)
                            · exfalso; (try simp only [zwr_rne, zwr_req, upd_ne, upd_eq, ne_eq, Nat.reduceEqDiff, not_false_eq_true, cc] at g29); omega
                            · try simp only [zwr_rne, zwr_req, upd_ne, upd_eq, ne_eq, Nat.reduceEqDiff, not_false_eq_true, cc] at g29
                              try omega
                              all_goals
                               try simp only [zwr_rne, zwr_req, upd_ne, upd_eq, ne_eq, Nat.reduceEqDiff, not_false_eq_true, cc]
                               refine zeq (fun g30 => ?_) (fun g30 => ?_)
                               · exfalso; (try simp only [zwr_rne, zwr_req, upd_ne, upd_eq, ne_eq, Nat.reduceEqDiff, not_false_eq_true, cc] at g30); omega
                               · try simp only [zwr_rne, zwr_req, upd_ne, upd_eq, ne_eq, Nat.reduceEqDiff, not_false_eq_true, cc] at g30
                                 try omega
                                 all_goals
                                  try simp only [zwr_rne, zwr_req, upd_ne, upd_eq, ne_eq, Nat.reduceEqDiff, not_false_eq_true, cc]
                                  exact ⟨by first | rfl | trivial, hh⟩
                      · exfalso; (try simp only [zwr_rne, zwr_req, upd_ne, upd_eq, ne_eq, Nat.reduceEqDiff, not_false_eq_true, cc] at g27); omega
                   · exfalso; (try simp only [zwr_rne, zwr_req, upd_ne, upd_eq, ne_eq, Nat.reduceEqDiff, not_false_eq_true, cc] at g26); omega
       · try simp only [zwr_rne, zwr_req, upd_ne, upd_eq, ne_eq, Nat.reduceEqDiff, not_false_eq_true, cc] at g2
         try omega
         all_goals
          try simp only [one_ne, zero_eq, if_false, if_true, or_true, true_or, or_false, false_or]
          refine en_X12_isOf ?_
          try simp only [zwr_rne, zwr_req, upd_ne, upd_eq, ne_eq, Nat.reduceEqDiff, not_false_eq_true, cc]
          refine m_isClaim (by first | omega | (simp only [zwr_rne, zwr_req, upd_ne, upd_eq, ne_eq, Nat.reduceEqDiff, not_false_eq_true, cc]; omega)) (fun g31 g31' => ?_) (fun g31 => ?_)
          · try simp only [zwr_rne, zwr_req, upd_ne, upd_eq, ne_eq, Nat.reduceEqDiff, not_false_eq_true, cc] at g31
            try simp only [zwr_rne, zwr_req, upd_ne, upd_eq, ne_eq, Nat.reduceEqDiff, not_false_eq_true, cc] at g31'
            try omega
            all_goals
             try simp only [one_ne, zero_eq, if_false, if_true, or_true, true_or, or_false, false_or]
             try simp only [zwr_rne, zwr_req, upd_ne, upd_eq, ne_eq, Nat.reduceEqDiff, not_false_eq_true, cc]
             refine m_isIn (fun g32 g32' => ?_) (fun g32 => ?_)
             · exfalso; (try simp only [zwr_rne, zwr_req, upd_ne, upd_eq, ne_eq, Nat.reduceEqDiff, not_false_eq_true, cc] at g32); (try simp only [zwr_rne, zwr_req, upd_ne, upd_eq, ne_eq, Nat.reduceEqDiff, not_false_eq_true, cc] at g32'); omega
             · try simp only [zwr_rne, zwr_req, upd_ne, upd_eq, ne_eq, Nat.reduceEqDiff, not_false_eq_true, cc] at g32
               try omega
               all_goals
                try simp only [one_ne, zero_eq, if_false, if_true, or_true, true_or, or_false, false_or]
                try simp only [zwr_rne, zwr_req, upd_ne, upd_eq, ne_eq, Nat.reduceEqDiff, not_false_eq_true, cc]
                exact ⟨by first | rfl | trivial, hh⟩
          · exfalso; (try simp only [zwr_rne, zwr_req, upd_ne, upd_eq, ne_eq, Nat.reduceEqDiff, not_false_eq_true, cc] at g31); omega
    · try simp only [zwr_rne, zwr_req, upd_ne, upd_eq, ne_eq, Nat.reduceEqDiff, not_false_eq_true, cc] at g1
      try omega
      all_goals
       try simp only [one_ne, zero_eq, if_false, if_true, or_true, true_or, or_false, false_or]
       refine en_X12_isOf ?_
       try simp only [zwr_rne, zwr_req, upd_ne, upd_eq, ne_eq, Nat.reduceEqDiff, not_false_eq_true, cc]
       refine m_isClaim (by first | omega | (simp only [zwr_rne, zwr_req, upd_ne, upd_eq, ne_eq, Nat.reduceEqDiff, not_false_eq_true, cc]; omega)) (fun g33 g33' => ?_) (fun g33 => ?_)
       · exfalso; (try simp only [zwr_rne, zwr_req, upd_ne, upd_eq, ne_eq, Nat.reduceEqDiff, not_false_eq_true, cc] at g33); (try simp only [zwr_rne, zwr_req, upd_ne, upd_eq, ne_eq, Nat.reduceEqDiff, not_false_eq_true, cc] at g33'); omega
       · try simp only [zwr_rne, zwr_req, upd_ne, upd_eq, ne_eq, Nat.reduceEqDiff, not_false_eq_true, cc] at g33
         try omega
         all_goals
          try simp only [one_ne, zero_eq, if_false, if_true, or_true, true_or, or_false, false_or]
          try simp only [zwr_rne, zwr_req, upd_ne, upd_eq, ne_eq, Nat.reduceEqDiff, not_false_eq_true, cc]
          exact ⟨by first | rfl | trivial, hh⟩

theorem P_amend {G : zGT} {d : Nat} {v1 v2 : Int32} : Pair G (d + 6) Y_X11_amend Y_X12_amend [.inl v1, .inl v2] := by
  intro σ h
  have hh := h
  obtain ⟨⟨k1, k2, k3, k4, k5, k6, k7, k8, k9⟩, kas, kcl, kda, kdh, kpl, kkp, ksh, kwt, ktp, klw, ksd, kw0, kw1⟩ := h
  obtain ⟨e1, b1, u1⟩ := id k1
  obtain ⟨e2, b2, u2⟩ := id k2
  obtain ⟨e3, b3, u3⟩ := id k3
  obtain ⟨e4, b4, u4⟩ := id k4
  obtain ⟨e5, b5, u5⟩ := id k5
  obtain ⟨e6, b6, u6⟩ := id k6
  obtain ⟨e7, b7, u7⟩ := id k7
  obtain ⟨e8, b8, u8⟩ := id k8
  obtain ⟨e9, b9, u9⟩ := id k9
  have f1 : (σ 0 15).toInt = (σ 72 1).toInt := by rw [e1]
  have f2 : (σ 14 5).toInt = (σ 72 2).toInt := by rw [e2]
  have f3 : (σ 1 6).toInt = (σ 72 8).toInt := by rw [e3]
  have f4 : (σ 0 16).toInt = (σ 72 0).toInt := by rw [e4]
  have f5 : (σ 55 7).toInt = (σ 72 22).toInt := by rw [e5]
  have f6 : (σ 14 6).toInt = (σ 72 23).toInt := by rw [e6]
  have f7 : (σ 0 17).toInt = (σ 72 24).toInt := by rw [e7]
  have f8 : (σ 0 13).toInt = (σ 72 25).toInt := by rw [e8]
  have f9 : (σ 46 1).toInt = (σ 72 28).toInt := by rw [e9]
  have l0 := ti0
  have l1 := ti1
  have l2 := ti2
  have l3 := ti3
  have l4 := ti4
  have l5 := ti5
  have l6 := ti6
  have l8 := ti8
  have l9 := ti9
  have l10 := ti10
  have l16 := ti16
  have l20 := ti20
  have l24 := ti24
  have l31 := ti31
  have l60 := ti60
  have l96 := ti96
  have l100 := ti100
  have l200 := ti200
  have l400 := ti400
  have l600 := ti600
  have l1200 := ti1200
  have l100000 := ti100000
  have lm1 := tim1
  have lB := tiB
  have lN := tiN
  rcases idx_of v1 (σ 72 8) with hb | ⟨c, rfl, hc, hc2⟩
  · refine en_X11_amend ?_
    try simp only [zwr_rne, zwr_req, upd_ne, upd_eq, ne_eq, Nat.reduceEqDiff, not_false_eq_true]
    refine c_hasC (fun g1 g1' => ?_) (fun g1 => ?_)
    · try simp only [zwr_rne, zwr_req, upd_ne, upd_eq, ne_eq, Nat.reduceEqDiff, not_false_eq_true] at g1
      try simp only [zwr_rne, zwr_req, upd_ne, upd_eq, ne_eq, Nat.reduceEqDiff, not_false_eq_true] at g1'
      try omega
      all_goals
       try simp only [one_ne, zero_eq, if_false, if_true, or_true, true_or, or_false, false_or]
       refine c_isWithin (fun g2 g2' => ?_) (fun g2 => ?_)
       · try simp only [zwr_rne, zwr_req, upd_ne, upd_eq, ne_eq, Nat.reduceEqDiff, not_false_eq_true] at g2
         try simp only [zwr_rne, zwr_req, upd_ne, upd_eq, ne_eq, Nat.reduceEqDiff, not_false_eq_true] at g2'
         try omega
         all_goals
          try simp only [one_ne, zero_eq, if_false, if_true, or_true, true_or, or_false, false_or]
          exfalso; omega
          try simp only [zwr_rne, zwr_req, upd_ne, upd_eq, ne_eq, Nat.reduceEqDiff, not_false_eq_true]
          refine zeq (fun g3 => ?_) (fun g3 => ?_)
          · try simp only [zwr_rne, zwr_req, upd_ne, upd_eq, ne_eq, Nat.reduceEqDiff, not_false_eq_true] at g3
            try omega
            all_goals
             exfalso; omega
             try simp only [zwr_rne, zwr_req, upd_ne, upd_eq, ne_eq, Nat.reduceEqDiff, not_false_eq_true]
             exfalso; omega
             try simp only [zwr_rne, zwr_req, upd_ne, upd_eq, ne_eq, Nat.reduceEqDiff, not_false_eq_true]
             refine c_changed ?_
             try simp only [zwr_rne, zwr_req, upd_ne, upd_eq, ne_eq, Nat.reduceEqDiff, not_false_eq_true]
             refine en_X12_amend ?_
             try simp only [zwr_rne, zwr_req, upd_ne, upd_eq, ne_eq, Nat.reduceEqDiff, not_false_eq_true]
             refine m_isClaim (by first | omega | (simp only [zwr_rne, zwr_req, upd_ne, upd_eq, ne_eq, Nat.reduceEqDiff, not_false_eq_true]; omega)) (fun g4 g4' => ?_) (fun g4 => ?_)
             · try simp only [zwr_rne, zwr_req, upd_ne, upd_eq, ne_eq, Nat.reduceEqDiff, not_false_eq_true] at g4
               try simp only [zwr_rne, zwr_req, upd_ne, upd_eq, ne_eq, Nat.reduceEqDiff, not_false_eq_true] at g4'
               try omega
               all_goals
                try simp only [one_ne, zero_eq, if_false, if_true, or_true, true_or, or_false, false_or]
                try simp only [zwr_rne, zwr_req, upd_ne, upd_eq, ne_eq, Nat.reduceEqDiff, not_false_eq_true]
                refine m_isIn (fun g5 g5' => ?_) (fun g5 => ?_)
                · try simp only [zwr_rne, zwr_req, upd_ne, upd_eq, ne_eq, Nat.reduceEqDiff, not_false_eq_true] at g5
                  try simp only [zwr_rne, zwr_req, upd_ne, upd_eq, ne_eq, Nat.reduceEqDiff, not_false_eq_true] at g5'
                  try omega
                  all_goals
                   try simp only [one_ne, zero_eq, if_false, if_true, or_true, true_or, or_false, false_or]
                   try simp only [zwr_rne, zwr_req, upd_ne, upd_eq, ne_eq, Nat.reduceEqDiff, not_false_eq_true]
                   refine ⟨by first | assumption | exact vin (by omega) | exact vp_in_I.mpr (by omega), ?_⟩
                   refine zeq (fun g6 => ?_) (fun g6 => ?_)
                   · try simp only [zwr_rne, zwr_req, upd_ne, upd_eq, ne_eq, Nat.reduceEqDiff, not_false_eq_true] at g6
                     try omega
                     all_goals
                      try simp only [zwr_rne, zwr_req, upd_ne, upd_eq, ne_eq, Nat.reduceEqDiff, not_false_eq_true]
                      exact ⟨by first | rfl | trivial, hh⟩
                   · try simp only [zwr_rne, zwr_req, upd_ne, upd_eq, ne_eq, Nat.reduceEqDiff, not_false_eq_true] at g6
                     try omega
                     all_goals
                      try simp only [zwr_rne, zwr_req, upd_ne, upd_eq, ne_eq, Nat.reduceEqDiff, not_false_eq_true]
                      exfalso; omega
                      try simp only [zwr_rne, zwr_req, upd_ne, upd_eq, ne_eq, Nat.reduceEqDiff, not_false_eq_true]
                      refine ⟨by first | assumption | exact vin (by omega) | exact vp_in_I.mpr (by omega), ?_⟩
                      refine ⟨by first | assumption | exact vin (by omega) | exact vp_in_I.mpr (by omega), ?_⟩
                      rintro _ rfl
                      try simp only [zwr_rne, zwr_req, upd_ne, upd_eq, ne_eq, Nat.reduceEqDiff, not_false_eq_true]
                      refine ⟨by first | assumption | exact vin (by omega) | exact vp_in_I.mpr (by omega), ?_⟩
                      refine ⟨by first | assumption | exact vin (by omega) | exact vp_in_I.mpr (by omega), ?_⟩
                      rintro _ rfl
                      try simp only [zwr_rne, zwr_req, upd_ne, upd_eq, ne_eq, Nat.reduceEqDiff, not_false_eq_true]
                      refine ⟨by first | assumption | exact vin (by omega) | exact vp_in_I.mpr (by omega), ?_⟩
                      refine ⟨by first | assumption | exact vin (by omega) | exact vp_in_I.mpr (by omega), ?_⟩
                      rintro _ rfl
                      try simp only [zwr_rne, zwr_req, upd_ne, upd_eq, ne_eq, Nat.reduceEqDiff, not_false_eq_true]
                      exact ⟨by first | rfl | trivial, hh⟩
                · exfalso; (try simp only [zwr_rne, zwr_req, upd_ne, upd_eq, ne_eq, Nat.reduceEqDiff, not_false_eq_true] at g5); omega
             · exfalso; (try simp only [zwr_rne, zwr_req, upd_ne, upd_eq, ne_eq, Nat.reduceEqDiff, not_false_eq_true] at g4); omega
          · try simp only [zwr_rne, zwr_req, upd_ne, upd_eq, ne_eq, Nat.reduceEqDiff, not_false_eq_true] at g3
            try omega
            all_goals
             refine en_X12_amend ?_
             try simp only [zwr_rne, zwr_req, upd_ne, upd_eq, ne_eq, Nat.reduceEqDiff, not_false_eq_true]
             refine m_isClaim (by first | omega | (simp only [zwr_rne, zwr_req, upd_ne, upd_eq, ne_eq, Nat.reduceEqDiff, not_false_eq_true]; omega)) (fun g7 g7' => ?_) (fun g7 => ?_)
             · try simp only [zwr_rne, zwr_req, upd_ne, upd_eq, ne_eq, Nat.reduceEqDiff, not_false_eq_true] at g7
               try simp only [zwr_rne, zwr_req, upd_ne, upd_eq, ne_eq, Nat.reduceEqDiff, not_false_eq_true] at g7'
               try omega
               all_goals
                try simp only [one_ne, zero_eq, if_false, if_true, or_true, true_or, or_false, false_or]
                try simp only [zwr_rne, zwr_req, upd_ne, upd_eq, ne_eq, Nat.reduceEqDiff, not_false_eq_true]
                refine m_isIn (fun g8 g8' => ?_) (fun g8 => ?_)
                · try simp only [zwr_rne, zwr_req, upd_ne, upd_eq, ne_eq, Nat.reduceEqDiff, not_false_eq_true] at g8
                  try simp only [zwr_rne, zwr_req, upd_ne, upd_eq, ne_eq, Nat.reduceEqDiff, not_false_eq_true] at g8'
                  try omega
                  all_goals
                   try simp only [one_ne, zero_eq, if_false, if_true, or_true, true_or, or_false, false_or]
                   try simp only [zwr_rne, zwr_req, upd_ne, upd_eq, ne_eq, Nat.reduceEqDiff, not_false_eq_true]
                   refine ⟨by first | assumption | exact vin (by omega) | exact vp_in_I.mpr (by omega), ?_⟩
                   refine zeq (fun g9 => ?_) (fun g9 => ?_)
                   · try simp only [zwr_rne, zwr_req, upd_ne, upd_eq, ne_eq, Nat.reduceEqDiff, not_false_eq_true] at g9
                     try omega
                     all_goals
                      try simp only [zwr_rne, zwr_req, upd_ne, upd_eq, ne_eq, Nat.reduceEqDiff, not_false_eq_true]
                      exact ⟨by first | rfl | trivial, hh⟩
                   · try simp only [zwr_rne, zwr_req, upd_ne, upd_eq, ne_eq, Nat.reduceEqDiff, not_false_eq_true] at g9
                     try omega
                     all_goals
                      try simp only [zwr_rne, zwr_req, upd_ne, upd_eq, ne_eq, Nat.reduceEqDiff, not_false_eq_true]
                      exfalso; omega
                      try simp only [zwr_rne, zwr_req, upd_ne, upd_eq, ne_eq, Nat.reduceEqDiff, not_false_eq_true]
                      refine ⟨by first | assumption | exact vin (by omega) | exact vp_in_I.mpr (by omega), ?_⟩
                      refine ⟨by first | assumption | exact vin (by omega) | exact vp_in_I.mpr (by omega), ?_⟩
                      rintro _ rfl
                      try simp only [zwr_rne, zwr_req, upd_ne, upd_eq, ne_eq, Nat.reduceEqDiff, not_false_eq_true]
                      refine ⟨by first | assumption | exact vin (by omega) | exact vp_in_I.mpr (by omega), ?_⟩
                      refine ⟨by first | assumption | exact vin (by omega) | exact vp_in_I.mpr (by omega), ?_⟩
                      rintro _ rfl
                      try simp only [zwr_rne, zwr_req, upd_ne, upd_eq, ne_eq, Nat.reduceEqDiff, not_false_eq_true]
                      refine ⟨by first | assumption | exact vin (by omega) | exact vp_in_I.mpr (by omega), ?_⟩
                      refine ⟨by first | assumption | exact vin (by omega) | exact vp_in_I.mpr (by omega), ?_⟩
                      rintro _ rfl
                      try simp only [zwr_rne, zwr_req, upd_ne, upd_eq, ne_eq, Nat.reduceEqDiff, not_false_eq_true]
                      exact ⟨by first | rfl | trivial, hh⟩
                · exfalso; (try simp only [zwr_rne, zwr_req, upd_ne, upd_eq, ne_eq, Nat.reduceEqDiff, not_false_eq_true] at g8); omega
             · exfalso; (try simp only [zwr_rne, zwr_req, upd_ne, upd_eq, ne_eq, Nat.reduceEqDiff, not_false_eq_true] at g7); omega
       · try simp only [zwr_rne, zwr_req, upd_ne, upd_eq, ne_eq, Nat.reduceEqDiff, not_false_eq_true] at g2
         try omega
         all_goals
          try simp only [one_ne, zero_eq, if_false, if_true, or_true, true_or, or_false, false_or]
          refine en_X12_amend ?_
          try simp only [zwr_rne, zwr_req, upd_ne, upd_eq, ne_eq, Nat.reduceEqDiff, not_false_eq_true]
          refine m_isClaim (by first | omega | (simp only [zwr_rne, zwr_req, upd_ne, upd_eq, ne_eq, Nat.reduceEqDiff, not_false_eq_true]; omega)) (fun g10 g10' => ?_) (fun g10 => ?_)
          · try simp only [zwr_rne, zwr_req, upd_ne, upd_eq, ne_eq, Nat.reduceEqDiff, not_false_eq_true] at g10
            try simp only [zwr_rne, zwr_req, upd_ne, upd_eq, ne_eq, Nat.reduceEqDiff, not_false_eq_true] at g10'
            try omega
            all_goals
             try simp only [one_ne, zero_eq, if_false, if_true, or_true, true_or, or_false, false_or]
             try simp only [zwr_rne, zwr_req, upd_ne, upd_eq, ne_eq, Nat.reduceEqDiff, not_false_eq_true]
             refine m_isIn (fun g11 g11' => ?_) (fun g11 => ?_)
             · exfalso; (try simp only [zwr_rne, zwr_req, upd_ne, upd_eq, ne_eq, Nat.reduceEqDiff, not_false_eq_true] at g11); (try simp only [zwr_rne, zwr_req, upd_ne, upd_eq, ne_eq, Nat.reduceEqDiff, not_false_eq_true] at g11'); omega
             · try simp only [zwr_rne, zwr_req, upd_ne, upd_eq, ne_eq, Nat.reduceEqDiff, not_false_eq_true] at g11
               try omega
               all_goals
                try simp only [one_ne, zero_eq, if_false, if_true, or_true, true_or, or_false, false_or]
                try simp only [zwr_rne, zwr_req, upd_ne, upd_eq, ne_eq, Nat.reduceEqDiff, not_false_eq_true]
                exact ⟨by first | rfl | trivial, hh⟩
          · exfalso; (try simp only [zwr_rne, zwr_req, upd_ne, upd_eq, ne_eq, Nat.reduceEqDiff, not_false_eq_true] at g10); omega
    · try simp only [zwr_rne, zwr_req, upd_ne, upd_eq, ne_eq, Nat.reduceEqDiff, not_false_eq_true] at g1
      try omega
      all_goals
       try simp only [one_ne, zero_eq, if_false, if_true, or_true, true_or, or_false, false_or]
       refine en_X12_amend ?_
       try simp only [zwr_rne, zwr_req, upd_ne, upd_eq, ne_eq, Nat.reduceEqDiff, not_false_eq_true]
       refine m_isClaim (by first | omega | (simp only [zwr_rne, zwr_req, upd_ne, upd_eq, ne_eq, Nat.reduceEqDiff, not_false_eq_true]; omega)) (fun g12 g12' => ?_) (fun g12 => ?_)
       · exfalso; (try simp only [zwr_rne, zwr_req, upd_ne, upd_eq, ne_eq, Nat.reduceEqDiff, not_false_eq_true] at g12); (try simp only [zwr_rne, zwr_req, upd_ne, upd_eq, ne_eq, Nat.reduceEqDiff, not_false_eq_true] at g12'); omega
       · try simp only [zwr_rne, zwr_req, upd_ne, upd_eq, ne_eq, Nat.reduceEqDiff, not_false_eq_true] at g12
         try omega
         all_goals
          try simp only [one_ne, zero_eq, if_false, if_true, or_true, true_or, or_false, false_or]
          try simp only [zwr_rne, zwr_req, upd_ne, upd_eq, ne_eq, Nat.reduceEqDiff, not_false_eq_true]
          exact ⟨by first | rfl | trivial, hh⟩
  · have tc := tin hc2
    have cc : (nI c).toNatClampNeg = c := cln hc2
    have vc : vp_in (nI c) 24 := vin (by omega)
    obtain ⟨a1, a2, a3, a4⟩ := kda.1 c hc
    obtain ⟨h1, h2, h3, h4⟩ := kdh.1 c hc
    obtain ⟨q1, q2, q3, q4, q5, q6, q7, q8, q9, q10, q11, q12⟩ := kcl.1 c hc
    obtain ⟨p1, p2, p3, p4, p5, p6⟩ := kpl.1 c hc
    have fq1 : (σ 2 c).toInt = (σ 78 c).toInt := by rw [q1]
    have fq2 : (σ 3 c).toInt = (σ 79 c).toInt := by rw [q2]
    obtain ⟨w, w1, w2, w3, w4, w5⟩ := kda.get hc
    have tw : (nI w).toInt = (w : Int) := tin (by omega)
    have tw1 : (nI (w + 1)).toInt = (w : Int) + 1 := by rw [tin (by omega)]; simp
    by_cases hw8 : w < 8
    · have cw : (nI (9 * c + (w + 1))).toNatClampNeg = 9 * c + (w + 1) := cln (by omega)
      have vw : vp_in (nI (9 * c + (w + 1))) 216 := vin (by omega)
      refine en_X11_amend ?_
      try simp only [zwr_rne, zwr_req, upd_ne, upd_eq, ne_eq, Nat.reduceEqDiff, not_false_eq_true, cc, e4, w2, w3, ix9, ix9', nI_1, cw]
      refine c_hasC (fun g1 g1' => ?_) (fun g1 => ?_)
      · try simp only [zwr_rne, zwr_req, upd_ne, upd_eq, ne_eq, Nat.reduceEqDiff, not_false_eq_true, cc, e4, w2, w3, ix9, ix9', nI_1, cw] at g1
        try simp only [zwr_rne, zwr_req, upd_ne, upd_eq, ne_eq, Nat.reduceEqDiff, not_false_eq_true, cc, e4, w2, w3, ix9, ix9', nI_1, cw] at g1'
        try omega
        all_goals
         try simp only [one_ne, zero_eq, if_false, if_true, or_true, true_or, or_false, false_or]
         refine c_isWithin (fun g2 g2' => ?_) (fun g2 => ?_)
         · try simp only [zwr_rne, zwr_req, upd_ne, upd_eq, ne_eq, Nat.reduceEqDiff, not_false_eq_true, cc, e4, w2, w3, ix9, ix9', nI_1, cw] at g2
           try simp only [zwr_rne, zwr_req, upd_ne, upd_eq, ne_eq, Nat.reduceEqDiff, not_false_eq_true, cc, e4, w2, w3, ix9, ix9', nI_1, cw] at g2'
           try omega
           all_goals
            try simp only [one_ne, zero_eq, if_false, if_true, or_true, true_or, or_false, false_or]
            refine en_X3_isFull_i6 ?_
            try simp only [zwr_rne, zwr_req, upd_ne, upd_eq, ne_eq, Nat.reduceEqDiff, not_false_eq_true, cc, e4, w2, w3, ix9, ix9', nI_1, cw]
            refine ⟨by first | assumption | exact vin (by omega) | exact vp_in_I.mpr (by omega), ?_⟩
            refine zlt (fun g3 => ?_) (fun g3 => ?_)
            · try simp only [zwr_rne, zwr_req, upd_ne, upd_eq, ne_eq, Nat.reduceEqDiff, not_false_eq_true, cc, e4, w2, w3, ix9, ix9', nI_1, cw] at g3
              try omega
              all_goals
               try simp only [one_ne, zero_eq, if_false, if_true, or_true, true_or, or_false, false_or]
               try simp only [zwr_rne, zwr_req, upd_ne, upd_eq, ne_eq, Nat.reduceEqDiff, not_false_eq_true, cc, e4, w2, w3, ix9, ix9', nI_1, cw]
               refine cr_amountOn kda hc u3 ?_
               try simp only [zwr_rne, zwr_req, upd_ne, upd_eq, ne_eq, Nat.reduceEqDiff, not_false_eq_true, cc, e4, w2, w3, ix9, ix9', nI_1, cw]
               refine en_X3_write_i6 ?_
               try simp only [zwr_rne, zwr_req, upd_ne, upd_eq, ne_eq, Nat.reduceEqDiff, not_false_eq_true, cc, e4, w2, w3, ix9, ix9', nI_1, cw]
               refine en_X3_isFull_i6 ?_
               try simp only [zwr_rne, zwr_req, upd_ne, upd_eq, ne_eq, Nat.reduceEqDiff, not_false_eq_true, cc, e4, w2, w3, ix9, ix9', nI_1, cw]
               refine ⟨by first | assumption | exact vin (by omega) | exact vp_in_I.mpr (by omega), ?_⟩
               refine zlt (fun g4 => ?_) (fun g4 => ?_)
               · try simp only [zwr_rne, zwr_req, upd_ne, upd_eq, ne_eq, Nat.reduceEqDiff, not_false_eq_true, cc, e4, w2, w3, ix9, ix9', nI_1, cw] at g4
                 try omega
                 all_goals
                  try simp only [one_ne, zero_eq, if_false, if_true, or_true, true_or, or_false, false_or]
                  try simp only [zwr_rne, zwr_req, upd_ne, upd_eq, ne_eq, Nat.reduceEqDiff, not_false_eq_true, cc, e4, w2, w3, ix9, ix9', nI_1, cw]
                  refine ⟨by first | assumption | exact vin (by omega) | exact vp_in_I.mpr (by omega), ?_⟩
                  refine ⟨by first | assumption | exact vin (by omega) | exact vp_in_I.mpr (by omega), ?_⟩
                  rintro _ rfl
                  try simp only [zwr_rne, zwr_req, upd_ne, upd_eq, ne_eq, Nat.reduceEqDiff, not_false_eq_true, cc, e4, w2, w3, ix9, ix9', nI_1, cw]
                  refine ⟨by first | assumption | exact vin (by omega) | exact vp_in_I.mpr (by omega), ?_⟩
                  rintro _ rfl
                  try simp only [zwr_rne, zwr_req, upd_ne, upd_eq, ne_eq, Nat.reduceEqDiff, not_false_eq_true, cc, e4, w2, w3, ix9, ix9', nI_1, cw]
                  refine ⟨by first | assumption | exact vin (by omega) | exact vp_in_I.mpr (by omega), ?_⟩
                  refine ⟨by first | assumption | exact vin (by omega) | exact vp_in_I.mpr (by omega), ?_⟩
                  rintro _ rfl
                  try simp only [zwr_rne, zwr_req, upd_ne, upd_eq, ne_eq, Nat.reduceEqDiff, not_false_eq_true, cc, e4, w2, w3, ix9, ix9', nI_1, cw]
                  try simp only [zwr_rne, zwr_req, upd_ne, upd_eq, ne_eq, Nat.reduceEqDiff, not_false_eq_true, cc, e4, w2, w3, ix9, ix9', nI_1, cw]
                  refine c_changed ?_
                  try simp only [zwr_rne, zwr_req, upd_ne, upd_eq, ne_eq, Nat.reduceEqDiff, not_false_eq_true, cc, e4, w2, w3, ix9, ix9', nI_1, cw]
                  refine en_X12_amend ?_
                  try simp only [zwr_rne, zwr_req, upd_ne, upd_eq, ne_eq, Nat.reduceEqDiff, not_false_eq_true, cc, e4, w2, w3, ix9, ix9', nI_1, cw]
                  refine m_isClaim (by first | omega | (simp only [zwr_rne, zwr_req, upd_ne, upd_eq, ne_eq, Nat.reduceEqDiff, not_false_eq_true, cc, e4, w2, w3, ix9, ix9', nI_1, cw]; omega)) (fun g5 g5' => ?_) (fun g5 => ?_)
                  · try simp only [zwr_rne, zwr_req, upd_ne, upd_eq, ne_eq, Nat.reduceEqDiff, not_false_eq_true, cc, e4, w2, w3, ix9, ix9', nI_1, cw] at g5
                    try simp only [zwr_rne, zwr_req, upd_ne, upd_eq, ne_eq, Nat.reduceEqDiff, not_false_eq_true, cc, e4, w2, w3, ix9, ix9', nI_1, cw] at g5'
                    try omega
                    all_goals
                     try simp only [one_ne, zero_eq, if_false, if_true, or_true, true_or, or_false, false_or]
                     try simp only [zwr_rne, zwr_req, upd_ne, upd_eq, ne_eq, Nat.reduceEqDiff, not_false_eq_true, cc, e4, w2, w3, ix9, ix9', nI_1, cw]
                     refine m_isIn (fun g6 g6' => ?_) (fun g6 => ?_)
                     · try simp only [zwr_rne, zwr_req, upd_ne, upd_eq, ne_eq, Nat.reduceEqDiff, not_false_eq_true, cc, e4, w2, w3, ix9, ix9', nI_1, cw] at g6
                       try simp only [zwr_rne, zwr_req, upd_ne, upd_eq, ne_eq, Nat.reduceEqDiff, not_false_eq_true, cc, e4, w2, w3, ix9, ix9', nI_1, cw] at g6'
                       try omega
                       all_goals
                        try simp only [one_ne, zero_eq, if_false, if_true, or_true, true_or, or_false, false_or]
                        try simp only [zwr_rne, zwr_req, upd_ne, upd_eq, ne_eq, Nat.reduceEqDiff, not_false_eq_true, cc, e4, w2, w3, ix9, ix9', nI_1, cw]
                        refine ⟨by first | assumption | exact vin (by omega) | exact vp_in_I.mpr (by omega), ?_⟩
                        refine zeq (fun g7 => ?_) (fun g7 => ?_)
                        · try simp only [zwr_rne, zwr_req, upd_ne, upd_eq, ne_eq, Nat.reduceEqDiff, not_false_eq_true, cc, e4, w2, w3, ix9, ix9', nI_1, cw] at g7
                          try omega
                          all_goals
                           try simp only [zwr_rne, zwr_req, upd_ne, upd_eq, ne_eq, Nat.reduceEqDiff, not_false_eq_true, cc, e4, w2, w3, ix9, ix9', nI_1, cw]
                           exact ⟨by first | rfl | trivial, hh⟩
                        · try simp only [zwr_rne, zwr_req, upd_ne, upd_eq, ne_eq, Nat.reduceEqDiff, not_false_eq_true, cc, e4, w2, w3, ix9, ix9', nI_1, cw] at g7
                          try omega
                          all_goals
                           try simp only [zwr_rne, zwr_req, upd_ne, upd_eq, ne_eq, Nat.reduceEqDiff, not_false_eq_true, cc, e4, w2, w3, ix9, ix9', nI_1, cw]
                           refine mr_amountOn hc u3 a2 a3 ?_
                           try simp only [zwr_rne, zwr_req, upd_ne, upd_eq, ne_eq, Nat.reduceEqDiff, not_false_eq_true, cc, e4, w2, w3, ix9, ix9', nI_1, cw]
                           refine ⟨by first | assumption | exact vin (by omega) | exact vp_in_I.mpr (by omega), ?_⟩
                           refine ⟨by first | assumption | exact vin (by omega) | exact vp_in_I.mpr (by omega), ?_⟩
                           rintro _ rfl
                           try simp only [zwr_rne, zwr_req, upd_ne, upd_eq, ne_eq, Nat.reduceEqDiff, not_false_eq_true, cc, e4, w2, w3, ix9, ix9', nI_1, cw]
                           refine ⟨by first | assumption | exact vin (by omega) | exact vp_in_I.mpr (by omega), ?_⟩
                           refine ⟨by first | assumption | exact vin (by omega) | exact vp_in_I.mpr (by omega), ?_⟩
                           rintro _ rfl
                           try simp only [zwr_rne, zwr_req, upd_ne, upd_eq, ne_eq, Nat.reduceEqDiff, not_false_eq_true, cc, e4, w2, w3, ix9, ix9', nI_1, cw]
                           refine ⟨by first | assumption | exact vin (by omega) | exact vp_in_I.mpr (by omega), ?_⟩
                           refine ⟨by first | assumption | exact vin (by omega) | exact vp_in_I.mpr (by omega), ?_⟩
                           rintro _ rfl
                           try simp only [zwr_rne, zwr_req, upd_ne, upd_eq, ne_eq, Nat.reduceEqDiff, not_false_eq_true, cc, e4, w2, w3, ix9, ix9', nI_1, cw]
                           refine ⟨by first | rfl | trivial | assumption, ?_⟩
                           unfold Rall
                           simp only [zwr_rne, zwr_req, upd_ne, upd_eq, ne_eq, Nat.reduceEqDiff, not_false_eq_true]
                           exact ⟨⟨k1, k2, k3, k4, k5, k6, k7, k8, k9⟩, kas, kcl, kda.write hc w2 hw8 (by omega) (by omega), kdh, kpl, kkp, ksh, kwt, ktp, klw, ksd, Rwx_stale, Rwx_stale⟩
                     · exfalso; (try simp only [zwr_rne, zwr_req, upd_ne, upd_eq, ne_eq, Nat.reduceEqDiff, not_false_eq_true, cc, e4, w2, w3, ix9, ix9', nI_1, cw] at g6); omega
                  · exfalso; (try simp only [zwr_rne, zwr_req, upd_ne, upd_eq, ne_eq, Nat.reduceEqDiff, not_false_eq_true, cc, e4, w2, w3, ix9, ix9', nI_1, cw] at g5); omega
               · exfalso; (try simp only [zwr_rne, zwr_req, upd_ne, upd_eq, ne_eq, Nat.reduceEqDiff, not_false_eq_true, cc, e4, w2, w3, ix9, ix9', nI_1, cw] at g4); omega
            · try simp only [zwr_rne, zwr_req, upd_ne, upd_eq, ne_eq, Nat.reduceEqDiff, not_false_eq_true, cc, e4, w2, w3, ix9, ix9', nI_1, cw] at g3
              try omega
              all_goals
               try simp only [one_ne, zero_eq, if_false, if_true, or_true, true_or, or_false, false_or]
               try simp only [zwr_rne, zwr_req, upd_ne, upd_eq, ne_eq, Nat.reduceEqDiff, not_false_eq_true, cc, e4, w2, w3, ix9, ix9', nI_1, cw]
               refine en_X12_amend ?_
               try simp only [zwr_rne, zwr_req, upd_ne, upd_eq, ne_eq, Nat.reduceEqDiff, not_false_eq_true, cc, e4, w2, w3, ix9, ix9', nI_1, cw]
               refine m_isClaim (by first | omega | (simp only [zwr_rne, zwr_req, upd_ne, upd_eq, ne_eq, Nat.reduceEqDiff, not_false_eq_true, cc, e4, w2, w3, ix9, ix9', nI_1, cw]; omega)) (fun g8 g8' => ?_) (fun g8 => ?_)
               · try simp only [zwr_rne, zwr_req, upd_ne, upd_eq, ne_eq, Nat.reduceEqDiff, not_false_eq_true, cc, e4, w2, w3, ix9, ix9', nI_1, cw] at g8
                 try simp only [zwr_rne, zwr_req, upd_ne, upd_eq, ne_eq, Nat.reduceEqDiff, not_false_eq_true, cc, e4, w2, w3, ix9, ix9', nI_1, cw] at g8'
                 try omega
                 all_goals
                  try simp only [one_ne, zero_eq, if_false, if_true, or_true, true_or, or_false, false_or]
                  try simp only [zwr_rne, zwr_req, upd_ne, upd_eq, ne_eq, Nat.reduceEqDiff, not_false_eq_true, cc, e4, w2, w3, ix9, ix9', nI_1, cw]
                  refine m_isIn (fun g9 g9' => ?_) (fun g9 => ?_)
                  · try simp only [zwr_rne, zwr_req, upd_ne, upd_eq, ne_eq, Nat.reduceEqDiff, not_false_eq_true, cc, e4, w2, w3, ix9, ix9', nI_1, cw] at g9
                    try simp only [zwr_rne, zwr_req, upd_ne, upd_eq, ne_eq, Nat.reduceEqDiff, not_false_eq_true, cc, e4, w2, w3, ix9, ix9', nI_1, cw] at g9'
                    try omega
                    all_goals
                     try simp only [one_ne, zero_eq, if_false, if_true, or_true, true_or, or_false, false_or]
                     try simp only [zwr_rne, zwr_req, upd_ne, upd_eq, ne_eq, Nat.reduceEqDiff, not_false_eq_true, cc, e4, w2, w3, ix9, ix9', nI_1, cw]
                     refine ⟨by first | assumption | exact vin (by omega) | exact vp_in_I.mpr (by omega), ?_⟩
                     refine zeq (fun g10 => ?_) (fun g10 => ?_)
                     · try simp only [zwr_rne, zwr_req, upd_ne, upd_eq, ne_eq, Nat.reduceEqDiff, not_false_eq_true, cc, e4, w2, w3, ix9, ix9', nI_1, cw] at g10
                       try omega
                       all_goals
                        try simp only [zwr_rne, zwr_req, upd_ne, upd_eq, ne_eq, Nat.reduceEqDiff, not_false_eq_true, cc, e4, w2, w3, ix9, ix9', nI_1, cw]
                        exact ⟨by first | rfl | trivial, hh⟩
                     · try simp only [zwr_rne, zwr_req, upd_ne, upd_eq, ne_eq, Nat.reduceEqDiff, not_false_eq_true, cc, e4, w2, w3, ix9, ix9', nI_1, cw] at g10
                       try omega
                       all_goals
                        try simp only [zwr_rne, zwr_req, upd_ne, upd_eq, ne_eq, Nat.reduceEqDiff, not_false_eq_true, cc, e4, w2, w3, ix9, ix9', nI_1, cw]
                        refine mr_amountOn hc u3 a2 a3 ?_
                        try simp only [zwr_rne, zwr_req, upd_ne, upd_eq, ne_eq, Nat.reduceEqDiff, not_false_eq_true, cc, e4, w2, w3, ix9, ix9', nI_1, cw]
                        refine ⟨by first | assumption | exact vin (by omega) | exact vp_in_I.mpr (by omega), ?_⟩
                        refine ⟨by first | assumption | exact vin (by omega) | exact vp_in_I.mpr (by omega), ?_⟩
                        rintro _ rfl
                        try simp only [zwr_rne, zwr_req, upd_ne, upd_eq, ne_eq, Nat.reduceEqDiff, not_false_eq_true, cc, e4, w2, w3, ix9, ix9', nI_1, cw]
                        refine ⟨by first | assumption | exact vin (by omega) | exact vp_in_I.mpr (by omega), ?_⟩
                        refine ⟨by first | assumption | exact vin (by omega) | exact vp_in_I.mpr (by omega), ?_⟩
                        rintro _ rfl
                        try simp only [zwr_rne, zwr_req, upd_ne, upd_eq, ne_eq, Nat.reduceEqDiff, not_false_eq_true, cc, e4, w2, w3, ix9, ix9', nI_1, cw]
                        refine ⟨by first | assumption | exact vin (by omega) | exact vp_in_I.mpr (by omega), ?_⟩
                        refine ⟨by first | assumption | exact vin (by omega) | exact vp_in_I.mpr (by omega), ?_⟩
                        rintro _ rfl
                        try simp only [zwr_rne, zwr_req, upd_ne, upd_eq, ne_eq, Nat.reduceEqDiff, not_false_eq_true, cc, e4, w2, w3, ix9, ix9', nI_1, cw]
                        refine ⟨by first | rfl | trivial | assumption, ?_⟩
                        unfold Rall
                        simp only [zwr_rne, zwr_req, upd_ne, upd_eq, ne_eq, Nat.reduceEqDiff, not_false_eq_true]
                        exact ⟨⟨k1, k2, k3, k4, k5, k6, k7, k8, k9⟩, kas, kcl, kda.write hc w2 hw8 (by omega) (by omega), kdh, kpl, kkp, ksh, kwt, ktp, klw, ksd, Rwx_stale, Rwx_stale⟩
                  · exfalso; (try simp only [zwr_rne, zwr_req, upd_ne, upd_eq, ne_eq, Nat.reduceEqDiff, not_false_eq_true, cc, e4, w2, w3, ix9, ix9', nI_1, cw] at g9); omega
               · exfalso; (try simp only [zwr_rne, zwr_req, upd_ne, upd_eq, ne_eq, Nat.reduceEqDiff, not_false_eq_true, cc, e4, w2, w3, ix9, ix9', nI_1, cw] at g8); omega
         · try simp only [zwr_rne, zwr_req, upd_ne, upd_eq, ne_eq, Nat.reduceEqDiff, not_false_eq_true, cc, e4, w2, w3, ix9, ix9', nI_1, cw] at g2
           try omega
           all_goals
            try simp only [one_ne, zero_eq, if_false, if_true, or_true, true_or, or_false, false_or]
            refine en_X12_amend ?_
            try simp only [zwr_rne, zwr_req, upd_ne, upd_eq, ne_eq, Nat.reduceEqDiff, not_false_eq_true, cc, e4, w2, w3, ix9, ix9', nI_1, cw]
            refine m_isClaim (by first | omega | (simp only [zwr_rne, zwr_req, upd_ne, upd_eq, ne_eq, Nat.reduceEqDiff, not_false_eq_true, cc, e4, w2, w3, ix9, ix9', nI_1, cw]; omega)) (fun g11 g11' => ?_) (fun g11 => ?_)
            · try simp only [zwr_rne, zwr_req, upd_ne, upd_eq, ne_eq, Nat.reduceEqDiff, not_false_eq_true, cc, e4, w2, w3, ix9, ix9', nI_1, cw] at g11
              try simp only [zwr_rne, zwr_req, upd_ne, upd_eq, ne_eq, Nat.reduceEqDiff, not_false_eq_true, cc, e4, w2, w3, ix9, ix9', nI_1, cw] at g11'
              try omega
              all_goals
               try simp only [one_ne, zero_eq, if_false, if_true, or_true, true_or, or_false, false_or]
               try simp only [zwr_rne, zwr_req, upd_ne, upd_eq, ne_eq, Nat.reduceEqDiff, not_false_eq_true, cc, e4, w2, w3, ix9, ix9', nI_1, cw]
               refine m_isIn (fun g12 g12' => ?_) (fun g12 => ?_)
               · exfalso; (try simp only [zwr_rne, zwr_req, upd_ne, upd_eq, ne_eq, Nat.reduceEqDiff, not_false_eq_true, cc, e4, w2, w3, ix9, ix9', nI_1, cw] at g12); (try simp only [zwr_rne, zwr_req, upd_ne, upd_eq, ne_eq, Nat.reduceEqDiff, not_false_eq_true, cc, e4, w2, w3, ix9, ix9', nI_1, cw] at g12'); omega
               · try simp only [zwr_rne, zwr_req, upd_ne, upd_eq, ne_eq, Nat.reduceEqDiff, not_false_eq_true, cc, e4, w2, w3, ix9, ix9', nI_1, cw] at g12
                 try omega
                 all_goals
                  try simp only [one_ne, zero_eq, if_false, if_true, or_true, true_or, or_false, false_or]
                  try simp only [zwr_rne, zwr_req, upd_ne, upd_eq, ne_eq, Nat.reduceEqDiff, not_false_eq_true, cc, e4, w2, w3, ix9, ix9', nI_1, cw]
                  exact ⟨by first | rfl | trivial, hh⟩
            · exfalso; (try simp only [zwr_rne, zwr_req, upd_ne, upd_eq, ne_eq, Nat.reduceEqDiff, not_false_eq_true, cc, e4, w2, w3, ix9, ix9', nI_1, cw] at g11); omega
      · try simp only [zwr_rne, zwr_req, upd_ne, upd_eq, ne_eq, Nat.reduceEqDiff, not_false_eq_true, cc, e4, w2, w3, ix9, ix9', nI_1, cw] at g1
        try omega
        all_goals
         try simp only [one_ne, zero_eq, if_false, if_true, or_true, true_or, or_false, false_or]
         refine en_X12_amend ?_
         try simp only [zwr_rne, zwr_req, upd_ne, upd_eq, ne_eq, Nat.reduceEqDiff, not_false_eq_true, cc, e4, w2, w3, ix9, ix9', nI_1, cw]
         refine m_isClaim (by first | omega | (simp only [zwr_rne, zwr_req, upd_ne, upd_eq, ne_eq, Nat.reduceEqDiff, not_false_eq_true, cc, e4, w2, w3, ix9, ix9', nI_1, cw]; omega)) (fun g13 g13' => ?_) (fun g13 => ?_)
         · exfalso; (try simp only [zwr_rne, zwr_req, upd_ne, upd_eq, ne_eq, Nat.reduceEqDiff, not_false_eq_true, cc, e4, w2, w3, ix9, ix9', nI_1, cw] at g13); (try simp only [zwr_rne, zwr_req, upd_ne, upd_eq, ne_eq, Nat.reduceEqDiff, not_false_eq_true, cc, e4, w2, w3, ix9, ix9', nI_1, cw] at g13'); omega
         · try simp only [zwr_rne, zwr_req, upd_ne, upd_eq, ne_eq, Nat.reduceEqDiff, not_false_eq_true, cc, e4, w2, w3, ix9, ix9', nI_1, cw] at g13
           try omega
           all_goals
            try simp only [one_ne, zero_eq, if_false, if_true, or_true, true_or, or_false, false_or]
            try simp only [zwr_rne, zwr_req, upd_ne, upd_eq, ne_eq, Nat.reduceEqDiff, not_false_eq_true, cc, e4, w2, w3, ix9, ix9', nI_1, cw]
            exact ⟨by first | rfl | trivial, hh⟩
    · have hw : w = 8 := by omega
      subst hw
      refine en_X11_amend ?_
      try simp only [zwr_rne, zwr_req, upd_ne, upd_eq, ne_eq, Nat.reduceEqDiff, not_false_eq_true, cc, w2, w3]
      refine c_hasC (fun g1 g1' => ?_) (fun g1 => ?_)
      · try simp only [zwr_rne, zwr_req, upd_ne, upd_eq, ne_eq, Nat.reduceEqDiff, not_false_eq_true, cc, w2, w3] at g1
        try simp only [zwr_rne, zwr_req, upd_ne, upd_eq, ne_eq, Nat.reduceEqDiff, not_false_eq_true, cc, w2, w3] at g1'
        try omega
        all_goals
         try simp only [one_ne, zero_eq, if_false, if_true, or_true, true_or, or_false, false_or]
         refine c_isWithin (fun g2 g2' => ?_) (fun g2 => ?_)
         · try simp only [zwr_rne, zwr_req, upd_ne, upd_eq, ne_eq, Nat.reduceEqDiff, not_false_eq_true, cc, w2, w3] at g2
           try simp only [zwr_rne, zwr_req, upd_ne, upd_eq, ne_eq, Nat.reduceEqDiff, not_false_eq_true, cc, w2, w3] at g2'
           try omega
           all_goals
            try simp only [one_ne, zero_eq, if_false, if_true, or_true, true_or, or_false, false_or]
            refine en_X3_isFull_i6 ?_
            try simp only [zwr_rne, zwr_req, upd_ne, upd_eq, ne_eq, Nat.reduceEqDiff, not_false_eq_true, cc, w2, w3]
            refine ⟨by first | assumption | exact vin (by omega) | exact vp_in_I.mpr (by omega), ?_⟩
            refine zlt (fun g3 => ?_) (fun g3 => ?_)
            · try simp only [zwr_rne, zwr_req, upd_ne, upd_eq, ne_eq, Nat.reduceEqDiff, not_false_eq_true, cc, w2, w3] at g3
              try omega
              all_goals
               try simp only [one_ne, zero_eq, if_false, if_true, or_true, true_or, or_false, false_or]
               try simp only [zwr_rne, zwr_req, upd_ne, upd_eq, ne_eq, Nat.reduceEqDiff, not_false_eq_true, cc, w2, w3]
               exfalso; omega
               try simp only [zwr_rne, zwr_req, upd_ne, upd_eq, ne_eq, Nat.reduceEqDiff, not_false_eq_true, cc, w2, w3]
               exfalso; omega
               try simp only [zwr_rne, zwr_req, upd_ne, upd_eq, ne_eq, Nat.reduceEqDiff, not_false_eq_true, cc, w2, w3]
               refine c_changed ?_
               try simp only [zwr_rne, zwr_req, upd_ne, upd_eq, ne_eq, Nat.reduceEqDiff, not_false_eq_true, cc, w2, w3]
               refine en_X12_amend ?_
               try simp only [zwr_rne, zwr_req, upd_ne, upd_eq, ne_eq, Nat.reduceEqDiff, not_false_eq_true, cc, w2, w3]
               refine m_isClaim (by first | omega | (simp only [zwr_rne, zwr_req, upd_ne, upd_eq, ne_eq, Nat.reduceEqDiff, not_false_eq_true, cc, w2, w3]; omega)) (fun g4 g4' => ?_) (fun g4 => ?_)
               · try simp only [zwr_rne, zwr_req, upd_ne, upd_eq, ne_eq, Nat.reduceEqDiff, not_false_eq_true, cc, w2, w3] at g4
                 try simp only [zwr_rne, zwr_req, upd_ne, upd_eq, ne_eq, Nat.reduceEqDiff, not_false_eq_true, cc, w2, w3] at g4'
                 try omega
                 all_goals
                  try simp only [one_ne, zero_eq, if_false, if_true, or_true, true_or, or_false, false_or]
                  try simp only [zwr_rne, zwr_req, upd_ne, upd_eq, ne_eq, Nat.reduceEqDiff, not_false_eq_true, cc, w2, w3]
                  refine m_isIn (fun g5 g5' => ?_) (fun g5 => ?_)
                  · try simp only [zwr_rne, zwr_req, upd_ne, upd_eq, ne_eq, Nat.reduceEqDiff, not_false_eq_true, cc, w2, w3] at g5
                    try simp only [zwr_rne, zwr_req, upd_ne, upd_eq, ne_eq, Nat.reduceEqDiff, not_false_eq_true, cc, w2, w3] at g5'
                    try omega
                    all_goals
                     try simp only [one_ne, zero_eq, if_false, if_true, or_true, true_or, or_false, false_or]
                     try simp only [zwr_rne, zwr_req, upd_ne, upd_eq, ne_eq, Nat.reduceEqDiff, not_false_eq_true, cc, w2, w3]
                     refine ⟨by first | assumption | exact vin (by omega) | exact vp_in_I.mpr (by omega), ?_⟩
                     refine zeq (fun g6 => ?_) (fun g6 => ?_)
                     · try simp only [zwr_rne, zwr_req, upd_ne, upd_eq, ne_eq, Nat.reduceEqDiff, not_false_eq_true, cc, w2, w3] at g6
                       try omega
                       all_goals
                        try simp only [zwr_rne, zwr_req, upd_ne, upd_eq, ne_eq, Nat.reduceEqDiff, not_false_eq_true, cc, w2, w3]
                        exact ⟨by first | rfl | trivial, hh⟩
                     · try simp only [zwr_rne, zwr_req, upd_ne, upd_eq, ne_eq, Nat.reduceEqDiff, not_false_eq_true, cc, w2, w3] at g6
                       try omega
                       all_goals
                        try simp only [zwr_rne, zwr_req, upd_ne, upd_eq, ne_eq, Nat.reduceEqDiff, not_false_eq_true, cc, w2, w3]
                        exfalso; omega
                        try simp only [zwr_rne, zwr_req, upd_ne, upd_eq, ne_eq, Nat.reduceEqDiff, not_false_eq_true, cc, w2, w3]
                        refine ⟨by first | assumption | exact vin (by omega) | exact vp_in_I.mpr (by omega), ?_⟩
                        refine ⟨by first | assumption | exact vin (by omega) | exact vp_in_I.mpr (by omega), ?_⟩
                        rintro _ rfl
                        try simp only [zwr_rne, zwr_req, upd_ne, upd_eq, ne_eq, Nat.reduceEqDiff, not_false_eq_true, cc, w2, w3]
                        refine ⟨by first | assumption | exact vin (by omega) | exact vp_in_I.mpr (by omega), ?_⟩
                        refine ⟨by first | assumption | exact vin (by omega) | exact vp_in_I.mpr (by omega), ?_⟩
                        rintro _ rfl
                        try simp only [zwr_rne, zwr_req, upd_ne, upd_eq, ne_eq, Nat.reduceEqDiff, not_false_eq_true, cc, w2, w3]
                        refine ⟨by first | assumption | exact vin (by omega) | exact vp_in_I.mpr (by omega), ?_⟩
                        refine ⟨by first | assumption | exact vin (by omega) | exact vp_in_I.mpr (by omega), ?_⟩
                        rintro _ rfl
                        try simp only [zwr_rne, zwr_req, upd_ne, upd_eq, ne_eq, Nat.reduceEqDiff, not_false_eq_true, cc, w2, w3]
                        exact ⟨by first | rfl | trivial, hh⟩
                  · exfalso; (try simp only [zwr_rne, zwr_req, upd_ne, upd_eq, ne_eq, Nat.reduceEqDiff, not_false_eq_true, cc, w2, w3] at g5); omega
               · exfalso; (try simp only [zwr_rne, zwr_req, upd_ne, upd_eq, ne_eq, Nat.reduceEqDiff, not_false_eq_true, cc, w2, w3] at g4); omega
            · try simp only [zwr_rne, zwr_req, upd_ne, upd_eq, ne_eq, Nat.reduceEqDiff, not_false_eq_true, cc, w2, w3] at g3
              try omega
              all_goals
               try simp only [one_ne, zero_eq, if_false, if_true, or_true, true_or, or_false, false_or]
               try simp only [zwr_rne, zwr_req, upd_ne, upd_eq, ne_eq, Nat.reduceEqDiff, not_false_eq_true, cc, w2, w3]
               refine en_X12_amend ?_
               try simp only [zwr_rne, zwr_req, upd_ne, upd_eq, ne_eq, Nat.reduceEqDiff, not_false_eq_true, cc, w2, w3]
               refine m_isClaim (by first | omega | (simp only [zwr_rne, zwr_req, upd_ne, upd_eq, ne_eq, Nat.reduceEqDiff, not_false_eq_true, cc, w2, w3]; omega)) (fun g7 g7' => ?_) (fun g7 => ?_)
               · try simp only [zwr_rne, zwr_req, upd_ne, upd_eq, ne_eq, Nat.reduceEqDiff, not_false_eq_true, cc, w2, w3] at g7
                 try simp only [zwr_rne, zwr_req, upd_ne, upd_eq, ne_eq, Nat.reduceEqDiff, not_false_eq_true, cc, w2, w3] at g7'
                 try omega
                 all_goals
                  try simp only [one_ne, zero_eq, if_false, if_true, or_true, true_or, or_false, false_or]
                  try simp only [zwr_rne, zwr_req, upd_ne, upd_eq, ne_eq, Nat.reduceEqDiff, not_false_eq_true, cc, w2, w3]
                  refine m_isIn (fun g8 g8' => ?_) (fun g8 => ?_)
                  · try simp only [zwr_rne, zwr_req, upd_ne, upd_eq, ne_eq, Nat.reduceEqDiff, not_false_eq_true, cc, w2, w3] at g8
                    try simp only [zwr_rne, zwr_req, upd_ne, upd_eq, ne_eq, Nat.reduceEqDiff, not_false_eq_true, cc, w2, w3] at g8'
                    try omega
                    all_goals
                     try simp only [one_ne, zero_eq, if_false, if_true, or_true, true_or, or_false, false_or]
                     try simp only [zwr_rne, zwr_req, upd_ne, upd_eq, ne_eq, Nat.reduceEqDiff, not_false_eq_true, cc, w2, w3]
                     refine ⟨by first | assumption | exact vin (by omega) | exact vp_in_I.mpr (by omega), ?_⟩
                     refine zeq (fun g9 => ?_) (fun g9 => ?_)
                     · try simp only [zwr_rne, zwr_req, upd_ne, upd_eq, ne_eq, Nat.reduceEqDiff, not_false_eq_true, cc, w2, w3] at g9
                       try omega
                       all_goals
                        try simp only [zwr_rne, zwr_req, upd_ne, upd_eq, ne_eq, Nat.reduceEqDiff, not_false_eq_true, cc, w2, w3]
                        exact ⟨by first | rfl | trivial, hh⟩
                     · try simp only [zwr_rne, zwr_req, upd_ne, upd_eq, ne_eq, Nat.reduceEqDiff, not_false_eq_true, cc, w2, w3] at g9
                       try omega
                       all_goals
                        try simp only [zwr_rne, zwr_req, upd_ne, upd_eq, ne_eq, Nat.reduceEqDiff, not_false_eq_true, cc, w2, w3]
                        exfalso; omega
                        try simp only [zwr_rne, zwr_req, upd_ne, upd_eq, ne_eq, Nat.reduceEqDiff, not_false_eq_true, cc, w2, w3]
                        refine ⟨by first | assumption | exact vin (by omega) | exact vp_in_I.mpr (by omega), ?_⟩
                        refine ⟨by first | assumption | exact vin (by omega) | exact vp_in_I.mpr (by omega), ?_⟩
                        rintro _ rfl
                        try simp only [zwr_rne, zwr_req, upd_ne, upd_eq, ne_eq, Nat.reduceEqDiff, not_false_eq_true, cc, w2, w3]
                        refine ⟨by first | assumption | exact vin (by omega) | exact vp_in_I.mpr (by omega), ?_⟩
                        refine ⟨by first | assumption | exact vin (by omega) | exact vp_in_I.mpr (by omega), ?_⟩
                        rintro _ rfl
                        try simp only [zwr_rne, zwr_req, upd_ne, upd_eq, ne_eq, Nat.reduceEqDiff, not_false_eq_true, cc, w2, w3]
                        refine ⟨by first | assumption | exact vin (by omega) | exact vp_in_I.mpr (by omega), ?_⟩
                        refine ⟨by first | assumption | exact vin (by omega) | exact vp_in_I.mpr (by omega), ?_⟩
                        rintro _ rfl
                        try simp only [zwr_rne, zwr_req, upd_ne, upd_eq, ne_eq, Nat.reduceEqDiff, not_false_eq_true, cc, w2, w3]
                        exact ⟨by first | rfl | trivial, hh⟩
                  · exfalso; (try simp only [zwr_rne, zwr_req, upd_ne, upd_eq, ne_eq, Nat.reduceEqDiff, not_false_eq_true, cc, w2, w3] at g8); omega
               · exfalso; (try simp only [zwr_rne, zwr_req, upd_ne, upd_eq, ne_eq, Nat.reduceEqDiff, not_false_eq_true, cc, w2, w3] at g7); omega
         · try simp only [zwr_rne, zwr_req, upd_ne, upd_eq, ne_eq, Nat.reduceEqDiff, not_false_eq_true, cc, w2, w3] at g2
           try omega
           all_goals
            try simp only [one_ne, zero_eq, if_false, if_true, or_true, true_or, or_false, false_or]
            refine en_X12_amend ?_
            try simp only [zwr_rne, zwr_req, upd_ne, upd_eq, ne_eq, Nat.reduceEqDiff, not_false_eq_true, cc, w2, w3]
            refine m_isClaim (by first | omega | (simp only [zwr_rne, zwr_req, upd_ne, upd_eq, ne_eq, Nat.reduceEqDiff, not_false_eq_true, cc, w2, w3]; omega)) (fun g10 g10' => ?_) (fun g10 => ?_)
            · try simp only [zwr_rne, zwr_req, upd_ne, upd_eq, ne_eq, Nat.reduceEqDiff, not_false_eq_true, cc, w2, w3] at g10
              try simp only [zwr_rne, zwr_req, upd_ne, upd_eq, ne_eq, Nat.reduceEqDiff, not_false_eq_true, cc, w2, w3] at g10'
              try omega
              all_goals
               try simp only [one_ne, zero_eq, if_false, if_true, or_true, true_or, or_false, false_or]
               try simp only [zwr_rne, zwr_req, upd_ne, upd_eq, ne_eq, Nat.reduceEqDiff, not_false_eq_true, cc, w2, w3]
               refine m_isIn (fun g11 g11' => ?_) (fun g11 => ?_)
               · exfalso; (try simp only [zwr_rne, zwr_req, upd_ne, upd_eq, ne_eq, Nat.reduceEqDiff, not_false_eq_true, cc, w2, w3] at g11); (try simp only [zwr_rne, zwr_req, upd_ne, upd_eq, ne_eq, Nat.reduceEqDiff, not_false_eq_true, cc, w2, w3] at g11'); omega
               · try simp only [zwr_rne, zwr_req, upd_ne, upd_eq, ne_eq, Nat.reduceEqDiff, not_false_eq_true, cc, w2, w3] at g11
                 try omega
                 all_goals
                  try simp only [one_ne, zero_eq, if_false, if_true, or_true, true_or, or_false, false_or]
                  try simp only [zwr_rne, zwr_req, upd_ne, upd_eq, ne_eq, Nat.reduceEqDiff, not_false_eq_true, cc, w2, w3]
                  exact ⟨by first | rfl | trivial, hh⟩
            · exfalso; (try simp only [zwr_rne, zwr_req, upd_ne, upd_eq, ne_eq, Nat.reduceEqDiff, not_false_eq_true, cc, w2, w3] at g10); omega
      · try simp only [zwr_rne, zwr_req, upd_ne, upd_eq, ne_eq, Nat.reduceEqDiff, not_false_eq_true, cc, w2, w3] at g1
        try omega
        all_goals
         try simp only [one_ne, zero_eq, if_false, if_true, or_true, true_or, or_false, false_or]
         refine en_X12_amend ?_
         try simp only [zwr_rne, zwr_req, upd_ne, upd_eq, ne_eq, Nat.reduceEqDiff, not_false_eq_true, cc, w2, w3]
         refine m_isClaim (by first | omega | (simp only [zwr_rne, zwr_req, upd_ne, upd_eq, ne_eq, Nat.reduceEqDiff, not_false_eq_true, cc, w2, w3]; omega)) (fun g12 g12' => ?_) (fun g12 => ?_)
         · exfalso; (try simp only [zwr_rne, zwr_req, upd_ne, upd_eq, ne_eq, Nat.reduceEqDiff, not_false_eq_true, cc, w2, w3] at g12); (try simp only [zwr_rne, zwr_req, upd_ne, upd_eq, ne_eq, Nat.reduceEqDiff, not_false_eq_true, cc, w2, w3] at g12'); omega
         · try simp only [zwr_rne, zwr_req, upd_ne, upd_eq, ne_eq, Nat.reduceEqDiff, not_false_eq_true, cc, w2, w3] at g12
           try omega
           all_goals
            try simp only [one_ne, zero_eq, if_false, if_true, or_true, true_or, or_false, false_or]
            try simp only [zwr_rne, zwr_req, upd_ne, upd_eq, ne_eq, Nat.reduceEqDiff, not_false_eq_true, cc, w2, w3]
            exact ⟨by first | rfl | trivial, hh⟩

theorem P_trade {G : zGT} {d : Nat} {v1 v2 : Int32} : Pair G (d + 6) Y_X11_trade Y_X12_trade [.inl v1, .inl v2] := by
  intro σ h
  have hh := h
  obtain ⟨⟨k1, k2, k3, k4, k5, k6, k7, k8, k9⟩, kas, kcl, kda, kdh, kpl, kkp, ksh, kwt, ktp, klw, ksd, kw0, kw1⟩ := h
  obtain ⟨e1, b1, u1⟩ := id k1
  obtain ⟨e2, b2, u2⟩ := id k2
  obtain ⟨e3, b3, u3⟩ := id k3
  obtain ⟨e4, b4, u4⟩ := id k4
  obtain ⟨e5, b5, u5⟩ := id k5
  obtain ⟨e6, b6, u6⟩ := id k6
  obtain ⟨e7, b7, u7⟩ := id k7
  obtain ⟨e8, b8, u8⟩ := id k8
  obtain ⟨e9, b9, u9⟩ := id k9
  have f1 : (σ 0 15).toInt = (σ 72 1).toInt := by rw [e1]
  have f2 : (σ 14 5).toInt = (σ 72 2).toInt := by rw [e2]
  have f3 : (σ 1 6).toInt = (σ 72 8).toInt := by rw [e3]
  have f4 : (σ 0 16).toInt = (σ 72 0).toInt := by rw [e4]
  have f5 : (σ 55 7).toInt = (σ 72 22).toInt := by rw [e5]
  have f6 : (σ 14 6).toInt = (σ 72 23).toInt := by rw [e6]
  have f7 : (σ 0 17).toInt = (σ 72 24).toInt := by rw [e7]
  have f8 : (σ 0 13).toInt = (σ 72 25).toInt := by rw [e8]
  have f9 : (σ 46 1).toInt = (σ 72 28).toInt := by rw [e9]
  have l0 := ti0
  have l1 := ti1
  have l2 := ti2
  have l3 := ti3
  have l4 := ti4
  have l5 := ti5
  have l6 := ti6
  have l8 := ti8
  have l9 := ti9
  have l10 := ti10
  have l16 := ti16
  have l20 := ti20
  have l24 := ti24
  have l31 := ti31
  have l60 := ti60
  have l96 := ti96
  have l100 := ti100
  have l200 := ti200
  have l400 := ti400
  have l600 := ti600
  have l1200 := ti1200
  have l100000 := ti100000
  have lm1 := tim1
  have lB := tiB
  have lN := tiN
  rcases idx_of v1 (σ 72 8) with hb | ⟨c, rfl, hc, hc2⟩
  · refine en_X11_trade ?_
    try simp only [zwr_rne, zwr_req, upd_ne, upd_eq, ne_eq, Nat.reduceEqDiff, not_false_eq_true]
    refine c_hasC (fun g1 g1' => ?_) (fun g1 => ?_)
    · try simp only [zwr_rne, zwr_req, upd_ne, upd_eq, ne_eq, Nat.reduceEqDiff, not_false_eq_true] at g1
      try simp only [zwr_rne, zwr_req, upd_ne, upd_eq, ne_eq, Nat.reduceEqDiff, not_false_eq_true] at g1'
      try omega
      all_goals
       try simp only [one_ne, zero_eq, if_false, if_true, or_true, true_or, or_false, false_or]
       refine c_isWithin (fun g2 g2' => ?_) (fun g2 => ?_)
       · try simp only [zwr_rne, zwr_req, upd_ne, upd_eq, ne_eq, Nat.reduceEqDiff, not_false_eq_true] at g2
         try simp only [zwr_rne, zwr_req, upd_ne, upd_eq, ne_eq, Nat.reduceEqDiff, not_false_eq_true] at g2'
         try omega
         all_goals
          try simp only [one_ne, zero_eq, if_false, if_true, or_true, true_or, or_false, false_or]
          exfalso; omega
          try simp only [zwr_rne, zwr_req, upd_ne, upd_eq, ne_eq, Nat.reduceEqDiff, not_false_eq_true]
          refine zle (fun g3 => ?_) (fun g3 => ?_)
          · try simp only [zwr_rne, zwr_req, upd_ne, upd_eq, ne_eq, Nat.reduceEqDiff, not_false_eq_true] at g3
            try omega
            all_goals
             refine en_X12_trade ?_
             try simp only [zwr_rne, zwr_req, upd_ne, upd_eq, ne_eq, Nat.reduceEqDiff, not_false_eq_true]
             refine m_isClaim (by first | omega | (simp only [zwr_rne, zwr_req, upd_ne, upd_eq, ne_eq, Nat.reduceEqDiff, not_false_eq_true]; omega)) (fun g4 g4' => ?_) (fun g4 => ?_)
             · try simp only [zwr_rne, zwr_req, upd_ne, upd_eq, ne_eq, Nat.reduceEqDiff, not_false_eq_true] at g4
               try simp only [zwr_rne, zwr_req, upd_ne, upd_eq, ne_eq, Nat.reduceEqDiff, not_false_eq_true] at g4'
               try omega
               all_goals
                try simp only [one_ne, zero_eq, if_false, if_true, or_true, true_or, or_false, false_or]
                try simp only [zwr_rne, zwr_req, upd_ne, upd_eq, ne_eq, Nat.reduceEqDiff, not_false_eq_true]
                refine m_isIn (fun g5 g5' => ?_) (fun g5 => ?_)
                · try simp only [zwr_rne, zwr_req, upd_ne, upd_eq, ne_eq, Nat.reduceEqDiff, not_false_eq_true] at g5
                  try simp only [zwr_rne, zwr_req, upd_ne, upd_eq, ne_eq, Nat.reduceEqDiff, not_false_eq_true] at g5'
                  try omega
                  all_goals
                   try simp only [one_ne, zero_eq, if_false, if_true, or_true, true_or, or_false, false_or]
                   try simp only [zwr_rne, zwr_req, upd_ne, upd_eq, ne_eq, Nat.reduceEqDiff, not_false_eq_true]
                   exfalso; omega
                   try simp only [zwr_rne, zwr_req, upd_ne, upd_eq, ne_eq, Nat.reduceEqDiff, not_false_eq_true]
                   refine zle (fun g6 => ?_) (fun g6 => ?_)
                   · try simp only [zwr_rne, zwr_req, upd_ne, upd_eq, ne_eq, Nat.reduceEqDiff, not_false_eq_true] at g6
                     try omega
                     all_goals
                      try simp only [zwr_rne, zwr_req, upd_ne, upd_eq, ne_eq, Nat.reduceEqDiff, not_false_eq_true]
                      exact ⟨by first | rfl | trivial, hh⟩
                   · exfalso; (try simp only [zwr_rne, zwr_req, upd_ne, upd_eq, ne_eq, Nat.reduceEqDiff, not_false_eq_true] at g6); omega
                · exfalso; (try simp only [zwr_rne, zwr_req, upd_ne, upd_eq, ne_eq, Nat.reduceEqDiff, not_false_eq_true] at g5); omega
             · exfalso; (try simp only [zwr_rne, zwr_req, upd_ne, upd_eq, ne_eq, Nat.reduceEqDiff, not_false_eq_true] at g4); omega
          · try simp only [zwr_rne, zwr_req, upd_ne, upd_eq, ne_eq, Nat.reduceEqDiff, not_false_eq_true] at g3
            try omega
            all_goals
             refine zeq (fun g7 => ?_) (fun g7 => ?_)
             · try simp only [zwr_rne, zwr_req, upd_ne, upd_eq, ne_eq, Nat.reduceEqDiff, not_false_eq_true] at g7
               try omega
               all_goals
                refine en_X12_trade ?_
                try simp only [zwr_rne, zwr_req, upd_ne, upd_eq, ne_eq, Nat.reduceEqDiff, not_false_eq_true]
                refine m_isClaim (by first | omega | (simp only [zwr_rne, zwr_req, upd_ne, upd_eq, ne_eq, Nat.reduceEqDiff, not_false_eq_true]; omega)) (fun g8 g8' => ?_) (fun g8 => ?_)
                · try simp only [zwr_rne, zwr_req, upd_ne, upd_eq, ne_eq, Nat.reduceEqDiff, not_false_eq_true] at g8
                  try simp only [zwr_rne, zwr_req, upd_ne, upd_eq, ne_eq, Nat.reduceEqDiff, not_false_eq_true] at g8'
                  try omega
                  all_goals
                   try simp only [one_ne, zero_eq, if_false, if_true, or_true, true_or, or_false, false_or]
                   try simp only [zwr_rne, zwr_req, upd_ne, upd_eq, ne_eq, Nat.reduceEqDiff, not_false_eq_true]
                   refine m_isIn (fun g9 g9' => ?_) (fun g9 => ?_)
                   · try simp only [zwr_rne, zwr_req, upd_ne, upd_eq, ne_eq, Nat.reduceEqDiff, not_false_eq_true] at g9
                     try simp only [zwr_rne, zwr_req, upd_ne, upd_eq, ne_eq, Nat.reduceEqDiff, not_false_eq_true] at g9'
                     try omega
                     all_goals
                      try simp only [one_ne, zero_eq, if_false, if_true, or_true, true_or, or_false, false_or]
                      try simp only [zwr_rne, zwr_req, upd_ne, upd_eq, ne_eq, Nat.reduceEqDiff, not_false_eq_true]
                      exfalso; omega
                      try simp only [zwr_rne, zwr_req, upd_ne, upd_eq, ne_eq, Nat.reduceEqDiff, not_false_eq_true]
                      refine zle (fun g10 => ?_) (fun g10 => ?_)
                      · exfalso; (try simp only [zwr_rne, zwr_req, upd_ne, upd_eq, ne_eq, Nat.reduceEqDiff, not_false_eq_true] at g10); omega
                      · try simp only [zwr_rne, zwr_req, upd_ne, upd_eq, ne_eq, Nat.reduceEqDiff, not_false_eq_true] at g10
                        try omega
                        all_goals
                         try simp only [zwr_rne, zwr_req, upd_ne, upd_eq, ne_eq, Nat.reduceEqDiff, not_false_eq_true]
                         refine zeq (fun g11 => ?_) (fun g11 => ?_)
                         · try simp only [zwr_rne, zwr_req, upd_ne, upd_eq, ne_eq, Nat.reduceEqDiff, not_false_eq_true] at g11
                           try omega
                           all_goals
                            try simp only [zwr_rne, zwr_req, upd_ne, upd_eq, ne_eq, Nat.reduceEqDiff, not_false_eq_true]
                            exact ⟨by first | rfl | trivial, hh⟩
                         · exfalso; (try simp only [zwr_rne, zwr_req, upd_ne, upd_eq, ne_eq, Nat.reduceEqDiff, not_false_eq_true] at g11); omega
                   · exfalso; (try simp only [zwr_rne, zwr_req, upd_ne, upd_eq, ne_eq, Nat.reduceEqDiff, not_false_eq_true] at g9); omega
                · exfalso; (try simp only [zwr_rne, zwr_req, upd_ne, upd_eq, ne_eq, Nat.reduceEqDiff, not_false_eq_true] at g8); omega
             · try simp only [zwr_rne, zwr_req, upd_ne, upd_eq, ne_eq, Nat.reduceEqDiff, not_false_eq_true] at g7
               try omega
               all_goals
                exfalso; omega
                try simp only [zwr_rne, zwr_req, upd_ne, upd_eq, ne_eq, Nat.reduceEqDiff, not_false_eq_true]
                refine zeq (fun g12 => ?_) (fun g12 => ?_)
                · try simp only [zwr_rne, zwr_req, upd_ne, upd_eq, ne_eq, Nat.reduceEqDiff, not_false_eq_true] at g12
                  try omega
                  all_goals
                   exfalso; omega
                   try simp only [zwr_rne, zwr_req, upd_ne, upd_eq, ne_eq, Nat.reduceEqDiff, not_false_eq_true]
                   refine ⟨by first | assumption | exact vin (by omega) | exact vp_in_I.mpr (by omega), ?_⟩
                   rintro _ rfl
                   try simp only [zwr_rne, zwr_req, upd_ne, upd_eq, ne_eq, Nat.reduceEqDiff, not_false_eq_true]
                   refine c_changed ?_
                   try simp only [zwr_rne, zwr_req, upd_ne, upd_eq, ne_eq, Nat.reduceEqDiff, not_false_eq_true]
                   refine en_X12_trade ?_
                   try simp only [zwr_rne, zwr_req, upd_ne, upd_eq, ne_eq, Nat.reduceEqDiff, not_false_eq_true]
                   refine m_isClaim (by first | omega | (simp only [zwr_rne, zwr_req, upd_ne, upd_eq, ne_eq, Nat.reduceEqDiff, not_false_eq_true]; omega)) (fun g13 g13' => ?_) (fun g13 => ?_)
                   · try simp only [zwr_rne, zwr_req, upd_ne, upd_eq, ne_eq, Nat.reduceEqDiff, not_false_eq_true] at g13
                     try simp only [zwr_rne, zwr_req, upd_ne, upd_eq, ne_eq, Nat.reduceEqDiff, not_false_eq_true] at g13'
                     try omega
                     all_goals
                      try simp only [one_ne, zero_eq, if_false, if_true, or_true, true_or, or_false, false_or]
                      try simp only [zwr_rne, zwr_req, upd_ne, upd_eq, ne_eq, Nat.reduceEqDiff, not_false_eq_true]
                      refine m_isIn (fun g14 g14' => ?_) (fun g14 => ?_)
                      · try simp only [zwr_rne, zwr_req, upd_ne, upd_eq, ne_eq, Nat.reduceEqDiff, not_false_eq_true] at g14
                        try simp only [zwr_rne, zwr_req, upd_ne, upd_eq, ne_eq, Nat.reduceEqDiff, not_false_eq_true] at g14'
                        try omega
                        all_goals
                         try simp only [one_ne, zero_eq, if_false, if_true, or_true, true_or, or_false, false_or]
                         try simp only [zwr_rne, zwr_req, upd_ne, upd_eq, ne_eq, Nat.reduceEqDiff, not_false_eq_true]
                         exfalso; omega
                         try simp only [zwr_rne, zwr_req, upd_ne, upd_eq, ne_eq, Nat.reduceEqDiff, not_false_eq_true]
                         refine zle (fun g15 => ?_) (fun g15 => ?_)
                         · exfalso; (try simp only [zwr_rne, zwr_req, upd_ne, upd_eq, ne_eq, Nat.reduceEqDiff, not_false_eq_true] at g15); omega
                         · try simp only [zwr_rne, zwr_req, upd_ne, upd_eq, ne_eq, Nat.reduceEqDiff, not_false_eq_true] at g15
                           try omega
                           all_goals
                            try simp only [zwr_rne, zwr_req, upd_ne, upd_eq, ne_eq, Nat.reduceEqDiff, not_false_eq_true]
                            refine zeq (fun g16 => ?_) (fun g16 => ?_)
                            · exfalso; (try simp only [zwr_rne, zwr_req, upd_ne, upd_eq, ne_eq, Nat.reduceEqDiff, not_false_eq_true] at g16); omega
                            · try simp only [zwr_rne, zwr_req, upd_ne, upd_eq, ne_eq, Nat.reduceEqDiff, not_false_eq_true] at g16
                              try omega
                              all_goals
                               try simp only [zwr_rne, zwr_req, upd_ne, upd_eq, ne_eq, Nat.reduceEqDiff, not_false_eq_true]
                               refine ⟨by first | assumption | exact vin (by omega) | exact vp_in_I.mpr (by omega), ?_⟩
                               refine zeq (fun g17 => ?_) (fun g17 => ?_)
                               · try simp only [zwr_rne, zwr_req, upd_ne, upd_eq, ne_eq, Nat.reduceEqDiff, not_false_eq_true] at g17
                                 try omega
                                 all_goals
                                  try simp only [zwr_rne, zwr_req, upd_ne, upd_eq, ne_eq, Nat.reduceEqDiff, not_false_eq_true]
                                  exact ⟨by first | rfl | trivial, hh⟩
                               · try simp only [zwr_rne, zwr_req, upd_ne, upd_eq, ne_eq, Nat.reduceEqDiff, not_false_eq_true] at g17
                                 try omega
                                 all_goals
                                  try simp only [zwr_rne, zwr_req, upd_ne, upd_eq, ne_eq, Nat.reduceEqDiff, not_false_eq_true]
                                  refine ⟨by first | assumption | exact vin (by omega) | exact vp_in_I.mpr (by omega), ?_⟩
                                  refine ⟨by first | assumption | exact vin (by omega) | exact vp_in_I.mpr (by omega), ?_⟩
                                  rintro _ rfl
                                  try simp only [zwr_rne, zwr_req, upd_ne, upd_eq, ne_eq, Nat.reduceEqDiff, not_false_eq_true]
                                  refine ⟨by first | assumption | exact vin (by omega) | exact vp_in_I.mpr (by omega), ?_⟩
                                  refine ⟨by first | assumption | exact vin (by omega) | exact vp_in_I.mpr (by omega), ?_⟩
                                  rintro _ rfl
                                  try simp only [zwr_rne, zwr_req, upd_ne, upd_eq, ne_eq, Nat.reduceEqDiff, not_false_eq_true]
                                  refine ⟨by first | assumption | exact vin (by omega) | exact vp_in_I.mpr (by omega), ?_⟩
                                  refine ⟨by first | assumption | exact vin (by omega) | exact vp_in_I.mpr (by omega), ?_⟩
                                  rintro _ rfl
                                  try simp only [zwr_rne, zwr_req, upd_ne, upd_eq, ne_eq, Nat.reduceEqDiff, not_false_eq_true]
                                  refine ⟨by first | assumption | exact vin (by omega) | exact vp_in_I.mpr (by omega), ?_⟩
                                  rintro _ rfl
                                  try simp only [zwr_rne, zwr_req, upd_ne, upd_eq, ne_eq, Nat.reduceEqDiff, not_false_eq_true]
                                  exact ⟨by first | rfl | trivial, hh⟩
                      · exfalso; (try simp only [zwr_rne, zwr_req, upd_ne, upd_eq, ne_eq, Nat.reduceEqDiff, not_false_eq_true] at g14); omega
                   · exfalso; (try simp only [zwr_rne, zwr_req, upd_ne, upd_eq, ne_eq, Nat.reduceEqDiff, not_false_eq_true] at g13); omega
                · try simp only [zwr_rne, zwr_req, upd_ne, upd_eq, ne_eq, Nat.reduceEqDiff, not_false_eq_true] at g12
                  try omega
                  all_goals
                   refine en_X12_trade ?_
                   try simp only [zwr_rne, zwr_req, upd_ne, upd_eq, ne_eq, Nat.reduceEqDiff, not_false_eq_true]
                   refine m_isClaim (by first | omega | (simp only [zwr_rne, zwr_req, upd_ne, upd_eq, ne_eq, Nat.reduceEqDiff, not_false_eq_true]; omega)) (fun g18 g18' => ?_) (fun g18 => ?_)
                   · try simp only [zwr_rne, zwr_req, upd_ne, upd_eq, ne_eq, Nat.reduceEqDiff, not_false_eq_true] at g18
                     try simp only [zwr_rne, zwr_req, upd_ne, upd_eq, ne_eq, Nat.reduceEqDiff, not_false_eq_true] at g18'
                     try omega
                     all_goals
                      try simp only [one_ne, zero_eq, if_false, if_true, or_true, true_or, or_false, false_or]
                      try simp only [zwr_rne, zwr_req, upd_ne, upd_eq, ne_eq, Nat.reduceEqDiff, not_false_eq_true]
                      refine m_isIn (fun g19 g19' => ?_) (fun g19 => ?_)
                      · try simp only [zwr_rne, zwr_req, upd_ne, upd_eq, ne_eq, Nat.reduceEqDiff, not_false_eq_true] at g19
                        try simp only [zwr_rne, zwr_req, upd_ne, upd_eq, ne_eq, Nat.reduceEqDiff, not_false_eq_true] at g19'
                        try omega
                        all_goals
                         try simp only [one_ne, zero_eq, if_false, if_true, or_true, true_or, or_false, false_or]
                         try simp only [zwr_rne, zwr_req, upd_ne, upd_eq, ne_eq, Nat.reduceEqDiff, not_false_eq_true]
                         exfalso; omega
                         try simp only [zwr_rne, zwr_req, upd_ne, upd_eq, ne_eq, Nat.reduceEqDiff, not_false_eq_true]
                         refine zle (fun g20 => ?_) (fun g20 => ?_)
                         · exfalso; (try simp only [zwr_rne, zwr_req, upd_ne, upd_eq, ne_eq, Nat.reduceEqDiff, not_false_eq_true] at g20); omega
                         · try simp only [zwr_rne, zwr_req, upd_ne, upd_eq, ne_eq, Nat.reduceEqDiff, not_false_eq_true] at g20
                           try omega
                           all_goals
                            try simp only [zwr_rne, zwr_req, upd_ne, upd_eq, ne_eq, Nat.reduceEqDiff, not_false_eq_true]
                            refine zeq (fun g21 => ?_) (fun g21 => ?_)
                            · exfalso; (try simp only [zwr_rne, zwr_req, upd_ne, upd_eq, ne_eq, Nat.reduceEqDiff, not_false_eq_true] at g21); omega
                            · try simp only [zwr_rne, zwr_req, upd_ne, upd_eq, ne_eq, Nat.reduceEqDiff, not_false_eq_true] at g21
                              try omega
                              all_goals
                               try simp only [zwr_rne, zwr_req, upd_ne, upd_eq, ne_eq, Nat.reduceEqDiff, not_false_eq_true]
                               refine ⟨by first | assumption | exact vin (by omega) | exact vp_in_I.mpr (by omega), ?_⟩
                               refine zeq (fun g22 => ?_) (fun g22 => ?_)
                               · try simp only [zwr_rne, zwr_req, upd_ne, upd_eq, ne_eq, Nat.reduceEqDiff, not_false_eq_true] at g22
                                 try omega
                                 all_goals
                                  try simp only [zwr_rne, zwr_req, upd_ne, upd_eq, ne_eq, Nat.reduceEqDiff, not_false_eq_true]
                                  exact ⟨by first | rfl | trivial, hh⟩
                               · try simp only [zwr_rne, zwr_req, upd_ne, upd_eq, ne_eq, Nat.reduceEqDiff, not_false_eq_true] at g22
                                 try omega
                                 all_goals
                                  try simp only [zwr_rne, zwr_req, upd_ne, upd_eq, ne_eq, Nat.reduceEqDiff, not_false_eq_true]
                                  refine ⟨by first | assumption | exact vin (by omega) | exact vp_in_I.mpr (by omega), ?_⟩
                                  refine ⟨by first | assumption | exact vin (by omega) | exact vp_in_I.mpr (by omega), ?_⟩
                                  rintro _ rfl
                                  try simp only [zwr_rne, zwr_req, upd_ne, upd_eq, ne_eq, Nat.reduceEqDiff, not_false_eq_true]
                                  refine ⟨by first | assumption | exact vin (by omega) | exact vp_in_I.mpr (by omega), ?_⟩
                                  refine ⟨by first | assumption | exact vin (by omega) | exact vp_in_I.mpr (by omega), ?_⟩
                                  rintro _ rfl
                                  try simp only [zwr_rne, zwr_req, upd_ne, upd_eq, ne_eq, Nat.reduceEqDiff, not_false_eq_true]
                                  refine ⟨by first | assumption | exact vin (by omega) | exact vp_in_I.mpr (by omega), ?_⟩
                                  refine ⟨by first | assumption | exact vin (by omega) | exact vp_in_I.mpr (by omega), ?_⟩
                                  rintro _ rfl
                                  try simp only [zwr_rne, zwr_req, upd_ne, upd_eq, ne_eq, Nat.reduceEqDiff, not_false_eq_true]
                                  refine ⟨by first | assumption | exact vin (by omega) | exact vp_in_I.mpr (by omega), ?_⟩
                                  rintro _ rfl
                                  try simp only [zwr_rne, zwr_req, upd_ne, upd_eq, ne_eq, Nat.reduceEqDiff, not_false_eq_true]
                                  exact ⟨by first | rfl | trivial, hh⟩
                      · exfalso; (try simp only [zwr_rne, zwr_req, upd_ne, upd_eq, ne_eq, Nat.reduceEqDiff, not_false_eq_true] at g19); omega
                   · exfalso; (try simp only [zwr_rne, zwr_req, upd_ne, upd_eq, ne_eq, Nat.reduceEqDiff, not_false_eq_true] at g18); omega
       · try simp only [zwr_rne, zwr_req, upd_ne, upd_eq, ne_eq, Nat.reduceEqDiff, not_false_eq_true] at g2
         try omega
         all_goals
          try simp only [one_ne, zero_eq, if_false, if_true, or_true, true_or, or_false, false_or]
          refine en_X12_trade ?_
          try simp only [zwr_rne, zwr_req, upd_ne, upd_eq, ne_eq, Nat.reduceEqDiff, not_false_eq_true]
          refine m_isClaim (by first | omega | (simp only [zwr_rne, zwr_req, upd_ne, upd_eq, ne_eq, Nat.reduceEqDiff, not_false_eq_true]; omega)) (fun g23 g23' => ?_) (fun g23 => ?_)
          · try simp only [zwr_rne, zwr_req, upd_ne, upd_eq, ne_eq, Nat.reduceEqDiff, not_false_eq_true] at g23
            try simp only [zwr_rne, zwr_req, upd_ne, upd_eq, ne_eq, Nat.reduceEqDiff, not_false_eq_true] at g23'
            try omega
            all_goals
             try simp only [one_ne, zero_eq, if_false, if_true, or_true, true_or, or_false, false_or]
             try simp only [zwr_rne, zwr_req, upd_ne, upd_eq, ne_eq, Nat.reduceEqDiff, not_false_eq_true]
             refine m_isIn (fun g24 g24' => ?_) (fun g24 => ?_)
             · exfalso; (try simp only [zwr_rne, zwr_req, upd_ne, upd_eq, ne_eq, Nat.reduceEqDiff, not_false_eq_true] at g24); (try simp only [zwr_rne, zwr_req, upd_ne, upd_eq, ne_eq, Nat.reduceEqDiff, not_false_eq_true] at g24'); omega
             · try simp only [zwr_rne, zwr_req, upd_ne, upd_eq, ne_eq, Nat.reduceEqDiff, not_false_eq_true] at g24
               try omega
               all_goals
                try simp only [one_ne, zero_eq, if_false, if_true, or_true, true_or, or_false, false_or]
                try simp only [zwr_rne, zwr_req, upd_ne, upd_eq, ne_eq, Nat.reduceEqDiff, not_false_eq_true]
                exact ⟨by first | rfl | trivial, hh⟩
          · exfalso; (try simp only [zwr_rne, zwr_req, upd_ne, upd_eq, ne_eq, Nat.reduceEqDiff, not_false_eq_true] at g23); omega
    · try simp only [zwr_rne, zwr_req, upd_ne, upd_eq, ne_eq, Nat.reduceEqDiff, not_false_eq_true] at g1
      try omega
      all_goals
       try simp only [one_ne, zero_eq, if_false, if_true, or_true, true_or, or_false, false_or]
       refine en_X12_trade ?_
       try simp only [zwr_rne, zwr_req, upd_ne, upd_eq, ne_eq, Nat.reduceEqDiff, not_false_eq_true]
       refine m_isClaim (by first | omega | (simp only [zwr_rne, zwr_req, upd_ne, upd_eq, ne_eq, Nat.reduceEqDiff, not_false_eq_true]; omega)) (fun g25 g25' => ?_) (fun g25 => ?_)
       · exfalso; (try simp only [zwr_rne, zwr_req, upd_ne, upd_eq, ne_eq, Nat.reduceEqDiff, not_false_eq_true] at g25); (try simp only [zwr_rne, zwr_req, upd_ne, upd_eq, ne_eq, Nat.reduceEqDiff, not_false_eq_true] at g25'); omega
       · try simp only [zwr_rne, zwr_req, upd_ne, upd_eq, ne_eq, Nat.reduceEqDiff, not_false_eq_true] at g25
         try omega
         all_goals
          try simp only [one_ne, zero_eq, if_false, if_true, or_true, true_or, or_false, false_or]
          try simp only [zwr_rne, zwr_req, upd_ne, upd_eq, ne_eq, Nat.reduceEqDiff, not_false_eq_true]
          exact ⟨by first | rfl | trivial, hh⟩
  · have tc := tin hc2
    have cc : (nI c).toNatClampNeg = c := cln hc2
    have vc : vp_in (nI c) 24 := vin (by omega)
    obtain ⟨a1, a2, a3, a4⟩ := kda.1 c hc
    obtain ⟨h1, h2, h3, h4⟩ := kdh.1 c hc
    obtain ⟨q1, q2, q3, q4, q5, q6, q7, q8, q9, q10, q11, q12⟩ := kcl.1 c hc
    obtain ⟨p1, p2, p3, p4, p5, p6⟩ := kpl.1 c hc
    have fq1 : (σ 2 c).toInt = (σ 78 c).toInt := by rw [q1]
    have fq2 : (σ 3 c).toInt = (σ 79 c).toInt := by rw [q2]
    obtain ⟨w, w1, w2, w3, w4, w5⟩ := kdh.get hc
    have tw : (nI w).toInt = (w : Int) := tin (by omega)
    have tw1 : (nI (w + 1)).toInt = (w : Int) + 1 := by rw [tin (by omega)]; simp
    by_cases hw8 : w < 8
    · have cw : (nI (9 * c + (w + 1))).toNatClampNeg = 9 * c + (w + 1) := cln (by omega)
      have vw : vp_in (nI (9 * c + (w + 1))) 216 := vin (by omega)
      refine en_X11_trade ?_
      try simp only [zwr_rne, zwr_req, upd_ne, upd_eq, ne_eq, Nat.reduceEqDiff, not_false_eq_true, cc, e4, w2, w3, ix9, ix9', nI_1, cw]
      refine c_hasC (fun g1 g1' => ?_) (fun g1 => ?_)
      · try simp only [zwr_rne, zwr_req, upd_ne, upd_eq, ne_eq, Nat.reduceEqDiff, not_false_eq_true, cc, e4, w2, w3, ix9, ix9', nI_1, cw] at g1
        try simp only [zwr_rne, zwr_req, upd_ne, upd_eq, ne_eq, Nat.reduceEqDiff, not_false_eq_true, cc, e4, w2, w3, ix9, ix9', nI_1, cw] at g1'
        try omega
        all_goals
         try simp only [one_ne, zero_eq, if_false, if_true, or_true, true_or, or_false, false_or]
         refine c_isWithin (fun g2 g2' => ?_) (fun g2 => ?_)
         · try simp only [zwr_rne, zwr_req, upd_ne, upd_eq, ne_eq, Nat.reduceEqDiff, not_false_eq_true, cc, e4, w2, w3, ix9, ix9', nI_1, cw] at g2
           try simp only [zwr_rne, zwr_req, upd_ne, upd_eq, ne_eq, Nat.reduceEqDiff, not_false_eq_true, cc, e4, w2, w3, ix9, ix9', nI_1, cw] at g2'
           try omega
           all_goals
            try simp only [one_ne, zero_eq, if_false, if_true, or_true, true_or, or_false, false_or]
            refine cr_holderOn kdh hc u3 ?_
            try simp only [zwr_rne, zwr_req, upd_ne, upd_eq, ne_eq, Nat.reduceEqDiff, not_false_eq_true, cc, e4, w2, w3, ix9, ix9', nI_1, cw]
            refine zle (fun g3 => ?_) (fun g3 => ?_)
            · try simp only [zwr_rne, zwr_req, upd_ne, upd_eq, ne_eq, Nat.reduceEqDiff, not_false_eq_true, cc, e4, w2, w3, ix9, ix9', nI_1, cw] at g3
              try omega
              all_goals
               refine en_X12_trade ?_
               try simp only [zwr_rne, zwr_req, upd_ne, upd_eq, ne_eq, Nat.reduceEqDiff, not_false_eq_true, cc, e4, w2, w3, ix9, ix9', nI_1, cw]
               refine m_isClaim (by first | omega | (simp only [zwr_rne, zwr_req, upd_ne, upd_eq, ne_eq, Nat.reduceEqDiff, not_false_eq_true, cc, e4, w2, w3, ix9, ix9', nI_1, cw]; omega)) (fun g4 g4' => ?_) (fun g4 => ?_)
               · try simp only [zwr_rne, zwr_req, upd_ne, upd_eq, ne_eq, Nat.reduceEqDiff, not_false_eq_true, cc, e4, w2, w3, ix9, ix9', nI_1, cw] at g4
                 try simp only [zwr_rne, zwr_req, upd_ne, upd_eq, ne_eq, Nat.reduceEqDiff, not_false_eq_true, cc, e4, w2, w3, ix9, ix9', nI_1, cw] at g4'
                 try omega
                 all_goals
                  try simp only [one_ne, zero_eq, if_false, if_true, or_true, true_or, or_false, false_or]
                  try simp only [zwr_rne, zwr_req, upd_ne, upd_eq, ne_eq, Nat.reduceEqDiff, not_false_eq_true, cc, e4, w2, w3, ix9, ix9', nI_1, cw]
                  refine m_isIn (fun g5 g5' => ?_) (fun g5 => ?_)
                  · try simp only [zwr_rne, zwr_req, upd_ne, upd_eq, ne_eq, Nat.reduceEqDiff, not_false_eq_true, cc, e4, w2, w3, ix9, ix9', nI_1, cw] at g5
                    try simp only [zwr_rne, zwr_req, upd_ne, upd_eq, ne_eq, Nat.reduceEqDiff, not_false_eq_true, cc, e4, w2, w3, ix9, ix9', nI_1, cw] at g5'
                    try omega
                    all_goals
                     try simp only [one_ne, zero_eq, if_false, if_true, or_true, true_or, or_false, false_or]
                     try simp only [zwr_rne, zwr_req, upd_ne, upd_eq, ne_eq, Nat.reduceEqDiff, not_false_eq_true, cc, e4, w2, w3, ix9, ix9', nI_1, cw]
                     refine mr_holderOn hc u3 h2 h3 ?_
                     try simp only [zwr_rne, zwr_req, upd_ne, upd_eq, ne_eq, Nat.reduceEqDiff, not_false_eq_true, cc, e4, w2, w3, ix9, ix9', nI_1, cw]
                     refine zle (fun g6 => ?_) (fun g6 => ?_)
                     · try simp only [zwr_rne, zwr_req, upd_ne, upd_eq, ne_eq, Nat.reduceEqDiff, not_false_eq_true, cc, e4, w2, w3, ix9, ix9', nI_1, cw] at g6
                       try omega
                       all_goals
                        try simp only [zwr_rne, zwr_req, upd_ne, upd_eq, ne_eq, Nat.reduceEqDiff, not_false_eq_true, cc, e4, w2, w3, ix9, ix9', nI_1, cw]
                        exact ⟨by first | rfl | trivial, hh⟩
                     · exfalso; (try simp only [zwr_rne, zwr_req, upd_ne, upd_eq, ne_eq, Nat.reduceEqDiff, not_false_eq_true, cc, e4, w2, w3, ix9, ix9', nI_1, cw] at g6); omega
                  · exfalso; (try simp only [zwr_rne, zwr_req, upd_ne, upd_eq, ne_eq, Nat.reduceEqDiff, not_false_eq_true, cc, e4, w2, w3, ix9, ix9', nI_1, cw] at g5); omega
               · exfalso; (try simp only [zwr_rne, zwr_req, upd_ne, upd_eq, ne_eq, Nat.reduceEqDiff, not_false_eq_true, cc, e4, w2, w3, ix9, ix9', nI_1, cw] at g4); omega
            · try simp only [zwr_rne, zwr_req, upd_ne, upd_eq, ne_eq, Nat.reduceEqDiff, not_false_eq_true, cc, e4, w2, w3, ix9, ix9', nI_1, cw] at g3
              try omega
              all_goals
               refine zeq (fun g7 => ?_) (fun g7 => ?_)
               · try simp only [zwr_rne, zwr_req, upd_ne, upd_eq, ne_eq, Nat.reduceEqDiff, not_false_eq_true, cc, e4, w2, w3, ix9, ix9', nI_1, cw] at g7
                 try omega
                 all_goals
                  refine en_X12_trade ?_
                  try simp only [zwr_rne, zwr_req, upd_ne, upd_eq, ne_eq, Nat.reduceEqDiff, not_false_eq_true, cc, e4, w2, w3, ix9, ix9', nI_1, cw]
                  refine m_isClaim (by first | omega | (simp only [zwr_rne, zwr_req, upd_ne, upd_eq, ne_eq, Nat.reduceEqDiff, not_false_eq_true, cc, e4, w2, w3, ix9, ix9', nI_1, cw]; omega)) (fun g8 g8' => ?_) (fun g8 => ?_)
                  · try simp only [zwr_rne, zwr_req, upd_ne, upd_eq, ne_eq, Nat.reduceEqDiff, not_false_eq_true, cc, e4, w2, w3, ix9, ix9', nI_1, cw] at g8
                    try simp only [zwr_rne, zwr_req, upd_ne, upd_eq, ne_eq, Nat.reduceEqDiff, not_false_eq_true, cc, e4, w2, w3, ix9, ix9', nI_1, cw] at g8'
                    try omega
                    all_goals
                     try simp only [one_ne, zero_eq, if_false, if_true, or_true, true_or, or_false, false_or]
                     try simp only [zwr_rne, zwr_req, upd_ne, upd_eq, ne_eq, Nat.reduceEqDiff, not_false_eq_true, cc, e4, w2, w3, ix9, ix9', nI_1, cw]
                     refine m_isIn (fun g9 g9' => ?_) (fun g9 => ?_)
                     · try simp only [zwr_rne, zwr_req, upd_ne, upd_eq, ne_eq, Nat.reduceEqDiff, not_false_eq_true, cc, e4, w2, w3, ix9, ix9', nI_1, cw] at g9
                       try simp only [zwr_rne, zwr_req, upd_ne, upd_eq, ne_eq, Nat.reduceEqDiff, not_false_eq_true, cc, e4, w2, w3, ix9, ix9', nI_1, cw] at g9'
                       try omega
                       all_goals
                        try simp only [one_ne, zero_eq, if_false, if_true, or_true, true_or, or_false, false_or]
                        try simp only [zwr_rne, zwr_req, upd_ne, upd_eq, ne_eq, Nat.reduceEqDiff, not_false_eq_true, cc, e4, w2, w3, ix9, ix9', nI_1, cw]
                        refine mr_holderOn hc u3 h2 h3 ?_
                        try simp only [zwr_rne, zwr_req, upd_ne, upd_eq, ne_eq, Nat.reduceEqDiff, not_false_eq_true, cc, e4, w2, w3, ix9, ix9', nI_1, cw]
                        refine zle (fun g10 => ?_) (fun g10 => ?_)
                        · exfalso; (try simp only [zwr_rne, zwr_req, upd_ne, upd_eq, ne_eq, Nat.reduceEqDiff, not_false_eq_true, cc, e4, w2, w3, ix9, ix9', nI_1, cw] at g10); omega
                        · try simp only [zwr_rne, zwr_req, upd_ne, upd_eq, ne_eq, Nat.reduceEqDiff, not_false_eq_true, cc, e4, w2, w3, ix9, ix9', nI_1, cw] at g10
                          try omega
                          all_goals
                           try simp only [zwr_rne, zwr_req, upd_ne, upd_eq, ne_eq, Nat.reduceEqDiff, not_false_eq_true, cc, e4, w2, w3, ix9, ix9', nI_1, cw]
                           refine zeq (fun g11 => ?_) (fun g11 => ?_)
                           · try simp only [zwr_rne, zwr_req, upd_ne, upd_eq, ne_eq, Nat.reduceEqDiff, not_false_eq_true, cc, e4, w2, w3, ix9, ix9', nI_1, cw] at g11
                             try omega
                             all_goals
                              try simp only [zwr_rne, zwr_req, upd_ne, upd_eq, ne_eq, Nat.reduceEqDiff, not_false_eq_true, cc, e4, w2, w3, ix9, ix9', nI_1, cw]
                              exact ⟨by first | rfl | trivial, hh⟩
                           · exfalso; (try simp only [zwr_rne, zwr_req, upd_ne, upd_eq, ne_eq, Nat.reduceEqDiff, not_false_eq_true, cc, e4, w2, w3, ix9, ix9', nI_1, cw] at g11); omega
                     · exfalso; (try simp only [zwr_rne, zwr_req, upd_ne, upd_eq, ne_eq, Nat.reduceEqDiff, not_false_eq_true, cc, e4, w2, w3, ix9, ix9', nI_1, cw] at g9); omega
                  · exfalso; (try simp only [zwr_rne, zwr_req, upd_ne, upd_eq, ne_eq, Nat.reduceEqDiff, not_false_eq_true, cc, e4, w2, w3, ix9, ix9', nI_1, cw] at g8); omega
               · try simp only [zwr_rne, zwr_req, upd_ne, upd_eq, ne_eq, Nat.reduceEqDiff, not_false_eq_true, cc, e4, w2, w3, ix9, ix9', nI_1, cw] at g7
                 try omega
                 all_goals
                  refine en_X3_isFull_i10 ?_
                  try simp only [zwr_rne, zwr_req, upd_ne, upd_eq, ne_eq, Nat.reduceEqDiff, not_false_eq_true, cc, e4, w2, w3, ix9, ix9', nI_1, cw]
                  refine ⟨by first | assumption | exact vin (by omega) | exact vp_in_I.mpr (by omega), ?_⟩
                  refine zlt (fun g12 => ?_) (fun g12 => ?_)
                  · try simp only [zwr_rne, zwr_req, upd_ne, upd_eq, ne_eq, Nat.reduceEqDiff, not_false_eq_true, cc, e4, w2, w3, ix9, ix9', nI_1, cw] at g12
                    try omega
                    all_goals
                     try simp only [one_ne, zero_eq, if_false, if_true, or_true, true_or, or_false, false_or]
                     try simp only [zwr_rne, zwr_req, upd_ne, upd_eq, ne_eq, Nat.reduceEqDiff, not_false_eq_true, cc, e4, w2, w3, ix9, ix9', nI_1, cw]
                     refine en_X3_write_i10 ?_
                     try simp only [zwr_rne, zwr_req, upd_ne, upd_eq, ne_eq, Nat.reduceEqDiff, not_false_eq_true, cc, e4, w2, w3, ix9, ix9', nI_1, cw]
                     refine en_X3_isFull_i10 ?_
                     try simp only [zwr_rne, zwr_req, upd_ne, upd_eq, ne_eq, Nat.reduceEqDiff, not_false_eq_true, cc, e4, w2, w3, ix9, ix9', nI_1, cw]
                     refine ⟨by first | assumption | exact vin (by omega) | exact vp_in_I.mpr (by omega), ?_⟩
                     refine zlt (fun g13 => ?_) (fun g13 => ?_)
                     · try simp only [zwr_rne, zwr_req, upd_ne, upd_eq, ne_eq, Nat.reduceEqDiff, not_false_eq_true, cc, e4, w2, w3, ix9, ix9', nI_1, cw] at g13
                       try omega
                       all_goals
                        try simp only [one_ne, zero_eq, if_false, if_true, or_true, true_or, or_false, false_or]
                        try simp only [zwr_rne, zwr_req, upd_ne, upd_eq, ne_eq, Nat.reduceEqDiff, not_false_eq_true, cc, e4, w2, w3, ix9, ix9', nI_1, cw]
                        refine ⟨by first | assumption | exact vin (by omega) | exact vp_in_I.mpr (by omega), ?_⟩
                        refine ⟨by first | assumption | exact vin (by omega) | exact vp_in_I.mpr (by omega), ?_⟩
                        rintro _ rfl
                        try simp only [zwr_rne, zwr_req, upd_ne, upd_eq, ne_eq, Nat.reduceEqDiff, not_false_eq_true, cc, e4, w2, w3, ix9, ix9', nI_1, cw]
                        refine ⟨by first | assumption | exact vin (by omega) | exact vp_in_I.mpr (by omega), ?_⟩
                        rintro _ rfl
                        try simp only [zwr_rne, zwr_req, upd_ne, upd_eq, ne_eq, Nat.reduceEqDiff, not_false_eq_true, cc, e4, w2, w3, ix9, ix9', nI_1, cw]
                        refine ⟨by first | assumption | exact vin (by omega) | exact vp_in_I.mpr (by omega), ?_⟩
                        refine ⟨by first | assumption | exact vin (by omega) | exact vp_in_I.mpr (by omega), ?_⟩
                        rintro _ rfl
                        try simp only [zwr_rne, zwr_req, upd_ne, upd_eq, ne_eq, Nat.reduceEqDiff, not_false_eq_true, cc, e4, w2, w3, ix9, ix9', nI_1, cw]
                        try simp only [zwr_rne, zwr_req, upd_ne, upd_eq, ne_eq, Nat.reduceEqDiff, not_false_eq_true, cc, e4, w2, w3, ix9, ix9', nI_1, cw]
                        refine ⟨by first | assumption | exact vin (by omega) | exact vp_in_I.mpr (by omega), ?_⟩
                        rintro _ rfl
                        try simp only [zwr_rne, zwr_req, upd_ne, upd_eq, ne_eq, Nat.reduceEqDiff, not_false_eq_true, cc, e4, w2, w3, ix9, ix9', nI_1, cw]
                        refine c_changed ?_
                        try simp only [zwr_rne, zwr_req, upd_ne, upd_eq, ne_eq, Nat.reduceEqDiff, not_false_eq_true, cc, e4, w2, w3, ix9, ix9', nI_1, cw]
                        refine en_X12_trade ?_
                        try simp only [zwr_rne, zwr_req, upd_ne, upd_eq, ne_eq, Nat.reduceEqDiff, not_false_eq_true, cc, e4, w2, w3, ix9, ix9', nI_1, cw]
                        refine m_isClaim (by first | omega | (simp only [zwr_rne, zwr_req, upd_ne, upd_eq, ne_eq, Nat.reduceEqDiff, not_false_eq_true, cc, e4, w2, w3, ix9, ix9', nI_1, cw]; omega)) (fun g14 g14' => ?_) (fun g14 => ?_)
                        · try simp only [zwr_rne, zwr_req, upd_ne, upd_eq, ne_eq, Nat.reduceEqDiff, not_false_eq_true, cc, e4, w2, w3, ix9, ix9', nI_1, cw] at g14
                          try simp only [zwr_rne, zwr_req, upd_ne, upd_eq, ne_eq, Nat.reduceEqDiff, not_false_eq_true, cc, e4, w2, w3, ix9, ix9', nI_1, cw] at g14'
                          try omega
                          all_goals
                           try simp only [one_ne, zero_eq, if_false, if_true, or_true, true_or, or_false, false_or]
                           try simp only [zwr_rne, zwr_req, upd_ne, upd_eq, ne_eq, Nat.reduceEqDiff, not_false_eq_true, cc, e4, w2, w3, ix9, ix9', nI_1, cw]
                           refine m_isIn (fun g15 g15' => ?_) (fun g15 => ?_)
                           · try simp only [zwr_rne, zwr_req, upd_ne, upd_eq, ne_eq, Nat.reduceEqDiff, not_false_eq_true, cc, e4, w2, w3, ix9, ix9', nI_1, cw] at g15
                             try simp only [zwr_rne, zwr_req, upd_ne, upd_eq, ne_eq, Nat.reduceEqDiff, not_false_eq_true, cc, e4, w2, w3, ix9, ix9', nI_1, cw] at g15'
                             try omega
                             all_goals
                              try simp only [one_ne, zero_eq, if_false, if_true, or_true, true_or, or_false, false_or]
                              try simp only [zwr_rne, zwr_req, upd_ne, upd_eq, ne_eq, Nat.reduceEqDiff, not_false_eq_true, cc, e4, w2, w3, ix9, ix9', nI_1, cw]
                              refine mr_holderOn hc u3 h2 h3 ?_
                              try simp only [zwr_rne, zwr_req, upd_ne, upd_eq, ne_eq, Nat.reduceEqDiff, not_false_eq_true, cc, e4, w2, w3, ix9, ix9', nI_1, cw]
                              refine zle (fun g16 => ?_) (fun g16 => ?_)
                              · exfalso; (try simp only [zwr_rne, zwr_req, upd_ne, upd_eq, ne_eq, Nat.reduceEqDiff, not_false_eq_true, cc, e4, w2, w3, ix9, ix9', nI_1, cw] at g16); omega
                              · try simp only [zwr_rne, zwr_req, upd_ne, upd_eq, ne_eq, Nat.reduceEqDiff, not_false_eq_true, cc, e4, w2, w3, ix9, ix9', nI_1, cw] at g16
                                try omega
                                all_goals
                                 try simp only [zwr_rne, zwr_req, upd_ne, upd_eq, ne_eq, Nat.reduceEqDiff, not_false_eq_true, cc, e4, w2, w3, ix9, ix9', nI_1, cw]
                                 refine zeq (fun g17 => ?_) (fun g17 => ?_)
                                 · exfalso; (try simp only [zwr_rne, zwr_req, upd_ne, upd_eq, ne_eq, Nat.reduceEqDiff, not_false_eq_true, cc, e4, w2, w3, ix9, ix9', nI_1, cw] at g17); omega
                                 · try simp only [zwr_rne, zwr_req, upd_ne, upd_eq, ne_eq, Nat.reduceEqDiff, not_false_eq_true, cc, e4, w2, w3, ix9, ix9', nI_1, cw] at g17
                                   try omega
                                   all_goals
                                    try simp only [zwr_rne, zwr_req, upd_ne, upd_eq, ne_eq, Nat.reduceEqDiff, not_false_eq_true, cc, e4, w2, w3, ix9, ix9', nI_1, cw]
                                    refine ⟨by first | assumption | exact vin (by omega) | exact vp_in_I.mpr (by omega), ?_⟩
                                    refine zeq (fun g18 => ?_) (fun g18 => ?_)
                                    · try simp only [zwr_rne, zwr_req, upd_ne, upd_eq, ne_eq, Nat.reduceEqDiff, not_false_eq_true, cc, e4, w2, w3, ix9, ix9', nI_1, cw] at g18
                                      try omega
                                      all_goals
                                       try simp only [zwr_rne, zwr_req, upd_ne, upd_eq, ne_eq, Nat.reduceEqDiff, not_false_eq_true, cc, e4, w2, w3, ix9, ix9', nI_1, cw]
                                       exact ⟨by first | rfl | trivial, hh⟩
                                    · try simp only [zwr_rne, zwr_req, upd_ne, upd_eq, ne_eq, Nat.reduceEqDiff, not_false_eq_true, cc, e4, w2, w3, ix9, ix9', nI_1, cw] at g18
                                      try omega
                                      all_goals
                                       try simp only [zwr_rne, zwr_req, upd_ne, upd_eq, ne_eq, Nat.reduceEqDiff, not_false_eq_true, cc, e4, w2, w3, ix9, ix9', nI_1, cw]
                                       refine ⟨by first | assumption | exact vin (by omega) | exact vp_in_I.mpr (by omega), ?_⟩
                                       refine ⟨by first | assumption | exact vin (by omega) | exact vp_in_I.mpr (by omega), ?_⟩
                                       rintro _ rfl
                                       try simp only [zwr_rne, zwr_req, upd_ne, upd_eq, ne_eq, Nat.reduceEqDiff, not_false_eq_true, cc, e4, w2, w3, ix9, ix9', nI_1, cw]
                                       refine ⟨by first | assumption | exact vin (by omega) | exact vp_in_I.mpr (by omega), ?_⟩
                                       refine ⟨by first | assumption | exact vin (by omega) | exact vp_in_I.mpr (by omega), ?_⟩
                                       rintro _ rfl
                                       try simp only [zwr_rne, zwr_req, upd_ne, upd_eq, ne_eq, Nat.reduceEqDiff, not_false_eq_true, cc, e4, w2, w3, ix9, ix9', nI_1, cw]
                                       refine ⟨by first | assumption | exact vin (by omega) | exact vp_in_I.mpr (by omega), ?_⟩
                                       refine ⟨by first | assumption | exact vin (by omega) | exact vp_in_I.mpr (by omega), ?_⟩
                                       rintro _ rfl
                                       try simp only [zwr_rne, zwr_req, upd_ne, upd_eq, ne_eq, Nat.reduceEqDiff, not_false_eq_true, cc, e4, w2, w3, ix9, ix9', nI_1, cw]
                                       refine ⟨by first | assumption | exact vin (by omega) | exact vp_in_I.mpr (by omega), ?_⟩
                                       rintro _ rfl
                                       try simp only [zwr_rne, zwr_req, upd_ne, upd_eq, ne_eq, Nat.reduceEqDiff, not_false_eq_true, cc, e4, w2, w3, ix9, ix9', nI_1, cw]
                                       refine ⟨by first | rfl | trivial | assumption, ?_⟩
                                       unfold Rall
                                       simp only [zwr_rne, zwr_req, upd_ne, upd_eq, ne_eq, Nat.reduceEqDiff, not_false_eq_true]
                                       exact ⟨⟨k1, k2, k3, k4, k5, k6, k7, k8, k9⟩, kas, kcl, kda, kdh.write hc w2 hw8 (by omega) (by omega), kpl.setV (by decide) (by decide), kkp, ksh, kwt, ktp, klw, ksd, Rwx_stale, Rwx_stale⟩
                           · exfalso; (try simp only [zwr_rne, zwr_req, upd_ne, upd_eq, ne_eq, Nat.reduceEqDiff, not_false_eq_true, cc, e4, w2, w3, ix9, ix9', nI_1, cw] at g15); omega
                        · exfalso; (try simp only [zwr_rne, zwr_req, upd_ne, upd_eq, ne_eq, Nat.reduceEqDiff, not_false_eq_true, cc, e4, w2, w3, ix9, ix9', nI_1, cw] at g14); omega
                     · exfalso; (try simp only [zwr_rne, zwr_req, upd_ne, upd_eq, ne_eq, Nat.reduceEqDiff, not_false_eq_true, cc, e4, w2, w3, ix9, ix9', nI_1, cw] at g13); omega
                  · try simp only [zwr_rne, zwr_req, upd_ne, upd_eq, ne_eq, Nat.reduceEqDiff, not_false_eq_true, cc, e4, w2, w3, ix9, ix9', nI_1, cw] at g12
                    try omega
                    all_goals
                     try simp only [one_ne, zero_eq, if_false, if_true, or_true, true_or, or_false, false_or]
                     try simp only [zwr_rne, zwr_req, upd_ne, upd_eq, ne_eq, Nat.reduceEqDiff, not_false_eq_true, cc, e4, w2, w3, ix9, ix9', nI_1, cw]
                     refine en_X12_trade ?_
                     try simp only [zwr_rne, zwr_req, upd_ne, upd_eq, ne_eq, Nat.reduceEqDiff, not_false_eq_true, cc, e4, w2, w3, ix9, ix9', nI_1, cw]
                     refine m_isClaim (by first | omega | (simp only [zwr_rne, zwr_req, upd_ne, upd_eq, ne_eq, Nat.reduceEqDiff, not_false_eq_true, cc, e4, w2, w3, ix9, ix9', nI_1, cw]; omega)) (fun g19 g19' => ?_) (fun g19 => ?_)
                     · try simp only [zwr_rne, zwr_req, upd_ne, upd_eq, ne_eq, Nat.reduceEqDiff, not_false_eq_true, cc, e4, w2, w3, ix9, ix9', nI_1, cw] at g19
                       try simp only [zwr_rne, zwr_req, upd_ne, upd_eq, ne_eq, Nat.reduceEqDiff, not_false_eq_true, cc, e4, w2, w3, ix9, ix9', nI_1, cw] at g19'
                       try omega
                       all_goals
                        try simp only [one_ne, zero_eq, if_false, if_true, or_true, true_or, or_false, false_or]
                        try simp only [zwr_rne, zwr_req, upd_ne, upd_eq, ne_eq, Nat.reduceEqDiff, not_false_eq_true, cc, e4, w2, w3, ix9, ix9', nI_1, cw]
                        refine m_isIn (fun g20 g20' => ?_) (fun g20 => ?_)
                        · try simp only [zwr_rne, zwr_req, upd_ne, upd_eq, ne_eq, Nat.reduceEqDiff, not_false_eq_true, cc, e4, w2, w3, ix9, ix9', nI_1, cw] at g20
                          try simp only [zwr_rne, zwr_req, upd_ne, upd_eq, ne_eq, Nat.reduceEqDiff, not_false_eq_true, cc, e4, w2, w3, ix9, ix9', nI_1, cw] at g20'
                          try omega
                          all_goals
                           try simp only [one_ne, zero_eq, if_false, if_true, or_true, true_or, or_false, false_or]
                           try simp only [zwr_rne, zwr_req, upd_ne, upd_eq, ne_eq, Nat.reduceEqDiff, not_false_eq_true, cc, e4, w2, w3, ix9, ix9', nI_1, cw]
                           refine mr_holderOn hc u3 h2 h3 ?_
                           try simp only [zwr_rne, zwr_req, upd_ne, upd_eq, ne_eq, Nat.reduceEqDiff, not_false_eq_true, cc, e4, w2, w3, ix9, ix9', nI_1, cw]
                           refine zle (fun g21 => ?_) (fun g21 => ?_)
                           · exfalso; (try simp only [zwr_rne, zwr_req, upd_ne, upd_eq, ne_eq, Nat.reduceEqDiff, not_false_eq_true, cc, e4, w2, w3, ix9, ix9', nI_1, cw] at g21); omega
                           · try simp only [zwr_rne, zwr_req, upd_ne, upd_eq, ne_eq, Nat.reduceEqDiff, not_false_eq_true, cc, e4, w2, w3, ix9, ix9', nI_1, cw] at g21
                             try omega
                             all_goals
                              try simp only [zwr_rne, zwr_req, upd_ne, upd_eq, ne_eq, Nat.reduceEqDiff, not_false_eq_true, cc, e4, w2, w3, ix9, ix9', nI_1, cw]
                              refine zeq (fun g22 => ?_) (fun g22 => ?_)
                              · exfalso; (try simp only [zwr_rne, zwr_req, upd_ne, upd_eq, ne_eq, Nat.reduceEqDiff, not_false_eq_true, cc, e4, w2, w3, ix9, ix9', nI_1, cw] at g22); omega
                              · try simp only [zwr_rne, zwr_req, upd_ne, upd_eq, ne_eq, Nat.reduceEqDiff, not_false_eq_true, cc, e4, w2, w3, ix9, ix9', nI_1, cw] at g22
                                try omega
                                all_goals
                                 try simp only [zwr_rne, zwr_req, upd_ne, upd_eq, ne_eq, Nat.reduceEqDiff, not_false_eq_true, cc, e4, w2, w3, ix9, ix9', nI_1, cw]
                                 refine ⟨by first | assumption | exact vin (by omega) | exact vp_in_I.mpr (by omega), ?_⟩
                                 refine zeq (fun g23 => ?_) (fun g23 => ?_)
                                 · try simp only [zwr_rne, zwr_req, upd_ne, upd_eq, ne_eq, Nat.reduceEqDiff, not_false_eq_true, cc, e4, w2, w3, ix9, ix9', nI_1, cw] at g23
                                   try omega
                                   all_goals
                                    try simp only [zwr_rne, zwr_req, upd_ne, upd_eq, ne_eq, Nat.reduceEqDiff, not_false_eq_true, cc, e4, w2, w3, ix9, ix9', nI_1, cw]
                                    exact ⟨by first | rfl | trivial, hh⟩
                                 · try simp only [zwr_rne, zwr_req, upd_ne, upd_eq, ne_eq, Nat.reduceEqDiff, not_false_eq_true, cc, e4, w2, w3, ix9, ix9', nI_1, cw] at g23
                                   try omega
                                   all_goals
                                    try simp only [zwr_rne, zwr_req, upd_ne, upd_eq, ne_eq, Nat.reduceEqDiff, not_false_eq_true, cc, e4, w2, w3, ix9, ix9', nI_1, cw]
                                    refine ⟨by first | assumption | exact vin (by omega) | exact vp_in_I.mpr (by omega), ?_⟩
                                    refine ⟨by first | assumption | exact vin (by omega) | exact vp_in_I.mpr (by omega), ?_⟩
                                    rintro _ rfl
                                    try simp only [zwr_rne, zwr_req, upd_ne, upd_eq, ne_eq, Nat.reduceEqDiff, not_false_eq_true, cc, e4, w2, w3, ix9, ix9', nI_1, cw]
                                    refine ⟨by first | assumption | exact vin (by omega) | exact vp_in_I.mpr (by omega), ?_⟩
                                    refine ⟨by first | assumption | exact vin (by omega) | exact vp_in_I.mpr (by omega), ?_⟩
                                    rintro _ rfl
                                    try simp only [zwr_rne, zwr_req, upd_ne, upd_eq, ne_eq, Nat.reduceEqDiff, not_false_eq_true, cc, e4, w2, w3, ix9, ix9', nI_1, cw]
                                    refine ⟨by first | assumption | exact vin (by omega) | exact vp_in_I.mpr (by omega), ?_⟩
                                    refine ⟨by first | assumption | exact vin (by omega) | exact vp_in_I.mpr (by omega), ?_⟩
                                    rintro _ rfl
                                    try simp only [zwr_rne, zwr_req, upd_ne, upd_eq, ne_eq, Nat.reduceEqDiff, not_false_eq_true, cc, e4, w2, w3, ix9, ix9', nI_1, cw]
                                    refine ⟨by first | assumption | exact vin (by omega) | exact vp_in_I.mpr (by omega), ?_⟩
                                    rintro _ rfl
                                    try simp only [zwr_rne, zwr_req, upd_ne, upd_eq, ne_eq, Nat.reduceEqDiff, not_false_eq_true, cc, e4, w2, w3, ix9, ix9', nI_1, cw]
                                    refine ⟨by first | rfl | trivial | assumption, ?_⟩
                                    unfold Rall
                                    simp only [zwr_rne, zwr_req, upd_ne, upd_eq, ne_eq, Nat.reduceEqDiff, not_false_eq_true]
                                    exact ⟨⟨k1, k2, k3, k4, k5, k6, k7, k8, k9⟩, kas, kcl, kda, kdh.write hc w2 hw8 (by omega) (by omega), kpl.setV (by decide) (by decide), kkp, ksh, kwt, ktp, klw, ksd, Rwx_stale, Rwx_stale⟩
                        · exfalso; (try simp only [zwr_rne, zwr_req, upd_ne, upd_eq, ne_eq, Nat.reduceEqDiff, not_false_eq_true, cc, e4, w2, w3, ix9, ix9', nI_1, cw] at g20); omega
                     · exfalso; (try simp only [zwr_rne, zwr_req, upd_ne, upd_eq, ne_eq, Nat.reduceEqDiff, not_false_eq_true, cc, e4, w2, w3, ix9, ix9', nI_1, cw] at g19); omega
         · try simp only [zwr_rne, zwr_req, upd_ne, upd_eq, ne_eq, Nat.reduceEqDiff, not_false_eq_true, cc, e4, w2, w3, ix9, ix9', nI_1, cw] at g2
           try omega
           all_goals
            try simp only [one_ne, zero_eq, if_false, if_true, or_true, true_or, or_false, false_or]
            refine en_X12_trade ?_
            try simp only [zwr_rne, zwr_req, upd_ne, upd_eq, ne_eq, Nat.reduceEqDiff, not_false_eq_true, cc, e4, w2, w3, ix9, ix9', nI_1, cw]
            refine m_isClaim (by first | omega | (simp only [zwr_rne, zwr_req, upd_ne, upd_eq, ne_eq, Nat.reduceEqDiff, not_false_eq_true, cc, e4, w2, w3, ix9, ix9', nI_1, cw]; omega)) (fun g24 g24' => ?_) (fun g24 => ?_)
            · try simp only [zwr_rne, zwr_req, upd_ne, upd_eq, ne_eq, Nat.reduceEqDiff, not_false_eq_true, cc, e4, w2, w3, ix9, ix9', nI_1, cw] at g24
              try simp only [zwr_rne, zwr_req, upd_ne, upd_eq, ne_eq, Nat.reduceEqDiff, not_false_eq_true, cc, e4, w2, w3, ix9, ix9', nI_1, cw] at g24'
              try omega
              all_goals
               try simp only [one_ne, zero_eq, if_false, if_true, or_true, true_or, or_false, false_or]
               try simp only [zwr_rne, zwr_req, upd_ne, upd_eq, ne_eq, Nat.reduceEqDiff, not_false_eq_true, cc, e4, w2, w3, ix9, ix9', nI_1, cw]
               refine m_isIn (fun g25 g25' => ?_) (fun g25 => ?_)
               · exfalso; (try simp only [zwr_rne, zwr_req, upd_ne, upd_eq, ne_eq, Nat.reduceEqDiff, not_false_eq_true, cc, e4, w2, w3, ix9, ix9', nI_1, cw] at g25); (try simp only [zwr_rne, zwr_req, upd_ne, upd_eq, ne_eq, Nat.reduceEqDiff, not_false_eq_true, cc, e4, w2, w3, ix9, ix9', nI_1, cw] at g25'); omega
               · try simp only [zwr_rne, zwr_req, upd_ne, upd_eq, ne_eq, Nat.reduceEqDiff, not_false_eq_true, cc, e4, w2, w3, ix9, ix9', nI_1, cw] at g25
                 try omega
                 all_goals
                  try simp only [one_ne, zero_eq, if_false, if_true, or_true, true_or, or_false, false_or]
                  try simp only [zwr_rne, zwr_req, upd_ne, upd_eq, ne_eq, Nat.reduceEqDiff, not_false_eq_true, cc, e4, w2, w3, ix9, ix9', nI_1, cw]
                  exact ⟨by first | rfl | trivial, hh⟩
            · exfalso; (try simp only [zwr_rne, zwr_req, upd_ne, upd_eq, ne_eq, Nat.reduceEqDiff, not_false_eq_true, cc, e4, w2, w3, ix9, ix9', nI_1, cw] at g24); omega
      · try simp only [zwr_rne, zwr_req, upd_ne, upd_eq, ne_eq, Nat.reduceEqDiff, not_false_eq_true, cc, e4, w2, w3, ix9, ix9', nI_1, cw] at g1
        try omega
        all_goals
         try simp only [one_ne, zero_eq, if_false, if_true, or_true, true_or, or_false, false_or]
         refine en_X12_trade ?_
         try simp only [zwr_rne, zwr_req, upd_ne, upd_eq, ne_eq, Nat.reduceEqDiff, not_false_eq_true, cc, e4, w2, w3, ix9, ix9', nI_1, cw]
         refine m_isClaim (by first | omega | (simp only [zwr_rne, zwr_req, upd_ne, upd_eq, ne_eq, Nat.reduceEqDiff, not_false_eq_true, cc, e4, w2, w3, ix9, ix9', nI_1, cw]; omega)) (fun g26 g26' => ?_) (fun g26 => ?_)
         · exfalso; (try simp only [zwr_rne, zwr_req, upd_ne, upd_eq, ne_eq, Nat.reduceEqDiff, not_false_eq_true, cc, e4, w2, w3, ix9, ix9', nI_1, cw] at g26); (try simp only [zwr_rne, zwr_req, upd_ne, upd_eq, ne_eq, Nat.reduceEqDiff, not_false_eq_true, cc, e4, w2, w3, ix9, ix9', nI_1, cw] at g26'); omega
         · try simp only [zwr_rne, zwr_req, upd_ne, upd_eq, ne_eq, Nat.reduceEqDiff, not_false_eq_true, cc, e4, w2, w3, ix9, ix9', nI_1, cw] at g26
           try omega
           all_goals
            try simp only [one_ne, zero_eq, if_false, if_true, or_true, true_or, or_false, false_or]
            try simp only [zwr_rne, zwr_req, upd_ne, upd_eq, ne_eq, Nat.reduceEqDiff, not_false_eq_true, cc, e4, w2, w3, ix9, ix9', nI_1, cw]
            exact ⟨by first | rfl | trivial, hh⟩
    · have hw : w = 8 := by omega
      subst hw
      refine en_X11_trade ?_
      try simp only [zwr_rne, zwr_req, upd_ne, upd_eq, ne_eq, Nat.reduceEqDiff, not_false_eq_true, cc, e4, w2, w3]
      refine c_hasC (fun g1 g1' => ?_) (fun g1 => ?_)
      · try simp only [zwr_rne, zwr_req, upd_ne, upd_eq, ne_eq, Nat.reduceEqDiff, not_false_eq_true, cc, e4, w2, w3] at g1
        try simp only [zwr_rne, zwr_req, upd_ne, upd_eq, ne_eq, Nat.reduceEqDiff, not_false_eq_true, cc, e4, w2, w3] at g1'
        try omega
        all_goals
         try simp only [one_ne, zero_eq, if_false, if_true, or_true, true_or, or_false, false_or]
         refine c_isWithin (fun g2 g2' => ?_) (fun g2 => ?_)
         · try simp only [zwr_rne, zwr_req, upd_ne, upd_eq, ne_eq, Nat.reduceEqDiff, not_false_eq_true, cc, e4, w2, w3] at g2
           try simp only [zwr_rne, zwr_req, upd_ne, upd_eq, ne_eq, Nat.reduceEqDiff, not_false_eq_true, cc, e4, w2, w3] at g2'
           try omega
           all_goals
            try simp only [one_ne, zero_eq, if_false, if_true, or_true, true_or, or_false, false_or]
            refine cr_holderOn kdh hc u3 ?_
            try simp only [zwr_rne, zwr_req, upd_ne, upd_eq, ne_eq, Nat.reduceEqDiff, not_false_eq_true, cc, e4, w2, w3]
            refine zle (fun g3 => ?_) (fun g3 => ?_)
            · try simp only [zwr_rne, zwr_req, upd_ne, upd_eq, ne_eq, Nat.reduceEqDiff, not_false_eq_true, cc, e4, w2, w3] at g3
              try omega
              all_goals
               refine en_X12_trade ?_
               try simp only [zwr_rne, zwr_req, upd_ne, upd_eq, ne_eq, Nat.reduceEqDiff, not_false_eq_true, cc, e4, w2, w3]
               refine m_isClaim (by first | omega | (simp only [zwr_rne, zwr_req, upd_ne, upd_eq, ne_eq, Nat.reduceEqDiff, not_false_eq_true, cc, e4, w2, w3]; omega)) (fun g4 g4' => ?_) (fun g4 => ?_)
               · try simp only [zwr_rne, zwr_req, upd_ne, upd_eq, ne_eq, Nat.reduceEqDiff, not_false_eq_true, cc, e4, w2, w3] at g4
                 try simp only [zwr_rne, zwr_req, upd_ne, upd_eq, ne_eq, Nat.reduceEqDiff, not_false_eq_true, cc, e4, w2, w3] at g4'
                 try omega
                 all_goals
                  try simp only [one_ne, zero_eq, if_false, if_true, or_true, true_or, or_false, false_or]
                  try simp only [zwr_rne, zwr_req, upd_ne, upd_eq, ne_eq, Nat.reduceEqDiff, not_false_eq_true, cc, e4, w2, w3]
                  refine m_isIn (fun g5 g5' => ?_) (fun g5 => ?_)
                  · try simp only [zwr_rne, zwr_req, upd_ne, upd_eq, ne_eq, Nat.reduceEqDiff, not_false_eq_true, cc, e4, w2, w3] at g5
                    try simp only [zwr_rne, zwr_req, upd_ne, upd_eq, ne_eq, Nat.reduceEqDiff, not_false_eq_true, cc, e4, w2, w3] at g5'
                    try omega
                    all_goals
                     try simp only [one_ne, zero_eq, if_false, if_true, or_true, true_or, or_false, false_or]
                     try simp only [zwr_rne, zwr_req, upd_ne, upd_eq, ne_eq, Nat.reduceEqDiff, not_false_eq_true, cc, e4, w2, w3]
                     refine mr_holderOn hc u3 h2 h3 ?_
                     try simp only [zwr_rne, zwr_req, upd_ne, upd_eq, ne_eq, Nat.reduceEqDiff, not_false_eq_true, cc, e4, w2, w3]
                     refine zle (fun g6 => ?_) (fun g6 => ?_)
                     · try simp only [zwr_rne, zwr_req, upd_ne, upd_eq, ne_eq, Nat.reduceEqDiff, not_false_eq_true, cc, e4, w2, w3] at g6
                       try omega
                       all_goals
                        try simp only [zwr_rne, zwr_req, upd_ne, upd_eq, ne_eq, Nat.reduceEqDiff, not_false_eq_true, cc, e4, w2, w3]
                        exact ⟨by first | rfl | trivial, hh⟩
                     · exfalso; (try simp only [zwr_rne, zwr_req, upd_ne, upd_eq, ne_eq, Nat.reduceEqDiff, not_false_eq_true, cc, e4, w2, w3] at g6); omega
                  · exfalso; (try simp only [zwr_rne, zwr_req, upd_ne, upd_eq, ne_eq, Nat.reduceEqDiff, not_false_eq_true, cc, e4, w2, w3] at g5); omega
               · exfalso; (try simp only [zwr_rne, zwr_req, upd_ne, upd_eq, ne_eq, Nat.reduceEqDiff, not_false_eq_true, cc, e4, w2, w3] at g4); omega
            · try simp only [zwr_rne, zwr_req, upd_ne, upd_eq, ne_eq, Nat.reduceEqDiff, not_false_eq_true, cc, e4, w2, w3] at g3
              try omega
              all_goals
               refine zeq (fun g7 => ?_) (fun g7 => ?_)
               · try simp only [zwr_rne, zwr_req, upd_ne, upd_eq, ne_eq, Nat.reduceEqDiff, not_false_eq_true, cc, e4, w2, w3] at g7
                 try omega
                 all_goals
                  refine en_X12_trade ?_
                  try simp only [zwr_rne, zwr_req, upd_ne, upd_eq, ne_eq, Nat.reduceEqDiff, not_false_eq_true, cc, e4, w2, w3]
                  refine m_isClaim (by first | omega | (simp only [zwr_rne, zwr_req, upd_ne, upd_eq, ne_eq, Nat.reduceEqDiff, not_false_eq_true, cc, e4, w2, w3]; omega)) (fun g8 g8' => ?_) (fun g8 => ?_)
                  · try simp only [zwr_rne, zwr_req, upd_ne, upd_eq, ne_eq, Nat.reduceEqDiff, not_false_eq_true, cc, e4, w2, w3] at g8
                    try simp only [zwr_rne, zwr_req, upd_ne, upd_eq, ne_eq, Nat.reduceEqDiff, not_false_eq_true, cc, e4, w2, w3] at g8'
                    try omega
                    all_goals
                     try simp only [one_ne, zero_eq, if_false, if_true, or_true, true_or, or_false, false_or]
                     try simp only [zwr_rne, zwr_req, upd_ne, upd_eq, ne_eq, Nat.reduceEqDiff, not_false_eq_true, cc, e4, w2, w3]
                     refine m_isIn (fun g9 g9' => ?_) (fun g9 => ?_)
                     · try simp only [zwr_rne, zwr_req, upd_ne, upd_eq, ne_eq, Nat.reduceEqDiff, not_false_eq_true, cc, e4, w2, w3] at g9
                       try simp only [zwr_rne, zwr_req, upd_ne, upd_eq, ne_eq, Nat.reduceEqDiff, not_false_eq_true, cc, e4, w2, w3] at g9'
                       try omega
                       all_goals
                        try simp only [one_ne, zero_eq, if_false, if_true, or_true, true_or, or_false, false_or]
                        try simp only [zwr_rne, zwr_req, upd_ne, upd_eq, ne_eq, Nat.reduceEqDiff, not_false_eq_true, cc, e4, w2, w3]
                        refine mr_holderOn hc u3 h2 h3 ?_
                        try simp only [zwr_rne, zwr_req, upd_ne, upd_eq, ne_eq, Nat.reduceEqDiff, not_false_eq_true, cc, e4, w2, w3]
                        refine zle (fun g10 => ?_) (fun g10 => ?_)
                        · exfalso; (try simp only [zwr_rne, zwr_req, upd_ne, upd_eq, ne_eq, Nat.reduceEqDiff, not_false_eq_true, cc, e4, w2, w3] at g10); omega
                        · try simp only [zwr_rne, zwr_req, upd_ne, upd_eq, ne_eq, Nat.reduceEqDiff, not_false_eq_true, cc, e4, w2, w3] at g10
                          try omega
                          all_goals
                           try simp only [zwr_rne, zwr_req, upd_ne, upd_eq, ne_eq, Nat.reduceEqDiff, not_false_eq_true, cc, e4, w2, w3]
                           refine zeq (fun g11 => ?_) (fun g11 => ?_)
                           · try simp only [zwr_rne, zwr_req, upd_ne, upd_eq, ne_eq, Nat.reduceEqDiff, not_false_eq_true, cc, e4, w2, w3] at g11
                             try omega
                             all_goals
                              try simp only [zwr_rne, zwr_req, upd_ne, upd_eq, ne_eq, Nat.reduceEqDiff, not_false_eq_true, cc, e4, w2, w3]
                              exact ⟨by first | rfl | trivial, hh⟩
                           · exfalso; (try simp only [zwr_rne, zwr_req, upd_ne, upd_eq, ne_eq, Nat.reduceEqDiff, not_false_eq_true, cc, e4, w2, w3] at g11); omega
                     · exfalso; (try simp only [zwr_rne, zwr_req, upd_ne, upd_eq, ne_eq, Nat.reduceEqDiff, not_false_eq_true, cc, e4, w2, w3] at g9); omega
                  · exfalso; (try simp only [zwr_rne, zwr_req, upd_ne, upd_eq, ne_eq, Nat.reduceEqDiff, not_false_eq_true, cc, e4, w2, w3] at g8); omega
               · try simp only [zwr_rne, zwr_req, upd_ne, upd_eq, ne_eq, Nat.reduceEqDiff, not_false_eq_true, cc, e4, w2, w3] at g7
                 try omega
                 all_goals
                  refine en_X3_isFull_i10 ?_
                  try simp only [zwr_rne, zwr_req, upd_ne, upd_eq, ne_eq, Nat.reduceEqDiff, not_false_eq_true, cc, e4, w2, w3]
                  refine ⟨by first | assumption | exact vin (by omega) | exact vp_in_I.mpr (by omega), ?_⟩
                  refine zlt (fun g12 => ?_) (fun g12 => ?_)
                  · try simp only [zwr_rne, zwr_req, upd_ne, upd_eq, ne_eq, Nat.reduceEqDiff, not_false_eq_true, cc, e4, w2, w3] at g12
                    try omega
                    all_goals
                     try simp only [one_ne, zero_eq, if_false, if_true, or_true, true_or, or_false, false_or]
                     try simp only [zwr_rne, zwr_req, upd_ne, upd_eq, ne_eq, Nat.reduceEqDiff, not_false_eq_true, cc, e4, w2, w3]
                     exfalso; omega
                     try simp only [zwr_rne, zwr_req, upd_ne, upd_eq, ne_eq, Nat.reduceEqDiff, not_false_eq_true, cc, e4, w2, w3]
                     refine ⟨by first | assumption | exact vin (by omega) | exact vp_in_I.mpr (by omega), ?_⟩
                     rintro _ rfl
                     try simp only [zwr_rne, zwr_req, upd_ne, upd_eq, ne_eq, Nat.reduceEqDiff, not_false_eq_true, cc, e4, w2, w3]
                     refine c_changed ?_
                     try simp only [zwr_rne, zwr_req, upd_ne, upd_eq, ne_eq, Nat.reduceEqDiff, not_false_eq_true, cc, e4, w2, w3]
                     refine en_X12_trade ?_
                     try simp only [zwr_rne, zwr_req, upd_ne, upd_eq, ne_eq, Nat.reduceEqDiff, not_false_eq_true, cc, e4, w2, w3]
                     refine m_isClaim (by first | omega | (simp only [zwr_rne, zwr_req, upd_ne, upd_eq, ne_eq, Nat.reduceEqDiff, not_false_eq_true, cc, e4, w2, w3]; omega)) (fun g13 g13' => ?_) (fun g13 => ?_)
                     · try simp only [zwr_rne, zwr_req, upd_ne, upd_eq, ne_eq, Nat.reduceEqDiff, not_false_eq_true, cc, e4, w2, w3] at g13
                       try simp only [zwr_rne, zwr_req, upd_ne, upd_eq, ne_eq, Nat.reduceEqDiff, not_false_eq_true, cc, e4, w2, w3] at g13'
                       try omega
                       all_goals
                        try simp only [one_ne, zero_eq, if_false, if_true, or_true, true_or, or_false, false_or]
                        try simp only [zwr_rne, zwr_req, upd_ne, upd_eq, ne_eq, Nat.reduceEqDiff, not_false_eq_true, cc, e4, w2, w3]
                        refine m_isIn (fun g14 g14' => ?_) (fun g14 => ?_)
                        · try simp only [zwr_rne, zwr_req, upd_ne, upd_eq, ne_eq, Nat.reduceEqDiff, not_false_eq_true, cc, e4, w2, w3] at g14
                          try simp only [zwr_rne, zwr_req, upd_ne, upd_eq, ne_eq, Nat.reduceEqDiff, not_false_eq_true, cc, e4, w2, w3] at g14'
                          try omega
                          all_goals
                           try simp only [one_ne, zero_eq, if_false, if_true, or_true, true_or, or_false, false_or]
                           try simp only [zwr_rne, zwr_req, upd_ne, upd_eq, ne_eq, Nat.reduceEqDiff, not_false_eq_true, cc, e4, w2, w3]
                           refine mr_holderOn hc u3 h2 h3 ?_
                           try simp only [zwr_rne, zwr_req, upd_ne, upd_eq, ne_eq, Nat.reduceEqDiff, not_false_eq_true, cc, e4, w2, w3]
                           refine zle (fun g15 => ?_) (fun g15 => ?_)
                           · exfalso; (try simp only [zwr_rne, zwr_req, upd_ne, upd_eq, ne_eq, Nat.reduceEqDiff, not_false_eq_true, cc, e4, w2, w3] at g15); omega
                           · try simp only [zwr_rne, zwr_req, upd_ne, upd_eq, ne_eq, Nat.reduceEqDiff, not_false_eq_true, cc, e4, w2, w3] at g15
                             try omega
                             all_goals
                              try simp only [zwr_rne, zwr_req, upd_ne, upd_eq, ne_eq, Nat.reduceEqDiff, not_false_eq_true, cc, e4, w2, w3]
                              refine zeq (fun g16 => ?_) (fun g16 => ?_)
                              · exfalso; (try simp only [zwr_rne, zwr_req, upd_ne, upd_eq, ne_eq, Nat.reduceEqDiff, not_false_eq_true, cc, e4, w2, w3] at g16); omega
                              · try simp only [zwr_rne, zwr_req, upd_ne, upd_eq, ne_eq, Nat.reduceEqDiff, not_false_eq_true, cc, e4, w2, w3] at g16
                                try omega
                                all_goals
                                 try simp only [zwr_rne, zwr_req, upd_ne, upd_eq, ne_eq, Nat.reduceEqDiff, not_false_eq_true, cc, e4, w2, w3]
                                 refine ⟨by first | assumption | exact vin (by omega) | exact vp_in_I.mpr (by omega), ?_⟩
                                 refine zeq (fun g17 => ?_) (fun g17 => ?_)
                                 · try simp only [zwr_rne, zwr_req, upd_ne, upd_eq, ne_eq, Nat.reduceEqDiff, not_false_eq_true, cc, e4, w2, w3] at g17
                                   try omega
                                   all_goals
                                    try simp only [zwr_rne, zwr_req, upd_ne, upd_eq, ne_eq, Nat.reduceEqDiff, not_false_eq_true, cc, e4, w2, w3]
                                    exact ⟨by first | rfl | trivial, hh⟩
                                 · try simp only [zwr_rne, zwr_req, upd_ne, upd_eq, ne_eq, Nat.reduceEqDiff, not_false_eq_true, cc, e4, w2, w3] at g17
                                   try omega
                                   all_goals
                                    try simp only [zwr_rne, zwr_req, upd_ne, upd_eq, ne_eq, Nat.reduceEqDiff, not_false_eq_true, cc, e4, w2, w3]
                                    refine ⟨by first | assumption | exact vin (by omega) | exact vp_in_I.mpr (by omega), ?_⟩
                                    refine ⟨by first | assumption | exact vin (by omega) | exact vp_in_I.mpr (by omega), ?_⟩
                                    rintro _ rfl
                                    try simp only [zwr_rne, zwr_req, upd_ne, upd_eq, ne_eq, Nat.reduceEqDiff, not_false_eq_true, cc, e4, w2, w3]
                                    refine ⟨by first | assumption | exact vin (by omega) | exact vp_in_I.mpr (by omega), ?_⟩
                                    refine ⟨by first | assumption | exact vin (by omega) | exact vp_in_I.mpr (by omega), ?_⟩
                                    rintro _ rfl
                                    try simp only [zwr_rne, zwr_req, upd_ne, upd_eq, ne_eq, Nat.reduceEqDiff, not_false_eq_true, cc, e4, w2, w3]
                                    refine ⟨by first | assumption | exact vin (by omega) | exact vp_in_I.mpr (by omega), ?_⟩
                                    refine ⟨by first | assumption | exact vin (by omega) | exact vp_in_I.mpr (by omega), ?_⟩
                                    rintro _ rfl
                                    try simp only [zwr_rne, zwr_req, upd_ne, upd_eq, ne_eq, Nat.reduceEqDiff, not_false_eq_true, cc, e4, w2, w3]
                                    refine ⟨by first | assumption | exact vin (by omega) | exact vp_in_I.mpr (by omega), ?_⟩
                                    rintro _ rfl
                                    try simp only [zwr_rne, zwr_req, upd_ne, upd_eq, ne_eq, Nat.reduceEqDiff, not_false_eq_true, cc, e4, w2, w3]
                                    exact ⟨by first | rfl | trivial, hh⟩
                        · exfalso; (try simp only [zwr_rne, zwr_req, upd_ne, upd_eq, ne_eq, Nat.reduceEqDiff, not_false_eq_true, cc, e4, w2, w3] at g14); omega
                     · exfalso; (try simp only [zwr_rne, zwr_req, upd_ne, upd_eq, ne_eq, Nat.reduceEqDiff, not_false_eq_true, cc, e4, w2, w3] at g13); omega
                  · try simp only [zwr_rne, zwr_req, upd_ne, upd_eq, ne_eq, Nat.reduceEqDiff, not_false_eq_true, cc, e4, w2, w3] at g12
                    try omega
                    all_goals
                     try simp only [one_ne, zero_eq, if_false, if_true, or_true, true_or, or_false, false_or]
                     try simp only [zwr_rne, zwr_req, upd_ne, upd_eq, ne_eq, Nat.reduceEqDiff, not_false_eq_true, cc, e4, w2, w3]
                     refine en_X12_trade ?_
                     try simp only [zwr_rne, zwr_req, upd_ne, upd_eq, ne_eq, Nat.reduceEqDiff, not_false_eq_true, cc, e4, w2, w3]
                     refine m_isClaim (by first | omega | (simp only [zwr_rne, zwr_req, upd_ne, upd_eq, ne_eq, Nat.reduceEqDiff, not_false_eq_true, cc, e4, w2, w3]; omega)) (fun g18 g18' => ?_) (fun g18 => ?_)
                     · try simp only [zwr_rne, zwr_req, upd_ne, upd_eq, ne_eq, Nat.reduceEqDiff, not_false_eq_true, cc, e4, w2, w3] at g18
                       try simp only [zwr_rne, zwr_req, upd_ne, upd_eq, ne_eq, Nat.reduceEqDiff, not_false_eq_true, cc, e4, w2, w3] at g18'
                       try omega
                       all_goals
                        try simp only [one_ne, zero_eq, if_false, if_true, or_true, true_or, or_false, false_or]
                        try simp only [zwr_rne, zwr_req, upd_ne, upd_eq, ne_eq, Nat.reduceEqDiff, not_false_eq_true, cc, e4, w2, w3]
                        refine m_isIn (fun g19 g19' => ?_) (fun g19 => ?_)
                        · try simp only [zwr_rne, zwr_req, upd_ne, upd_eq, ne_eq, Nat.reduceEqDiff, not_false_eq_true, cc, e4, w2, w3] at g19
                          try simp only [zwr_rne, zwr_req, upd_ne, upd_eq, ne_eq, Nat.reduceEqDiff, not_false_eq_true, cc, e4, w2, w3] at g19'
                          try omega
                          all_goals
                           try simp only [one_ne, zero_eq, if_false, if_true, or_true, true_or, or_false, false_or]
                           try simp only [zwr_rne, zwr_req, upd_ne, upd_eq, ne_eq, Nat.reduceEqDiff, not_false_eq_true, cc, e4, w2, w3]
                           refine mr_holderOn hc u3 h2 h3 ?_
                           try simp only [zwr_rne, zwr_req, upd_ne, upd_eq, ne_eq, Nat.reduceEqDiff, not_false_eq_true, cc, e4, w2, w3]
                           refine zle (fun g20 => ?_) (fun g20 => ?_)
                           · exfalso; (try simp only [zwr_rne, zwr_req, upd_ne, upd_eq, ne_eq, Nat.reduceEqDiff, not_false_eq_true, cc, e4, w2, w3] at g20); omega
                           · try simp only [zwr_rne, zwr_req, upd_ne, upd_eq, ne_eq, Nat.reduceEqDiff, not_false_eq_true, cc, e4, w2, w3] at g20
                             try omega
                             all_goals
                              try simp only [zwr_rne, zwr_req, upd_ne, upd_eq, ne_eq, Nat.reduceEqDiff, not_false_eq_true, cc, e4, w2, w3]
                              refine zeq (fun g21 => ?_) (fun g21 => ?_)
                              · exfalso; (try simp only [zwr_rne, zwr_req, upd_ne, upd_eq, ne_eq, Nat.reduceEqDiff, not_false_eq_true, cc, e4, w2, w3] at g21); omega
                              · try simp only [zwr_rne, zwr_req, upd_ne, upd_eq, ne_eq, Nat.reduceEqDiff, not_false_eq_true, cc, e4, w2, w3] at g21
                                try omega
                                all_goals
                                 try simp only [zwr_rne, zwr_req, upd_ne, upd_eq, ne_eq, Nat.reduceEqDiff, not_false_eq_true, cc, e4, w2, w3]
                                 refine ⟨by first | assumption | exact vin (by omega) | exact vp_in_I.mpr (by omega), ?_⟩
                                 refine zeq (fun g22 => ?_) (fun g22 => ?_)
                                 · try simp only [zwr_rne, zwr_req, upd_ne, upd_eq, ne_eq, Nat.reduceEqDiff, not_false_eq_true, cc, e4, w2, w3] at g22
                                   try omega
                                   all_goals
                                    try simp only [zwr_rne, zwr_req, upd_ne, upd_eq, ne_eq, Nat.reduceEqDiff, not_false_eq_true, cc, e4, w2, w3]
                                    exact ⟨by first | rfl | trivial, hh⟩
                                 · try simp only [zwr_rne, zwr_req, upd_ne, upd_eq, ne_eq, Nat.reduceEqDiff, not_false_eq_true, cc, e4, w2, w3] at g22
                                   try omega
                                   all_goals
                                    try simp only [zwr_rne, zwr_req, upd_ne, upd_eq, ne_eq, Nat.reduceEqDiff, not_false_eq_true, cc, e4, w2, w3]
                                    refine ⟨by first | assumption | exact vin (by omega) | exact vp_in_I.mpr (by omega), ?_⟩
                                    refine ⟨by first | assumption | exact vin (by omega) | exact vp_in_I.mpr (by omega), ?_⟩
                                    rintro _ rfl
                                    try simp only [zwr_rne, zwr_req, upd_ne, upd_eq, ne_eq, Nat.reduceEqDiff, not_false_eq_true, cc, e4, w2, w3]
                                    refine ⟨by first | assumption | exact vin (by omega) | exact vp_in_I.mpr (by omega), ?_⟩
                                    refine ⟨by first | assumption | exact vin (by omega) | exact vp_in_I.mpr (by omega), ?_⟩
                                    rintro _ rfl
                                    try simp only [zwr_rne, zwr_req, upd_ne, upd_eq, ne_eq, Nat.reduceEqDiff, not_false_eq_true, cc, e4, w2, w3]
                                    refine ⟨by first | assumption | exact vin (by omega) | exact vp_in_I.mpr (by omega), ?_⟩
                                    refine ⟨by first | assumption | exact vin (by omega) | exact vp_in_I.mpr (by omega), ?_⟩
                                    rintro _ rfl
                                    try simp only [zwr_rne, zwr_req, upd_ne, upd_eq, ne_eq, Nat.reduceEqDiff, not_false_eq_true, cc, e4, w2, w3]
                                    refine ⟨by first | assumption | exact vin (by omega) | exact vp_in_I.mpr (by omega), ?_⟩
                                    rintro _ rfl
                                    try simp only [zwr_rne, zwr_req, upd_ne, upd_eq, ne_eq, Nat.reduceEqDiff, not_false_eq_true, cc, e4, w2, w3]
                                    exact ⟨by first | rfl | trivial, hh⟩
                        · exfalso; (try simp only [zwr_rne, zwr_req, upd_ne, upd_eq, ne_eq, Nat.reduceEqDiff, not_false_eq_true, cc, e4, w2, w3] at g19); omega
                     · exfalso; (try simp only [zwr_rne, zwr_req, upd_ne, upd_eq, ne_eq, Nat.reduceEqDiff, not_false_eq_true, cc, e4, w2, w3] at g18); omega
         · try simp only [zwr_rne, zwr_req, upd_ne, upd_eq, ne_eq, Nat.reduceEqDiff, not_false_eq_true, cc, e4, w2, w3] at g2
           try omega
           all_goals
            try simp only [one_ne, zero_eq, if_false, if_true, or_true, true_or, or_false, false_or]
            refine en_X12_trade ?_
            try simp only [zwr_rne, zwr_req, upd_ne, upd_eq, ne_eq, Nat.reduceEqDiff, not_false_eq_true, cc, e4, w2, w3]
            refine m_isClaim (by first | omega | (simp only [zwr_rne, zwr_req, upd_ne, upd_eq, ne_eq, Nat.reduceEqDiff, not_false_eq_true, cc, e4, w2, w3]; omega)) (fun g23 g23' => ?_) (fun g23 => ?_)
            · try simp only [zwr_rne, zwr_req, upd_ne, upd_eq, ne_eq, Nat.reduceEqDiff, not_false_eq_true, cc, e4, w2, w3] at g23
              try simp only [zwr_rne, zwr_req, upd_ne, upd_eq, ne_eq, Nat.reduceEqDiff, not_false_eq_true, cc, e4, w2, w3] at g23'
              try omega
              all_goals
               try simp only [one_ne, zero_eq, if_false, if_true, or_true, true_or, or_false, false_or]
               try simp only [zwr_rne, zwr_req, upd_ne, upd_eq, ne_eq, Nat.reduceEqDiff, not_false_eq_true, cc, e4, w2, w3]
               refine m_isIn (fun g24 g24' => ?_) (fun g24 => ?_)
               · exfalso; (try simp only [zwr_rne, zwr_req, upd_ne, upd_eq, ne_eq, Nat.reduceEqDiff, not_false_eq_true, cc, e4, w2, w3] at g24); (try simp only [zwr_rne, zwr_req, upd_ne, upd_eq, ne_eq, Nat.reduceEqDiff, not_false_eq_true, cc, e4, w2, w3] at g24'); omega
               · try simp only [zwr_rne, zwr_req, upd_ne, upd_eq, ne_eq, Nat.reduceEqDiff, not_false_eq_true, cc, e4, w2, w3] at g24
                 try omega
                 all_goals
                  try simp only [one_ne, zero_eq, if_false, if_true, or_true, true_or, or_false, false_or]
                  try simp only [zwr_rne, zwr_req, upd_ne, upd_eq, ne_eq, Nat.reduceEqDiff, not_false_eq_true, cc, e4, w2, w3]
                  exact ⟨by first | rfl | trivial, hh⟩
            · exfalso; (try simp only [zwr_rne, zwr_req, upd_ne, upd_eq, ne_eq, Nat.reduceEqDiff, not_false_eq_true, cc, e4, w2, w3] at g23); omega
      · try simp only [zwr_rne, zwr_req, upd_ne, upd_eq, ne_eq, Nat.reduceEqDiff, not_false_eq_true, cc, e4, w2, w3] at g1
        try omega
        all_goals
         try simp only [one_ne, zero_eq, if_false, if_true, or_true, true_or, or_false, false_or]
         refine en_X12_trade ?_
         try simp only [zwr_rne, zwr_req, upd_ne, upd_eq, ne_eq, Nat.reduceEqDiff, not_false_eq_true, cc, e4, w2, w3]
         refine m_isClaim (by first | omega | (simp only [zwr_rne, zwr_req, upd_ne, upd_eq, ne_eq, Nat.reduceEqDiff, not_false_eq_true, cc, e4, w2, w3]; omega)) (fun g25 g25' => ?_) (fun g25 => ?_)
         · exfalso; (try simp only [zwr_rne, zwr_req, upd_ne, upd_eq, ne_eq, Nat.reduceEqDiff, not_false_eq_true, cc, e4, w2, w3] at g25); (try simp only [zwr_rne, zwr_req, upd_ne, upd_eq, ne_eq, Nat.reduceEqDiff, not_false_eq_true, cc, e4, w2, w3] at g25'); omega
         · try simp only [zwr_rne, zwr_req, upd_ne, upd_eq, ne_eq, Nat.reduceEqDiff, not_false_eq_true, cc, e4, w2, w3] at g25
           try omega
           all_goals
            try simp only [one_ne, zero_eq, if_false, if_true, or_true, true_or, or_false, false_or]
            try simp only [zwr_rne, zwr_req, upd_ne, upd_eq, ne_eq, Nat.reduceEqDiff, not_false_eq_true, cc, e4, w2, w3]
            exact ⟨by first | rfl | trivial, hh⟩

theorem P_dispute {G : zGT} {d : Nat} {v1 v2 : Int32} : Pair G (d + 6) Y_X11_dispute Y_X12_dispute [.inl v1, .inl v2] := by
  intro σ h
  have hh := h
  obtain ⟨⟨k1, k2, k3, k4, k5, k6, k7, k8, k9⟩, kas, kcl, kda, kdh, kpl, kkp, ksh, kwt, ktp, klw, ksd, kw0, kw1⟩ := h
  obtain ⟨e1, b1, u1⟩ := id k1
  obtain ⟨e2, b2, u2⟩ := id k2
  obtain ⟨e3, b3, u3⟩ := id k3
  obtain ⟨e4, b4, u4⟩ := id k4
  obtain ⟨e5, b5, u5⟩ := id k5
  obtain ⟨e6, b6, u6⟩ := id k6
  obtain ⟨e7, b7, u7⟩ := id k7
  obtain ⟨e8, b8, u8⟩ := id k8
  obtain ⟨e9, b9, u9⟩ := id k9
  have f1 : (σ 0 15).toInt = (σ 72 1).toInt := by rw [e1]
  have f2 : (σ 14 5).toInt = (σ 72 2).toInt := by rw [e2]
  have f3 : (σ 1 6).toInt = (σ 72 8).toInt := by rw [e3]
  have f4 : (σ 0 16).toInt = (σ 72 0).toInt := by rw [e4]
  have f5 : (σ 55 7).toInt = (σ 72 22).toInt := by rw [e5]
  have f6 : (σ 14 6).toInt = (σ 72 23).toInt := by rw [e6]
  have f7 : (σ 0 17).toInt = (σ 72 24).toInt := by rw [e7]
  have f8 : (σ 0 13).toInt = (σ 72 25).toInt := by rw [e8]
  have f9 : (σ 46 1).toInt = (σ 72 28).toInt := by rw [e9]
  have l0 := ti0
  have l1 := ti1
  have l2 := ti2
  have l3 := ti3
  have l4 := ti4
  have l5 := ti5
  have l6 := ti6
  have l8 := ti8
  have l9 := ti9
  have l10 := ti10
  have l16 := ti16
  have l20 := ti20
  have l24 := ti24
  have l31 := ti31
  have l60 := ti60
  have l96 := ti96
  have l100 := ti100
  have l200 := ti200
  have l400 := ti400
  have l600 := ti600
  have l1200 := ti1200
  have l100000 := ti100000
  have lm1 := tim1
  have lB := tiB
  have lN := tiN
  rcases idx_of v1 (σ 72 8) with hb | ⟨c, rfl, hc, hc2⟩
  · refine en_X11_dispute ?_
    try simp only [zwr_rne, zwr_req, upd_ne, upd_eq, ne_eq, Nat.reduceEqDiff, not_false_eq_true]
    refine c_hasC (fun g1 g1' => ?_) (fun g1 => ?_)
    · try simp only [zwr_rne, zwr_req, upd_ne, upd_eq, ne_eq, Nat.reduceEqDiff, not_false_eq_true] at g1
      try simp only [zwr_rne, zwr_req, upd_ne, upd_eq, ne_eq, Nat.reduceEqDiff, not_false_eq_true] at g1'
      try omega
      all_goals
       try simp only [one_ne, zero_eq, if_false, if_true, or_true, true_or, or_false, false_or]
       refine zeq (fun g2 => ?_) (fun g2 => ?_)
       · try simp only [zwr_rne, zwr_req, upd_ne, upd_eq, ne_eq, Nat.reduceEqDiff, not_false_eq_true] at g2
         try omega
         all_goals
          refine ⟨by first | assumption | exact vin (by omega) | exact vp_in_I.mpr (by omega), ?_⟩
          refine ⟨by first | assumption | exact vin (by omega) | exact vp_in_I.mpr (by omega), ?_⟩
          rintro _ rfl
          try simp only [zwr_rne, zwr_req, upd_ne, upd_eq, ne_eq, Nat.reduceEqDiff, not_false_eq_true]
          refine en_X12_dispute ?_
          try simp only [zwr_rne, zwr_req, upd_ne, upd_eq, ne_eq, Nat.reduceEqDiff, not_false_eq_true]
          refine m_isClaim (by first | omega | (simp only [zwr_rne, zwr_req, upd_ne, upd_eq, ne_eq, Nat.reduceEqDiff, not_false_eq_true]; omega)) (fun g3 g3' => ?_) (fun g3 => ?_)
          · try simp only [zwr_rne, zwr_req, upd_ne, upd_eq, ne_eq, Nat.reduceEqDiff, not_false_eq_true] at g3
            try simp only [zwr_rne, zwr_req, upd_ne, upd_eq, ne_eq, Nat.reduceEqDiff, not_false_eq_true] at g3'
            try omega
            all_goals
             try simp only [one_ne, zero_eq, if_false, if_true, or_true, true_or, or_false, false_or]
             try simp only [zwr_rne, zwr_req, upd_ne, upd_eq, ne_eq, Nat.reduceEqDiff, not_false_eq_true]
             refine zeq (fun g4 => ?_) (fun g4 => ?_)
             · try simp only [zwr_rne, zwr_req, upd_ne, upd_eq, ne_eq, Nat.reduceEqDiff, not_false_eq_true] at g4
               try omega
               all_goals
                try simp only [zwr_rne, zwr_req, upd_ne, upd_eq, ne_eq, Nat.reduceEqDiff, not_false_eq_true]
                refine ⟨by first | assumption | exact vin (by omega) | exact vp_in_I.mpr (by omega), ?_⟩
                refine zeq (fun g5 => ?_) (fun g5 => ?_)
                · try simp only [zwr_rne, zwr_req, upd_ne, upd_eq, ne_eq, Nat.reduceEqDiff, not_false_eq_true] at g5
                  try omega
                  all_goals
                   try simp only [zwr_rne, zwr_req, upd_ne, upd_eq, ne_eq, Nat.reduceEqDiff, not_false_eq_true]
                   refine ⟨by first | assumption | exact vin (by omega) | exact vp_in_I.mpr (by omega), ?_⟩
                   rintro _ rfl
                   try simp only [zwr_rne, zwr_req, upd_ne, upd_eq, ne_eq, Nat.reduceEqDiff, not_false_eq_true]
                   exfalso; omega
                   try simp only [zwr_rne, zwr_req, upd_ne, upd_eq, ne_eq, Nat.reduceEqDiff, not_false_eq_true]
                   exact ⟨by first | rfl | trivial, hh⟩
                · exfalso; (try simp only [zwr_rne, zwr_req, upd_ne, upd_eq, ne_eq, Nat.reduceEqDiff, not_false_eq_true] at g5); omega
             · exfalso; (try simp only [zwr_rne, zwr_req, upd_ne, upd_eq, ne_eq, Nat.reduceEqDiff, not_false_eq_true] at g4); omega
          · exfalso; (try simp only [zwr_rne, zwr_req, upd_ne, upd_eq, ne_eq, Nat.reduceEqDiff, not_false_eq_true] at g3); omega
       · try simp only [zwr_rne, zwr_req, upd_ne, upd_eq, ne_eq, Nat.reduceEqDiff, not_false_eq_true] at g2
         try omega
         all_goals
          refine c_isWithin (fun g6 g6' => ?_) (fun g6 => ?_)
          · try simp only [zwr_rne, zwr_req, upd_ne, upd_eq, ne_eq, Nat.reduceEqDiff, not_false_eq_true] at g6
            try simp only [zwr_rne, zwr_req, upd_ne, upd_eq, ne_eq, Nat.reduceEqDiff, not_false_eq_true] at g6'
            try omega
            all_goals
             try simp only [one_ne, zero_eq, if_false, if_true, or_true, true_or, or_false, false_or]
             refine ⟨by first | assumption | exact vin (by omega) | exact vp_in_I.mpr (by omega), ?_⟩
             refine ⟨by first | assumption | exact vin (by omega) | exact vp_in_I.mpr (by omega), ?_⟩
             rintro _ rfl
             try simp only [zwr_rne, zwr_req, upd_ne, upd_eq, ne_eq, Nat.reduceEqDiff, not_false_eq_true]
             refine en_X12_dispute ?_
             try simp only [zwr_rne, zwr_req, upd_ne, upd_eq, ne_eq, Nat.reduceEqDiff, not_false_eq_true]
             refine m_isClaim (by first | omega | (simp only [zwr_rne, zwr_req, upd_ne, upd_eq, ne_eq, Nat.reduceEqDiff, not_false_eq_true]; omega)) (fun g7 g7' => ?_) (fun g7 => ?_)
             · try simp only [zwr_rne, zwr_req, upd_ne, upd_eq, ne_eq, Nat.reduceEqDiff, not_false_eq_true] at g7
               try simp only [zwr_rne, zwr_req, upd_ne, upd_eq, ne_eq, Nat.reduceEqDiff, not_false_eq_true] at g7'
               try omega
               all_goals
                try simp only [one_ne, zero_eq, if_false, if_true, or_true, true_or, or_false, false_or]
                try simp only [zwr_rne, zwr_req, upd_ne, upd_eq, ne_eq, Nat.reduceEqDiff, not_false_eq_true]
                refine zeq (fun g8 => ?_) (fun g8 => ?_)
                · exfalso; (try simp only [zwr_rne, zwr_req, upd_ne, upd_eq, ne_eq, Nat.reduceEqDiff, not_false_eq_true] at g8); omega
                · try simp only [zwr_rne, zwr_req, upd_ne, upd_eq, ne_eq, Nat.reduceEqDiff, not_false_eq_true] at g8
                  try omega
                  all_goals
                   try simp only [zwr_rne, zwr_req, upd_ne, upd_eq, ne_eq, Nat.reduceEqDiff, not_false_eq_true]
                   refine m_isIn (fun g9 g9' => ?_) (fun g9 => ?_)
                   · try simp only [zwr_rne, zwr_req, upd_ne, upd_eq, ne_eq, Nat.reduceEqDiff, not_false_eq_true] at g9
                     try simp only [zwr_rne, zwr_req, upd_ne, upd_eq, ne_eq, Nat.reduceEqDiff, not_false_eq_true] at g9'
                     try omega
                     all_goals
                      try simp only [one_ne, zero_eq, if_false, if_true, or_true, true_or, or_false, false_or]
                      try simp only [zwr_rne, zwr_req, upd_ne, upd_eq, ne_eq, Nat.reduceEqDiff, not_false_eq_true]
                      refine ⟨by first | assumption | exact vin (by omega) | exact vp_in_I.mpr (by omega), ?_⟩
                      refine zeq (fun g10 => ?_) (fun g10 => ?_)
                      · exfalso; (try simp only [zwr_rne, zwr_req, upd_ne, upd_eq, ne_eq, Nat.reduceEqDiff, not_false_eq_true] at g10); omega
                      · try simp only [zwr_rne, zwr_req, upd_ne, upd_eq, ne_eq, Nat.reduceEqDiff, not_false_eq_true] at g10
                        try omega
                        all_goals
                         try simp only [zwr_rne, zwr_req, upd_ne, upd_eq, ne_eq, Nat.reduceEqDiff, not_false_eq_true]
                         refine ⟨by first | assumption | exact vin (by omega) | exact vp_in_I.mpr (by omega), ?_⟩
                         rintro _ rfl
                         try simp only [zwr_rne, zwr_req, upd_ne, upd_eq, ne_eq, Nat.reduceEqDiff, not_false_eq_true]
                         exfalso; omega
                         try simp only [zwr_rne, zwr_req, upd_ne, upd_eq, ne_eq, Nat.reduceEqDiff, not_false_eq_true]
                         exact ⟨by first | rfl | trivial, hh⟩
                   · exfalso; (try simp only [zwr_rne, zwr_req, upd_ne, upd_eq, ne_eq, Nat.reduceEqDiff, not_false_eq_true] at g9); omega
             · exfalso; (try simp only [zwr_rne, zwr_req, upd_ne, upd_eq, ne_eq, Nat.reduceEqDiff, not_false_eq_true] at g7); omega
          · try simp only [zwr_rne, zwr_req, upd_ne, upd_eq, ne_eq, Nat.reduceEqDiff, not_false_eq_true] at g6
            try omega
            all_goals
             try simp only [one_ne, zero_eq, if_false, if_true, or_true, true_or, or_false, false_or]
             refine en_X12_dispute ?_
             try simp only [zwr_rne, zwr_req, upd_ne, upd_eq, ne_eq, Nat.reduceEqDiff, not_false_eq_true]
             refine m_isClaim (by first | omega | (simp only [zwr_rne, zwr_req, upd_ne, upd_eq, ne_eq, Nat.reduceEqDiff, not_false_eq_true]; omega)) (fun g11 g11' => ?_) (fun g11 => ?_)
             · try simp only [zwr_rne, zwr_req, upd_ne, upd_eq, ne_eq, Nat.reduceEqDiff, not_false_eq_true] at g11
               try simp only [zwr_rne, zwr_req, upd_ne, upd_eq, ne_eq, Nat.reduceEqDiff, not_false_eq_true] at g11'
               try omega
               all_goals
                try simp only [one_ne, zero_eq, if_false, if_true, or_true, true_or, or_false, false_or]
                try simp only [zwr_rne, zwr_req, upd_ne, upd_eq, ne_eq, Nat.reduceEqDiff, not_false_eq_true]
                refine zeq (fun g12 => ?_) (fun g12 => ?_)
                · exfalso; (try simp only [zwr_rne, zwr_req, upd_ne, upd_eq, ne_eq, Nat.reduceEqDiff, not_false_eq_true] at g12); omega
                · try simp only [zwr_rne, zwr_req, upd_ne, upd_eq, ne_eq, Nat.reduceEqDiff, not_false_eq_true] at g12
                  try omega
                  all_goals
                   try simp only [zwr_rne, zwr_req, upd_ne, upd_eq, ne_eq, Nat.reduceEqDiff, not_false_eq_true]
                   refine m_isIn (fun g13 g13' => ?_) (fun g13 => ?_)
                   · exfalso; (try simp only [zwr_rne, zwr_req, upd_ne, upd_eq, ne_eq, Nat.reduceEqDiff, not_false_eq_true] at g13); (try simp only [zwr_rne, zwr_req, upd_ne, upd_eq, ne_eq, Nat.reduceEqDiff, not_false_eq_true] at g13'); omega
                   · try simp only [zwr_rne, zwr_req, upd_ne, upd_eq, ne_eq, Nat.reduceEqDiff, not_false_eq_true] at g13
                     try omega
                     all_goals
                      try simp only [one_ne, zero_eq, if_false, if_true, or_true, true_or, or_false, false_or]
                      try simp only [zwr_rne, zwr_req, upd_ne, upd_eq, ne_eq, Nat.reduceEqDiff, not_false_eq_true]
                      exact ⟨by first | rfl | trivial, hh⟩
             · exfalso; (try simp only [zwr_rne, zwr_req, upd_ne, upd_eq, ne_eq, Nat.reduceEqDiff, not_false_eq_true] at g11); omega
    · try simp only [zwr_rne, zwr_req, upd_ne, upd_eq, ne_eq, Nat.reduceEqDiff, not_false_eq_true] at g1
      try omega
      all_goals
       try simp only [one_ne, zero_eq, if_false, if_true, or_true, true_or, or_false, false_or]
       refine en_X12_dispute ?_
       try simp only [zwr_rne, zwr_req, upd_ne, upd_eq, ne_eq, Nat.reduceEqDiff, not_false_eq_true]
       refine m_isClaim (by first | omega | (simp only [zwr_rne, zwr_req, upd_ne, upd_eq, ne_eq, Nat.reduceEqDiff, not_false_eq_true]; omega)) (fun g14 g14' => ?_) (fun g14 => ?_)
       · exfalso; (try simp only [zwr_rne, zwr_req, upd_ne, upd_eq, ne_eq, Nat.reduceEqDiff, not_false_eq_true] at g14); (try simp only [zwr_rne, zwr_req, upd_ne, upd_eq, ne_eq, Nat.reduceEqDiff, not_false_eq_true] at g14'); omega
       · try simp only [zwr_rne, zwr_req, upd_ne, upd_eq, ne_eq, Nat.reduceEqDiff, not_false_eq_true] at g14
         try omega
         all_goals
          try simp only [one_ne, zero_eq, if_false, if_true, or_true, true_or, or_false, false_or]
          try simp only [zwr_rne, zwr_req, upd_ne, upd_eq, ne_eq, Nat.reduceEqDiff, not_false_eq_true]
          exact ⟨by first | rfl | trivial, hh⟩
  · have tc := tin hc2
    have cc : (nI c).toNatClampNeg = c := cln hc2
    have vc : vp_in (nI c) 24 := vin (by omega)
    obtain ⟨a1, a2, a3, a4⟩ := kda.1 c hc
    obtain ⟨h1, h2, h3, h4⟩ := kdh.1 c hc
    obtain ⟨q1, q2, q3, q4, q5, q6, q7, q8, q9, q10, q11, q12⟩ := kcl.1 c hc
    obtain ⟨p1, p2, p3, p4, p5, p6⟩ := kpl.1 c hc
    have fq1 : (σ 2 c).toInt = (σ 78 c).toInt := by rw [q1]
    have fq2 : (σ 3 c).toInt = (σ 79 c).toInt := by rw [q2]
    by_cases gN : v2 = -1000000005
    · have gNt : v2.toInt = -1000000005 := by rw [gN]; rfl
      refine en_X11_dispute ?_
      try simp only [zwr_rne, zwr_req, upd_ne, upd_eq, ne_eq, Nat.reduceEqDiff, not_false_eq_true, cc]
      refine c_hasC (fun g1 g1' => ?_) (fun g1 => ?_)
      · try simp only [zwr_rne, zwr_req, upd_ne, upd_eq, ne_eq, Nat.reduceEqDiff, not_false_eq_true, cc] at g1
        try simp only [zwr_rne, zwr_req, upd_ne, upd_eq, ne_eq, Nat.reduceEqDiff, not_false_eq_true, cc] at g1'
        try omega
        all_goals
         try simp only [one_ne, zero_eq, if_false, if_true, or_true, true_or, or_false, false_or]
         refine zeq (fun g2 => ?_) (fun g2 => ?_)
         · try simp only [zwr_rne, zwr_req, upd_ne, upd_eq, ne_eq, Nat.reduceEqDiff, not_false_eq_true, cc] at g2
           try omega
           all_goals
            refine ⟨by first | assumption | exact vin (by omega) | exact vp_in_I.mpr (by omega), ?_⟩
            refine ⟨by first | assumption | exact vin (by omega) | exact vp_in_I.mpr (by omega), ?_⟩
            rintro _ rfl
            try simp only [zwr_rne, zwr_req, upd_ne, upd_eq, ne_eq, Nat.reduceEqDiff, not_false_eq_true, cc]
            refine en_X12_dispute ?_
            try simp only [zwr_rne, zwr_req, upd_ne, upd_eq, ne_eq, Nat.reduceEqDiff, not_false_eq_true, cc]
            refine m_isClaim (by first | omega | (simp only [zwr_rne, zwr_req, upd_ne, upd_eq, ne_eq, Nat.reduceEqDiff, not_false_eq_true, cc]; omega)) (fun g3 g3' => ?_) (fun g3 => ?_)
            · try simp only [zwr_rne, zwr_req, upd_ne, upd_eq, ne_eq, Nat.reduceEqDiff, not_false_eq_true, cc] at g3
              try simp only [zwr_rne, zwr_req, upd_ne, upd_eq, ne_eq, Nat.reduceEqDiff, not_false_eq_true, cc] at g3'
              try omega
              all_goals
               try simp only [one_ne, zero_eq, if_false, if_true, or_true, true_or, or_false, false_or]
               try simp only [zwr_rne, zwr_req, upd_ne, upd_eq, ne_eq, Nat.reduceEqDiff, not_false_eq_true, cc]
               refine zeq (fun g4 => ?_) (fun g4 => ?_)
               · try simp only [zwr_rne, zwr_req, upd_ne, upd_eq, ne_eq, Nat.reduceEqDiff, not_false_eq_true, cc] at g4
                 try omega
                 all_goals
                  try simp only [zwr_rne, zwr_req, upd_ne, upd_eq, ne_eq, Nat.reduceEqDiff, not_false_eq_true, cc]
                  refine ⟨by first | assumption | exact vin (by omega) | exact vp_in_I.mpr (by omega), ?_⟩
                  refine zeq (fun g5 => ?_) (fun g5 => ?_)
                  · try simp only [zwr_rne, zwr_req, upd_ne, upd_eq, ne_eq, Nat.reduceEqDiff, not_false_eq_true, cc] at g5
                    try omega
                    all_goals
                     try simp only [zwr_rne, zwr_req, upd_ne, upd_eq, ne_eq, Nat.reduceEqDiff, not_false_eq_true, cc]
                     refine ⟨by first | assumption | exact vin (by omega) | exact vp_in_I.mpr (by omega), ?_⟩
                     rintro _ rfl
                     try simp only [zwr_rne, zwr_req, upd_ne, upd_eq, ne_eq, Nat.reduceEqDiff, not_false_eq_true, cc]
                     refine m_orNone q11 ?_
                     try simp only [zwr_rne, zwr_req, upd_ne, upd_eq, ne_eq, Nat.reduceEqDiff, not_false_eq_true, cc]
                     refine ⟨q4, ?_⟩
                     unfold Rall
                     simp only [zwr_rne, zwr_req, upd_ne, upd_eq, ne_eq, Nat.reduceEqDiff, not_false_eq_true]
                     subst gN
                     exact ⟨⟨k1, k2, k3, k4, k5, k6, k7, k8, k9⟩, kas, kcl.setD enc_m1.symm (by decide) (by decide), kda, kdh, kpl, kkp, ksh, kwt, ktp, klw, ksd, kw0, kw1⟩
                  · exfalso; (try simp only [zwr_rne, zwr_req, upd_ne, upd_eq, ne_eq, Nat.reduceEqDiff, not_false_eq_true, cc] at g5); omega
               · exfalso; (try simp only [zwr_rne, zwr_req, upd_ne, upd_eq, ne_eq, Nat.reduceEqDiff, not_false_eq_true, cc] at g4); omega
            · exfalso; (try simp only [zwr_rne, zwr_req, upd_ne, upd_eq, ne_eq, Nat.reduceEqDiff, not_false_eq_true, cc] at g3); omega
         · try simp only [zwr_rne, zwr_req, upd_ne, upd_eq, ne_eq, Nat.reduceEqDiff, not_false_eq_true, cc] at g2
           try omega
           all_goals
            refine c_isWithin (fun g6 g6' => ?_) (fun g6 => ?_)
            · try simp only [zwr_rne, zwr_req, upd_ne, upd_eq, ne_eq, Nat.reduceEqDiff, not_false_eq_true, cc] at g6
              try simp only [zwr_rne, zwr_req, upd_ne, upd_eq, ne_eq, Nat.reduceEqDiff, not_false_eq_true, cc] at g6'
              try omega
              all_goals
               try simp only [one_ne, zero_eq, if_false, if_true, or_true, true_or, or_false, false_or]
               refine ⟨by first | assumption | exact vin (by omega) | exact vp_in_I.mpr (by omega), ?_⟩
               refine ⟨by first | assumption | exact vin (by omega) | exact vp_in_I.mpr (by omega), ?_⟩
               rintro _ rfl
               try simp only [zwr_rne, zwr_req, upd_ne, upd_eq, ne_eq, Nat.reduceEqDiff, not_false_eq_true, cc]
               refine en_X12_dispute ?_
               try simp only [zwr_rne, zwr_req, upd_ne, upd_eq, ne_eq, Nat.reduceEqDiff, not_false_eq_true, cc]
               refine m_isClaim (by first | omega | (simp only [zwr_rne, zwr_req, upd_ne, upd_eq, ne_eq, Nat.reduceEqDiff, not_false_eq_true, cc]; omega)) (fun g7 g7' => ?_) (fun g7 => ?_)
               · try simp only [zwr_rne, zwr_req, upd_ne, upd_eq, ne_eq, Nat.reduceEqDiff, not_false_eq_true, cc] at g7
                 try simp only [zwr_rne, zwr_req, upd_ne, upd_eq, ne_eq, Nat.reduceEqDiff, not_false_eq_true, cc] at g7'
                 try omega
                 all_goals
                  try simp only [one_ne, zero_eq, if_false, if_true, or_true, true_or, or_false, false_or]
                  try simp only [zwr_rne, zwr_req, upd_ne, upd_eq, ne_eq, Nat.reduceEqDiff, not_false_eq_true, cc]
                  refine zeq (fun g8 => ?_) (fun g8 => ?_)
                  · exfalso; (try simp only [zwr_rne, zwr_req, upd_ne, upd_eq, ne_eq, Nat.reduceEqDiff, not_false_eq_true, cc] at g8); omega
                  · try simp only [zwr_rne, zwr_req, upd_ne, upd_eq, ne_eq, Nat.reduceEqDiff, not_false_eq_true, cc] at g8
                    try omega
                    all_goals
                     try simp only [zwr_rne, zwr_req, upd_ne, upd_eq, ne_eq, Nat.reduceEqDiff, not_false_eq_true, cc]
                     refine m_isIn (fun g9 g9' => ?_) (fun g9 => ?_)
                     · try simp only [zwr_rne, zwr_req, upd_ne, upd_eq, ne_eq, Nat.reduceEqDiff, not_false_eq_true, cc] at g9
                       try simp only [zwr_rne, zwr_req, upd_ne, upd_eq, ne_eq, Nat.reduceEqDiff, not_false_eq_true, cc] at g9'
                       try omega
                       all_goals
                        try simp only [one_ne, zero_eq, if_false, if_true, or_true, true_or, or_false, false_or]
                        try simp only [zwr_rne, zwr_req, upd_ne, upd_eq, ne_eq, Nat.reduceEqDiff, not_false_eq_true, cc]
                        refine ⟨by first | assumption | exact vin (by omega) | exact vp_in_I.mpr (by omega), ?_⟩
                        refine zeq (fun g10 => ?_) (fun g10 => ?_)
                        · exfalso; (try simp only [zwr_rne, zwr_req, upd_ne, upd_eq, ne_eq, Nat.reduceEqDiff, not_false_eq_true, cc] at g10); omega
                        · try simp only [zwr_rne, zwr_req, upd_ne, upd_eq, ne_eq, Nat.reduceEqDiff, not_false_eq_true, cc] at g10
                          try omega
                          all_goals
                           try simp only [zwr_rne, zwr_req, upd_ne, upd_eq, ne_eq, Nat.reduceEqDiff, not_false_eq_true, cc]
                           refine ⟨by first | assumption | exact vin (by omega) | exact vp_in_I.mpr (by omega), ?_⟩
                           rintro _ rfl
                           try simp only [zwr_rne, zwr_req, upd_ne, upd_eq, ne_eq, Nat.reduceEqDiff, not_false_eq_true, cc]
                           refine m_orNone q11 ?_
                           try simp only [zwr_rne, zwr_req, upd_ne, upd_eq, ne_eq, Nat.reduceEqDiff, not_false_eq_true, cc]
                           refine ⟨q4, ?_⟩
                           unfold Rall
                           simp only [zwr_rne, zwr_req, upd_ne, upd_eq, ne_eq, Nat.reduceEqDiff, not_false_eq_true]
                           subst gN
                           exact ⟨⟨k1, k2, k3, k4, k5, k6, k7, k8, k9⟩, kas, kcl.setD enc_m1.symm (by decide) (by decide), kda, kdh, kpl, kkp, ksh, kwt, ktp, klw, ksd, kw0, kw1⟩
                     · exfalso; (try simp only [zwr_rne, zwr_req, upd_ne, upd_eq, ne_eq, Nat.reduceEqDiff, not_false_eq_true, cc] at g9); omega
               · exfalso; (try simp only [zwr_rne, zwr_req, upd_ne, upd_eq, ne_eq, Nat.reduceEqDiff, not_false_eq_true, cc] at g7); omega
            · try simp only [zwr_rne, zwr_req, upd_ne, upd_eq, ne_eq, Nat.reduceEqDiff, not_false_eq_true, cc] at g6
              try omega
              all_goals
               try simp only [one_ne, zero_eq, if_false, if_true, or_true, true_or, or_false, false_or]
               refine en_X12_dispute ?_
               try simp only [zwr_rne, zwr_req, upd_ne, upd_eq, ne_eq, Nat.reduceEqDiff, not_false_eq_true, cc]
               refine m_isClaim (by first | omega | (simp only [zwr_rne, zwr_req, upd_ne, upd_eq, ne_eq, Nat.reduceEqDiff, not_false_eq_true, cc]; omega)) (fun g11 g11' => ?_) (fun g11 => ?_)
               · try simp only [zwr_rne, zwr_req, upd_ne, upd_eq, ne_eq, Nat.reduceEqDiff, not_false_eq_true, cc] at g11
                 try simp only [zwr_rne, zwr_req, upd_ne, upd_eq, ne_eq, Nat.reduceEqDiff, not_false_eq_true, cc] at g11'
                 try omega
                 all_goals
                  try simp only [one_ne, zero_eq, if_false, if_true, or_true, true_or, or_false, false_or]
                  try simp only [zwr_rne, zwr_req, upd_ne, upd_eq, ne_eq, Nat.reduceEqDiff, not_false_eq_true, cc]
                  refine zeq (fun g12 => ?_) (fun g12 => ?_)
                  · exfalso; (try simp only [zwr_rne, zwr_req, upd_ne, upd_eq, ne_eq, Nat.reduceEqDiff, not_false_eq_true, cc] at g12); omega
                  · try simp only [zwr_rne, zwr_req, upd_ne, upd_eq, ne_eq, Nat.reduceEqDiff, not_false_eq_true, cc] at g12
                    try omega
                    all_goals
                     try simp only [zwr_rne, zwr_req, upd_ne, upd_eq, ne_eq, Nat.reduceEqDiff, not_false_eq_true, cc]
                     refine m_isIn (fun g13 g13' => ?_) (fun g13 => ?_)
                     · exfalso; (try simp only [zwr_rne, zwr_req, upd_ne, upd_eq, ne_eq, Nat.reduceEqDiff, not_false_eq_true, cc] at g13); (try simp only [zwr_rne, zwr_req, upd_ne, upd_eq, ne_eq, Nat.reduceEqDiff, not_false_eq_true, cc] at g13'); omega
                     · try simp only [zwr_rne, zwr_req, upd_ne, upd_eq, ne_eq, Nat.reduceEqDiff, not_false_eq_true, cc] at g13
                       try omega
                       all_goals
                        try simp only [one_ne, zero_eq, if_false, if_true, or_true, true_or, or_false, false_or]
                        try simp only [zwr_rne, zwr_req, upd_ne, upd_eq, ne_eq, Nat.reduceEqDiff, not_false_eq_true, cc]
                        exact ⟨by first | rfl | trivial, hh⟩
               · exfalso; (try simp only [zwr_rne, zwr_req, upd_ne, upd_eq, ne_eq, Nat.reduceEqDiff, not_false_eq_true, cc] at g11); omega
      · try simp only [zwr_rne, zwr_req, upd_ne, upd_eq, ne_eq, Nat.reduceEqDiff, not_false_eq_true, cc] at g1
        try omega
        all_goals
         try simp only [one_ne, zero_eq, if_false, if_true, or_true, true_or, or_false, false_or]
         refine en_X12_dispute ?_
         try simp only [zwr_rne, zwr_req, upd_ne, upd_eq, ne_eq, Nat.reduceEqDiff, not_false_eq_true, cc]
         refine m_isClaim (by first | omega | (simp only [zwr_rne, zwr_req, upd_ne, upd_eq, ne_eq, Nat.reduceEqDiff, not_false_eq_true, cc]; omega)) (fun g14 g14' => ?_) (fun g14 => ?_)
         · exfalso; (try simp only [zwr_rne, zwr_req, upd_ne, upd_eq, ne_eq, Nat.reduceEqDiff, not_false_eq_true, cc] at g14); (try simp only [zwr_rne, zwr_req, upd_ne, upd_eq, ne_eq, Nat.reduceEqDiff, not_false_eq_true, cc] at g14'); omega
         · try simp only [zwr_rne, zwr_req, upd_ne, upd_eq, ne_eq, Nat.reduceEqDiff, not_false_eq_true, cc] at g14
           try omega
           all_goals
            try simp only [one_ne, zero_eq, if_false, if_true, or_true, true_or, or_false, false_or]
            try simp only [zwr_rne, zwr_req, upd_ne, upd_eq, ne_eq, Nat.reduceEqDiff, not_false_eq_true, cc]
            exact ⟨by first | rfl | trivial, hh⟩
    rw [fa_eq, tiN] at gN
    refine en_X11_dispute ?_
    try simp only [zwr_rne, zwr_req, upd_ne, upd_eq, ne_eq, Nat.reduceEqDiff, not_false_eq_true, cc]
    refine c_hasC (fun g1 g1' => ?_) (fun g1 => ?_)
    · try simp only [zwr_rne, zwr_req, upd_ne, upd_eq, ne_eq, Nat.reduceEqDiff, not_false_eq_true, cc] at g1
      try simp only [zwr_rne, zwr_req, upd_ne, upd_eq, ne_eq, Nat.reduceEqDiff, not_false_eq_true, cc] at g1'
      try omega
      all_goals
       try simp only [one_ne, zero_eq, if_false, if_true, or_true, true_or, or_false, false_or]
       refine zeq (fun g2 => ?_) (fun g2 => ?_)
       · try simp only [zwr_rne, zwr_req, upd_ne, upd_eq, ne_eq, Nat.reduceEqDiff, not_false_eq_true, cc] at g2
         try omega
         all_goals
          refine ⟨by first | assumption | exact vin (by omega) | exact vp_in_I.mpr (by omega), ?_⟩
          refine ⟨by first | assumption | exact vin (by omega) | exact vp_in_I.mpr (by omega), ?_⟩
          rintro _ rfl
          try simp only [zwr_rne, zwr_req, upd_ne, upd_eq, ne_eq, Nat.reduceEqDiff, not_false_eq_true, cc]
          refine en_X12_dispute ?_
          try simp only [zwr_rne, zwr_req, upd_ne, upd_eq, ne_eq, Nat.reduceEqDiff, not_false_eq_true, cc]
          refine m_isClaim (by first | omega | (simp only [zwr_rne, zwr_req, upd_ne, upd_eq, ne_eq, Nat.reduceEqDiff, not_false_eq_true, cc]; omega)) (fun g3 g3' => ?_) (fun g3 => ?_)
          · try simp only [zwr_rne, zwr_req, upd_ne, upd_eq, ne_eq, Nat.reduceEqDiff, not_false_eq_true, cc] at g3
            try simp only [zwr_rne, zwr_req, upd_ne, upd_eq, ne_eq, Nat.reduceEqDiff, not_false_eq_true, cc] at g3'
            try omega
            all_goals
             try simp only [one_ne, zero_eq, if_false, if_true, or_true, true_or, or_false, false_or]
             try simp only [zwr_rne, zwr_req, upd_ne, upd_eq, ne_eq, Nat.reduceEqDiff, not_false_eq_true, cc]
             refine zeq (fun g4 => ?_) (fun g4 => ?_)
             · try simp only [zwr_rne, zwr_req, upd_ne, upd_eq, ne_eq, Nat.reduceEqDiff, not_false_eq_true, cc] at g4
               try omega
               all_goals
                try simp only [zwr_rne, zwr_req, upd_ne, upd_eq, ne_eq, Nat.reduceEqDiff, not_false_eq_true, cc]
                refine ⟨by first | assumption | exact vin (by omega) | exact vp_in_I.mpr (by omega), ?_⟩
                refine zeq (fun g5 => ?_) (fun g5 => ?_)
                · try simp only [zwr_rne, zwr_req, upd_ne, upd_eq, ne_eq, Nat.reduceEqDiff, not_false_eq_true, cc] at g5
                  try omega
                  all_goals
                   try simp only [zwr_rne, zwr_req, upd_ne, upd_eq, ne_eq, Nat.reduceEqDiff, not_false_eq_true, cc]
                   refine ⟨by first | assumption | exact vin (by omega) | exact vp_in_I.mpr (by omega), ?_⟩
                   rintro _ rfl
                   try simp only [zwr_rne, zwr_req, upd_ne, upd_eq, ne_eq, Nat.reduceEqDiff, not_false_eq_true, cc]
                   refine m_orNone q11 ?_
                   try simp only [zwr_rne, zwr_req, upd_ne, upd_eq, ne_eq, Nat.reduceEqDiff, not_false_eq_true, cc]
                   refine ⟨q4, ?_⟩
                   unfold Rall
                   simp only [zwr_rne, zwr_req, upd_ne, upd_eq, ne_eq, Nat.reduceEqDiff, not_false_eq_true]
                   exact ⟨⟨k1, k2, k3, k4, k5, k6, k7, k8, k9⟩, kas, kcl.setD (enc_nn (by omega)).symm (by omega) (by omega), kda, kdh, kpl, kkp, ksh, kwt, ktp, klw, ksd, kw0, kw1⟩
                · exfalso; (try simp only [zwr_rne, zwr_req, upd_ne, upd_eq, ne_eq, Nat.reduceEqDiff, not_false_eq_true, cc] at g5); omega
             · exfalso; (try simp only [zwr_rne, zwr_req, upd_ne, upd_eq, ne_eq, Nat.reduceEqDiff, not_false_eq_true, cc] at g4); omega
          · exfalso; (try simp only [zwr_rne, zwr_req, upd_ne, upd_eq, ne_eq, Nat.reduceEqDiff, not_false_eq_true, cc] at g3); omega
       · try simp only [zwr_rne, zwr_req, upd_ne, upd_eq, ne_eq, Nat.reduceEqDiff, not_false_eq_true, cc] at g2
         try omega
         all_goals
          refine c_isWithin (fun g6 g6' => ?_) (fun g6 => ?_)
          · try simp only [zwr_rne, zwr_req, upd_ne, upd_eq, ne_eq, Nat.reduceEqDiff, not_false_eq_true, cc] at g6
            try simp only [zwr_rne, zwr_req, upd_ne, upd_eq, ne_eq, Nat.reduceEqDiff, not_false_eq_true, cc] at g6'
            try omega
            all_goals
             try simp only [one_ne, zero_eq, if_false, if_true, or_true, true_or, or_false, false_or]
             refine ⟨by first | assumption | exact vin (by omega) | exact vp_in_I.mpr (by omega), ?_⟩
             refine ⟨by first | assumption | exact vin (by omega) | exact vp_in_I.mpr (by omega), ?_⟩
             rintro _ rfl
             try simp only [zwr_rne, zwr_req, upd_ne, upd_eq, ne_eq, Nat.reduceEqDiff, not_false_eq_true, cc]
             refine en_X12_dispute ?_
             try simp only [zwr_rne, zwr_req, upd_ne, upd_eq, ne_eq, Nat.reduceEqDiff, not_false_eq_true, cc]
             refine m_isClaim (by first | omega | (simp only [zwr_rne, zwr_req, upd_ne, upd_eq, ne_eq, Nat.reduceEqDiff, not_false_eq_true, cc]; omega)) (fun g7 g7' => ?_) (fun g7 => ?_)
             · try simp only [zwr_rne, zwr_req, upd_ne, upd_eq, ne_eq, Nat.reduceEqDiff, not_false_eq_true, cc] at g7
               try simp only [zwr_rne, zwr_req, upd_ne, upd_eq, ne_eq, Nat.reduceEqDiff, not_false_eq_true, cc] at g7'
               try omega
               all_goals
                try simp only [one_ne, zero_eq, if_false, if_true, or_true, true_or, or_false, false_or]
                try simp only [zwr_rne, zwr_req, upd_ne, upd_eq, ne_eq, Nat.reduceEqDiff, not_false_eq_true, cc]
                refine zeq (fun g8 => ?_) (fun g8 => ?_)
                · exfalso; (try simp only [zwr_rne, zwr_req, upd_ne, upd_eq, ne_eq, Nat.reduceEqDiff, not_false_eq_true, cc] at g8); omega
                · try simp only [zwr_rne, zwr_req, upd_ne, upd_eq, ne_eq, Nat.reduceEqDiff, not_false_eq_true, cc] at g8
                  try omega
                  all_goals
                   try simp only [zwr_rne, zwr_req, upd_ne, upd_eq, ne_eq, Nat.reduceEqDiff, not_false_eq_true, cc]
                   refine m_isIn (fun g9 g9' => ?_) (fun g9 => ?_)
                   · try simp only [zwr_rne, zwr_req, upd_ne, upd_eq, ne_eq, Nat.reduceEqDiff, not_false_eq_true, cc] at g9
                     try simp only [zwr_rne, zwr_req, upd_ne, upd_eq, ne_eq, Nat.reduceEqDiff, not_false_eq_true, cc] at g9'
                     try omega
                     all_goals
                      try simp only [one_ne, zero_eq, if_false, if_true, or_true, true_or, or_false, false_or]
                      try simp only [zwr_rne, zwr_req, upd_ne, upd_eq, ne_eq, Nat.reduceEqDiff, not_false_eq_true, cc]
                      refine ⟨by first | assumption | exact vin (by omega) | exact vp_in_I.mpr (by omega), ?_⟩
                      refine zeq (fun g10 => ?_) (fun g10 => ?_)
                      · exfalso; (try simp only [zwr_rne, zwr_req, upd_ne, upd_eq, ne_eq, Nat.reduceEqDiff, not_false_eq_true, cc] at g10); omega
                      · try simp only [zwr_rne, zwr_req, upd_ne, upd_eq, ne_eq, Nat.reduceEqDiff, not_false_eq_true, cc] at g10
                        try omega
                        all_goals
                         try simp only [zwr_rne, zwr_req, upd_ne, upd_eq, ne_eq, Nat.reduceEqDiff, not_false_eq_true, cc]
                         refine ⟨by first | assumption | exact vin (by omega) | exact vp_in_I.mpr (by omega), ?_⟩
                         rintro _ rfl
                         try simp only [zwr_rne, zwr_req, upd_ne, upd_eq, ne_eq, Nat.reduceEqDiff, not_false_eq_true, cc]
                         refine m_orNone q11 ?_
                         try simp only [zwr_rne, zwr_req, upd_ne, upd_eq, ne_eq, Nat.reduceEqDiff, not_false_eq_true, cc]
                         refine ⟨q4, ?_⟩
                         unfold Rall
                         simp only [zwr_rne, zwr_req, upd_ne, upd_eq, ne_eq, Nat.reduceEqDiff, not_false_eq_true]
                         exact ⟨⟨k1, k2, k3, k4, k5, k6, k7, k8, k9⟩, kas, kcl.setD (enc_nn (by omega)).symm (by omega) (by omega), kda, kdh, kpl, kkp, ksh, kwt, ktp, klw, ksd, kw0, kw1⟩
                   · exfalso; (try simp only [zwr_rne, zwr_req, upd_ne, upd_eq, ne_eq, Nat.reduceEqDiff, not_false_eq_true, cc] at g9); omega
             · exfalso; (try simp only [zwr_rne, zwr_req, upd_ne, upd_eq, ne_eq, Nat.reduceEqDiff, not_false_eq_true, cc] at g7); omega
          · try simp only [zwr_rne, zwr_req, upd_ne, upd_eq, ne_eq, Nat.reduceEqDiff, not_false_eq_true, cc] at g6
            try omega
            all_goals
             try simp only [one_ne, zero_eq, if_false, if_true, or_true, true_or, or_false, false_or]
             refine en_X12_dispute ?_
             try simp only [zwr_rne, zwr_req, upd_ne, upd_eq, ne_eq, Nat.reduceEqDiff, not_false_eq_true, cc]
             refine m_isClaim (by first | omega | (simp only [zwr_rne, zwr_req, upd_ne, upd_eq, ne_eq, Nat.reduceEqDiff, not_false_eq_true, cc]; omega)) (fun g11 g11' => ?_) (fun g11 => ?_)
             · try simp only [zwr_rne, zwr_req, upd_ne, upd_eq, ne_eq, Nat.reduceEqDiff, not_false_eq_true, cc] at g11
               try simp only [zwr_rne, zwr_req, upd_ne, upd_eq, ne_eq, Nat.reduceEqDiff, not_false_eq_true, cc] at g11'
               try omega
               all_goals
                try simp only [one_ne, zero_eq, if_false, if_true, or_true, true_or, or_false, false_or]
                try simp only [zwr_rne, zwr_req, upd_ne, upd_eq, ne_eq, Nat.reduceEqDiff, not_false_eq_true, cc]
                refine zeq (fun g12 => ?_) (fun g12 => ?_)
                · exfalso; (try simp only [zwr_rne, zwr_req, upd_ne, upd_eq, ne_eq, Nat.reduceEqDiff, not_false_eq_true, cc] at g12); omega
                · try simp only [zwr_rne, zwr_req, upd_ne, upd_eq, ne_eq, Nat.reduceEqDiff, not_false_eq_true, cc] at g12
                  try omega
                  all_goals
                   try simp only [zwr_rne, zwr_req, upd_ne, upd_eq, ne_eq, Nat.reduceEqDiff, not_false_eq_true, cc]
                   refine m_isIn (fun g13 g13' => ?_) (fun g13 => ?_)
                   · exfalso; (try simp only [zwr_rne, zwr_req, upd_ne, upd_eq, ne_eq, Nat.reduceEqDiff, not_false_eq_true, cc] at g13); (try simp only [zwr_rne, zwr_req, upd_ne, upd_eq, ne_eq, Nat.reduceEqDiff, not_false_eq_true, cc] at g13'); omega
                   · try simp only [zwr_rne, zwr_req, upd_ne, upd_eq, ne_eq, Nat.reduceEqDiff, not_false_eq_true, cc] at g13
                     try omega
                     all_goals
                      try simp only [one_ne, zero_eq, if_false, if_true, or_true, true_or, or_false, false_or]
                      try simp only [zwr_rne, zwr_req, upd_ne, upd_eq, ne_eq, Nat.reduceEqDiff, not_false_eq_true, cc]
                      exact ⟨by first | rfl | trivial, hh⟩
             · exfalso; (try simp only [zwr_rne, zwr_req, upd_ne, upd_eq, ne_eq, Nat.reduceEqDiff, not_false_eq_true, cc] at g11); omega
    · try simp only [zwr_rne, zwr_req, upd_ne, upd_eq, ne_eq, Nat.reduceEqDiff, not_false_eq_true, cc] at g1
      try omega
      all_goals
       try simp only [one_ne, zero_eq, if_false, if_true, or_true, true_or, or_false, false_or]
       refine en_X12_dispute ?_
       try simp only [zwr_rne, zwr_req, upd_ne, upd_eq, ne_eq, Nat.reduceEqDiff, not_false_eq_true, cc]
       refine m_isClaim (by first | omega | (simp only [zwr_rne, zwr_req, upd_ne, upd_eq, ne_eq, Nat.reduceEqDiff, not_false_eq_true, cc]; omega)) (fun g14 g14' => ?_) (fun g14 => ?_)
       · exfalso; (try simp only [zwr_rne, zwr_req, upd_ne, upd_eq, ne_eq, Nat.reduceEqDiff, not_false_eq_true, cc] at g14); (try simp only [zwr_rne, zwr_req, upd_ne, upd_eq, ne_eq, Nat.reduceEqDiff, not_false_eq_true, cc] at g14'); omega
       · try simp only [zwr_rne, zwr_req, upd_ne, upd_eq, ne_eq, Nat.reduceEqDiff, not_false_eq_true, cc] at g14
         try omega
         all_goals
          try simp only [one_ne, zero_eq, if_false, if_true, or_true, true_or, or_false, false_or]
          try simp only [zwr_rne, zwr_req, upd_ne, upd_eq, ne_eq, Nat.reduceEqDiff, not_false_eq_true, cc]
          exact ⟨by first | rfl | trivial, hh⟩

theorem P_put {G : zGT} {d : Nat} {v1 v2 : Int32} : Pair G (d + 6) Y_X11_put Y_X12_put [.inl v1, .inl v2] := by
  intro σ h
  have hh := h
  obtain ⟨⟨k1, k2, k3, k4, k5, k6, k7, k8, k9⟩, kas, kcl, kda, kdh, kpl, kkp, ksh, kwt, ktp, klw, ksd, kw0, kw1⟩ := h
  obtain ⟨e1, b1, u1⟩ := id k1
  obtain ⟨e2, b2, u2⟩ := id k2
  obtain ⟨e3, b3, u3⟩ := id k3
  obtain ⟨e4, b4, u4⟩ := id k4
  obtain ⟨e5, b5, u5⟩ := id k5
  obtain ⟨e6, b6, u6⟩ := id k6
  obtain ⟨e7, b7, u7⟩ := id k7
  obtain ⟨e8, b8, u8⟩ := id k8
  obtain ⟨e9, b9, u9⟩ := id k9
  have f1 : (σ 0 15).toInt = (σ 72 1).toInt := by rw [e1]
  have f2 : (σ 14 5).toInt = (σ 72 2).toInt := by rw [e2]
  have f3 : (σ 1 6).toInt = (σ 72 8).toInt := by rw [e3]
  have f4 : (σ 0 16).toInt = (σ 72 0).toInt := by rw [e4]
  have f5 : (σ 55 7).toInt = (σ 72 22).toInt := by rw [e5]
  have f6 : (σ 14 6).toInt = (σ 72 23).toInt := by rw [e6]
  have f7 : (σ 0 17).toInt = (σ 72 24).toInt := by rw [e7]
  have f8 : (σ 0 13).toInt = (σ 72 25).toInt := by rw [e8]
  have f9 : (σ 46 1).toInt = (σ 72 28).toInt := by rw [e9]
  have l0 := ti0
  have l1 := ti1
  have l2 := ti2
  have l3 := ti3
  have l4 := ti4
  have l5 := ti5
  have l6 := ti6
  have l8 := ti8
  have l9 := ti9
  have l10 := ti10
  have l16 := ti16
  have l20 := ti20
  have l24 := ti24
  have l31 := ti31
  have l60 := ti60
  have l96 := ti96
  have l100 := ti100
  have l200 := ti200
  have l400 := ti400
  have l600 := ti600
  have l1200 := ti1200
  have l100000 := ti100000
  have lm1 := tim1
  have lB := tiB
  have lN := tiN
  rcases idx_of v1 (σ 72 8) with hb | ⟨c, rfl, hc, hc2⟩
  · refine en_X11_put ?_
    try simp only [zwr_rne, zwr_req, upd_ne, upd_eq, ne_eq, Nat.reduceEqDiff, not_false_eq_true]
    refine c_hasC (fun g1 g1' => ?_) (fun g1 => ?_)
    · try simp only [zwr_rne, zwr_req, upd_ne, upd_eq, ne_eq, Nat.reduceEqDiff, not_false_eq_true] at g1
      try simp only [zwr_rne, zwr_req, upd_ne, upd_eq, ne_eq, Nat.reduceEqDiff, not_false_eq_true] at g1'
      try omega
      all_goals
       try simp only [one_ne, zero_eq, if_false, if_true, or_true, true_or, or_false, false_or]
       refine zeq (fun g2 => ?_) (fun g2 => ?_)
       · try simp only [zwr_rne, zwr_req, upd_ne, upd_eq, ne_eq, Nat.reduceEqDiff, not_false_eq_true] at g2
         try omega
         all_goals
          refine ⟨by first | assumption | exact vin (by omega) | exact vp_in_I.mpr (by omega), ?_⟩
          refine ⟨by first | assumption | exact vin (by omega) | exact vp_in_I.mpr (by omega), ?_⟩
          rintro _ rfl
          try simp only [zwr_rne, zwr_req, upd_ne, upd_eq, ne_eq, Nat.reduceEqDiff, not_false_eq_true]
          refine en_X12_put ?_
          try simp only [zwr_rne, zwr_req, upd_ne, upd_eq, ne_eq, Nat.reduceEqDiff, not_false_eq_true]
          refine m_isClaim (by first | omega | (simp only [zwr_rne, zwr_req, upd_ne, upd_eq, ne_eq, Nat.reduceEqDiff, not_false_eq_true]; omega)) (fun g3 g3' => ?_) (fun g3 => ?_)
          · try simp only [zwr_rne, zwr_req, upd_ne, upd_eq, ne_eq, Nat.reduceEqDiff, not_false_eq_true] at g3
            try simp only [zwr_rne, zwr_req, upd_ne, upd_eq, ne_eq, Nat.reduceEqDiff, not_false_eq_true] at g3'
            try omega
            all_goals
             try simp only [one_ne, zero_eq, if_false, if_true, or_true, true_or, or_false, false_or]
             try simp only [zwr_rne, zwr_req, upd_ne, upd_eq, ne_eq, Nat.reduceEqDiff, not_false_eq_true]
             refine zeq (fun g4 => ?_) (fun g4 => ?_)
             · try simp only [zwr_rne, zwr_req, upd_ne, upd_eq, ne_eq, Nat.reduceEqDiff, not_false_eq_true] at g4
               try omega
               all_goals
                try simp only [zwr_rne, zwr_req, upd_ne, upd_eq, ne_eq, Nat.reduceEqDiff, not_false_eq_true]
                refine ⟨by first | assumption | exact vin (by omega) | exact vp_in_I.mpr (by omega), ?_⟩
                refine zeq (fun g5 => ?_) (fun g5 => ?_)
                · try simp only [zwr_rne, zwr_req, upd_ne, upd_eq, ne_eq, Nat.reduceEqDiff, not_false_eq_true] at g5
                  try omega
                  all_goals
                   try simp only [zwr_rne, zwr_req, upd_ne, upd_eq, ne_eq, Nat.reduceEqDiff, not_false_eq_true]
                   refine ⟨by first | assumption | exact vin (by omega) | exact vp_in_I.mpr (by omega), ?_⟩
                   rintro _ rfl
                   try simp only [zwr_rne, zwr_req, upd_ne, upd_eq, ne_eq, Nat.reduceEqDiff, not_false_eq_true]
                   exfalso; omega
                   try simp only [zwr_rne, zwr_req, upd_ne, upd_eq, ne_eq, Nat.reduceEqDiff, not_false_eq_true]
                   exact ⟨by first | rfl | trivial, hh⟩
                · exfalso; (try simp only [zwr_rne, zwr_req, upd_ne, upd_eq, ne_eq, Nat.reduceEqDiff, not_false_eq_true] at g5); omega
             · exfalso; (try simp only [zwr_rne, zwr_req, upd_ne, upd_eq, ne_eq, Nat.reduceEqDiff, not_false_eq_true] at g4); omega
          · exfalso; (try simp only [zwr_rne, zwr_req, upd_ne, upd_eq, ne_eq, Nat.reduceEqDiff, not_false_eq_true] at g3); omega
       · try simp only [zwr_rne, zwr_req, upd_ne, upd_eq, ne_eq, Nat.reduceEqDiff, not_false_eq_true] at g2
         try omega
         all_goals
          refine c_isClass (fun g6 g6' => ?_) (fun g6 => ?_)
          · try simp only [zwr_rne, zwr_req, upd_ne, upd_eq, ne_eq, Nat.reduceEqDiff, not_false_eq_true] at g6
            try simp only [zwr_rne, zwr_req, upd_ne, upd_eq, ne_eq, Nat.reduceEqDiff, not_false_eq_true] at g6'
            try omega
            all_goals
             try simp only [one_ne, zero_eq, if_false, if_true, or_true, true_or, or_false, false_or]
             refine ⟨by first | assumption | exact vin (by omega) | exact vp_in_I.mpr (by omega), ?_⟩
             refine ⟨by first | assumption | exact vin (by omega) | exact vp_in_I.mpr (by omega), ?_⟩
             rintro _ rfl
             try simp only [zwr_rne, zwr_req, upd_ne, upd_eq, ne_eq, Nat.reduceEqDiff, not_false_eq_true]
             refine en_X12_put ?_
             try simp only [zwr_rne, zwr_req, upd_ne, upd_eq, ne_eq, Nat.reduceEqDiff, not_false_eq_true]
             refine m_isClaim (by first | omega | (simp only [zwr_rne, zwr_req, upd_ne, upd_eq, ne_eq, Nat.reduceEqDiff, not_false_eq_true]; omega)) (fun g7 g7' => ?_) (fun g7 => ?_)
             · try simp only [zwr_rne, zwr_req, upd_ne, upd_eq, ne_eq, Nat.reduceEqDiff, not_false_eq_true] at g7
               try simp only [zwr_rne, zwr_req, upd_ne, upd_eq, ne_eq, Nat.reduceEqDiff, not_false_eq_true] at g7'
               try omega
               all_goals
                try simp only [one_ne, zero_eq, if_false, if_true, or_true, true_or, or_false, false_or]
                try simp only [zwr_rne, zwr_req, upd_ne, upd_eq, ne_eq, Nat.reduceEqDiff, not_false_eq_true]
                refine zeq (fun g8 => ?_) (fun g8 => ?_)
                · exfalso; (try simp only [zwr_rne, zwr_req, upd_ne, upd_eq, ne_eq, Nat.reduceEqDiff, not_false_eq_true] at g8); omega
                · try simp only [zwr_rne, zwr_req, upd_ne, upd_eq, ne_eq, Nat.reduceEqDiff, not_false_eq_true] at g8
                  try omega
                  all_goals
                   try simp only [zwr_rne, zwr_req, upd_ne, upd_eq, ne_eq, Nat.reduceEqDiff, not_false_eq_true]
                   refine m_isClass (fun g9 g9' => ?_) (fun g9 => ?_)
                   · try simp only [zwr_rne, zwr_req, upd_ne, upd_eq, ne_eq, Nat.reduceEqDiff, not_false_eq_true] at g9
                     try simp only [zwr_rne, zwr_req, upd_ne, upd_eq, ne_eq, Nat.reduceEqDiff, not_false_eq_true] at g9'
                     try omega
                     all_goals
                      try simp only [one_ne, zero_eq, if_false, if_true, or_true, true_or, or_false, false_or]
                      try simp only [zwr_rne, zwr_req, upd_ne, upd_eq, ne_eq, Nat.reduceEqDiff, not_false_eq_true]
                      refine ⟨by first | assumption | exact vin (by omega) | exact vp_in_I.mpr (by omega), ?_⟩
                      refine zeq (fun g10 => ?_) (fun g10 => ?_)
                      · exfalso; (try simp only [zwr_rne, zwr_req, upd_ne, upd_eq, ne_eq, Nat.reduceEqDiff, not_false_eq_true] at g10); omega
                      · try simp only [zwr_rne, zwr_req, upd_ne, upd_eq, ne_eq, Nat.reduceEqDiff, not_false_eq_true] at g10
                        try omega
                        all_goals
                         try simp only [zwr_rne, zwr_req, upd_ne, upd_eq, ne_eq, Nat.reduceEqDiff, not_false_eq_true]
                         refine ⟨by first | assumption | exact vin (by omega) | exact vp_in_I.mpr (by omega), ?_⟩
                         rintro _ rfl
                         try simp only [zwr_rne, zwr_req, upd_ne, upd_eq, ne_eq, Nat.reduceEqDiff, not_false_eq_true]
                         exfalso; omega
                         try simp only [zwr_rne, zwr_req, upd_ne, upd_eq, ne_eq, Nat.reduceEqDiff, not_false_eq_true]
                         exact ⟨by first | rfl | trivial, hh⟩
                   · exfalso; (try simp only [zwr_rne, zwr_req, upd_ne, upd_eq, ne_eq, Nat.reduceEqDiff, not_false_eq_true] at g9); omega
             · exfalso; (try simp only [zwr_rne, zwr_req, upd_ne, upd_eq, ne_eq, Nat.reduceEqDiff, not_false_eq_true] at g7); omega
          · try simp only [zwr_rne, zwr_req, upd_ne, upd_eq, ne_eq, Nat.reduceEqDiff, not_false_eq_true] at g6
            try omega
            all_goals
             try simp only [one_ne, zero_eq, if_false, if_true, or_true, true_or, or_false, false_or]
             refine en_X12_put ?_
             try simp only [zwr_rne, zwr_req, upd_ne, upd_eq, ne_eq, Nat.reduceEqDiff, not_false_eq_true]
             refine m_isClaim (by first | omega | (simp only [zwr_rne, zwr_req, upd_ne, upd_eq, ne_eq, Nat.reduceEqDiff, not_false_eq_true]; omega)) (fun g11 g11' => ?_) (fun g11 => ?_)
             · try simp only [zwr_rne, zwr_req, upd_ne, upd_eq, ne_eq, Nat.reduceEqDiff, not_false_eq_true] at g11
               try simp only [zwr_rne, zwr_req, upd_ne, upd_eq, ne_eq, Nat.reduceEqDiff, not_false_eq_true] at g11'
               try omega
               all_goals
                try simp only [one_ne, zero_eq, if_false, if_true, or_true, true_or, or_false, false_or]
                try simp only [zwr_rne, zwr_req, upd_ne, upd_eq, ne_eq, Nat.reduceEqDiff, not_false_eq_true]
                refine zeq (fun g12 => ?_) (fun g12 => ?_)
                · exfalso; (try simp only [zwr_rne, zwr_req, upd_ne, upd_eq, ne_eq, Nat.reduceEqDiff, not_false_eq_true] at g12); omega
                · try simp only [zwr_rne, zwr_req, upd_ne, upd_eq, ne_eq, Nat.reduceEqDiff, not_false_eq_true] at g12
                  try omega
                  all_goals
                   try simp only [zwr_rne, zwr_req, upd_ne, upd_eq, ne_eq, Nat.reduceEqDiff, not_false_eq_true]
                   refine m_isClass (fun g13 g13' => ?_) (fun g13 => ?_)
                   · exfalso; (try simp only [zwr_rne, zwr_req, upd_ne, upd_eq, ne_eq, Nat.reduceEqDiff, not_false_eq_true] at g13); (try simp only [zwr_rne, zwr_req, upd_ne, upd_eq, ne_eq, Nat.reduceEqDiff, not_false_eq_true] at g13'); omega
                   · try simp only [zwr_rne, zwr_req, upd_ne, upd_eq, ne_eq, Nat.reduceEqDiff, not_false_eq_true] at g13
                     try omega
                     all_goals
                      try simp only [one_ne, zero_eq, if_false, if_true, or_true, true_or, or_false, false_or]
                      try simp only [zwr_rne, zwr_req, upd_ne, upd_eq, ne_eq, Nat.reduceEqDiff, not_false_eq_true]
                      exact ⟨by first | rfl | trivial, hh⟩
             · exfalso; (try simp only [zwr_rne, zwr_req, upd_ne, upd_eq, ne_eq, Nat.reduceEqDiff, not_false_eq_true] at g11); omega
    · try simp only [zwr_rne, zwr_req, upd_ne, upd_eq, ne_eq, Nat.reduceEqDiff, not_false_eq_true] at g1
      try omega
      all_goals
       try simp only [one_ne, zero_eq, if_false, if_true, or_true, true_or, or_false, false_or]
       refine en_X12_put ?_
       try simp only [zwr_rne, zwr_req, upd_ne, upd_eq, ne_eq, Nat.reduceEqDiff, not_false_eq_true]
       refine m_isClaim (by first | omega | (simp only [zwr_rne, zwr_req, upd_ne, upd_eq, ne_eq, Nat.reduceEqDiff, not_false_eq_true]; omega)) (fun g14 g14' => ?_) (fun g14 => ?_)
       · exfalso; (try simp only [zwr_rne, zwr_req, upd_ne, upd_eq, ne_eq, Nat.reduceEqDiff, not_false_eq_true] at g14); (try simp only [zwr_rne, zwr_req, upd_ne, upd_eq, ne_eq, Nat.reduceEqDiff, not_false_eq_true] at g14'); omega
       · try simp only [zwr_rne, zwr_req, upd_ne, upd_eq, ne_eq, Nat.reduceEqDiff, not_false_eq_true] at g14
         try omega
         all_goals
          try simp only [one_ne, zero_eq, if_false, if_true, or_true, true_or, or_false, false_or]
          try simp only [zwr_rne, zwr_req, upd_ne, upd_eq, ne_eq, Nat.reduceEqDiff, not_false_eq_true]
          exact ⟨by first | rfl | trivial, hh⟩
  · have tc := tin hc2
    have cc : (nI c).toNatClampNeg = c := cln hc2
    have vc : vp_in (nI c) 24 := vin (by omega)
    obtain ⟨a1, a2, a3, a4⟩ := kda.1 c hc
    obtain ⟨h1, h2, h3, h4⟩ := kdh.1 c hc
    obtain ⟨q1, q2, q3, q4, q5, q6, q7, q8, q9, q10, q11, q12⟩ := kcl.1 c hc
    obtain ⟨p1, p2, p3, p4, p5, p6⟩ := kpl.1 c hc
    have fq1 : (σ 2 c).toInt = (σ 78 c).toInt := by rw [q1]
    have fq2 : (σ 3 c).toInt = (σ 79 c).toInt := by rw [q2]
    by_cases gN : v2 = -1000000005
    · have gNt : v2.toInt = -1000000005 := by rw [gN]; rfl
      refine en_X11_put ?_
      try simp only [zwr_rne, zwr_req, upd_ne, upd_eq, ne_eq, Nat.reduceEqDiff, not_false_eq_true, cc]
      refine c_hasC (fun g1 g1' => ?_) (fun g1 => ?_)
      · try simp only [zwr_rne, zwr_req, upd_ne, upd_eq, ne_eq, Nat.reduceEqDiff, not_false_eq_true, cc] at g1
        try simp only [zwr_rne, zwr_req, upd_ne, upd_eq, ne_eq, Nat.reduceEqDiff, not_false_eq_true, cc] at g1'
        try omega
        all_goals
         try simp only [one_ne, zero_eq, if_false, if_true, or_true, true_or, or_false, false_or]
         refine zeq (fun g2 => ?_) (fun g2 => ?_)
         · try simp only [zwr_rne, zwr_req, upd_ne, upd_eq, ne_eq, Nat.reduceEqDiff, not_false_eq_true, cc] at g2
           try omega
           all_goals
            refine ⟨by first | assumption | exact vin (by omega) | exact vp_in_I.mpr (by omega), ?_⟩
            refine ⟨by first | assumption | exact vin (by omega) | exact vp_in_I.mpr (by omega), ?_⟩
            rintro _ rfl
            try simp only [zwr_rne, zwr_req, upd_ne, upd_eq, ne_eq, Nat.reduceEqDiff, not_false_eq_true, cc]
            refine en_X12_put ?_
            try simp only [zwr_rne, zwr_req, upd_ne, upd_eq, ne_eq, Nat.reduceEqDiff, not_false_eq_true, cc]
            refine m_isClaim (by first | omega | (simp only [zwr_rne, zwr_req, upd_ne, upd_eq, ne_eq, Nat.reduceEqDiff, not_false_eq_true, cc]; omega)) (fun g3 g3' => ?_) (fun g3 => ?_)
            · try simp only [zwr_rne, zwr_req, upd_ne, upd_eq, ne_eq, Nat.reduceEqDiff, not_false_eq_true, cc] at g3
              try simp only [zwr_rne, zwr_req, upd_ne, upd_eq, ne_eq, Nat.reduceEqDiff, not_false_eq_true, cc] at g3'
              try omega
              all_goals
               try simp only [one_ne, zero_eq, if_false, if_true, or_true, true_or, or_false, false_or]
               try simp only [zwr_rne, zwr_req, upd_ne, upd_eq, ne_eq, Nat.reduceEqDiff, not_false_eq_true, cc]
               refine zeq (fun g4 => ?_) (fun g4 => ?_)
               · try simp only [zwr_rne, zwr_req, upd_ne, upd_eq, ne_eq, Nat.reduceEqDiff, not_false_eq_true, cc] at g4
                 try omega
                 all_goals
                  try simp only [zwr_rne, zwr_req, upd_ne, upd_eq, ne_eq, Nat.reduceEqDiff, not_false_eq_true, cc]
                  refine ⟨by first | assumption | exact vin (by omega) | exact vp_in_I.mpr (by omega), ?_⟩
                  refine zeq (fun g5 => ?_) (fun g5 => ?_)
                  · try simp only [zwr_rne, zwr_req, upd_ne, upd_eq, ne_eq, Nat.reduceEqDiff, not_false_eq_true, cc] at g5
                    try omega
                    all_goals
                     try simp only [zwr_rne, zwr_req, upd_ne, upd_eq, ne_eq, Nat.reduceEqDiff, not_false_eq_true, cc]
                     refine ⟨by first | assumption | exact vin (by omega) | exact vp_in_I.mpr (by omega), ?_⟩
                     rintro _ rfl
                     try simp only [zwr_rne, zwr_req, upd_ne, upd_eq, ne_eq, Nat.reduceEqDiff, not_false_eq_true, cc]
                     refine m_orNone p3 ?_
                     try simp only [zwr_rne, zwr_req, upd_ne, upd_eq, ne_eq, Nat.reduceEqDiff, not_false_eq_true, cc]
                     refine ⟨p1, ?_⟩
                     unfold Rall
                     simp only [zwr_rne, zwr_req, upd_ne, upd_eq, ne_eq, Nat.reduceEqDiff, not_false_eq_true]
                     subst gN
                     exact ⟨⟨k1, k2, k3, k4, k5, k6, k7, k8, k9⟩, kas, kcl, kda, kdh, kpl.setC enc_m1.symm (by decide) (by decide), kkp, ksh, kwt, ktp, klw, ksd, kw0, kw1⟩
                  · exfalso; (try simp only [zwr_rne, zwr_req, upd_ne, upd_eq, ne_eq, Nat.reduceEqDiff, not_false_eq_true, cc] at g5); omega
               · exfalso; (try simp only [zwr_rne, zwr_req, upd_ne, upd_eq, ne_eq, Nat.reduceEqDiff, not_false_eq_true, cc] at g4); omega
            · exfalso; (try simp only [zwr_rne, zwr_req, upd_ne, upd_eq, ne_eq, Nat.reduceEqDiff, not_false_eq_true, cc] at g3); omega
         · try simp only [zwr_rne, zwr_req, upd_ne, upd_eq, ne_eq, Nat.reduceEqDiff, not_false_eq_true, cc] at g2
           try omega
           all_goals
            refine c_isClass (fun g6 g6' => ?_) (fun g6 => ?_)
            · try simp only [zwr_rne, zwr_req, upd_ne, upd_eq, ne_eq, Nat.reduceEqDiff, not_false_eq_true, cc] at g6
              try simp only [zwr_rne, zwr_req, upd_ne, upd_eq, ne_eq, Nat.reduceEqDiff, not_false_eq_true, cc] at g6'
              try omega
              all_goals
               try simp only [one_ne, zero_eq, if_false, if_true, or_true, true_or, or_false, false_or]
               refine ⟨by first | assumption | exact vin (by omega) | exact vp_in_I.mpr (by omega), ?_⟩
               refine ⟨by first | assumption | exact vin (by omega) | exact vp_in_I.mpr (by omega), ?_⟩
               rintro _ rfl
               try simp only [zwr_rne, zwr_req, upd_ne, upd_eq, ne_eq, Nat.reduceEqDiff, not_false_eq_true, cc]
               refine en_X12_put ?_
               try simp only [zwr_rne, zwr_req, upd_ne, upd_eq, ne_eq, Nat.reduceEqDiff, not_false_eq_true, cc]
               refine m_isClaim (by first | omega | (simp only [zwr_rne, zwr_req, upd_ne, upd_eq, ne_eq, Nat.reduceEqDiff, not_false_eq_true, cc]; omega)) (fun g7 g7' => ?_) (fun g7 => ?_)
               · try simp only [zwr_rne, zwr_req, upd_ne, upd_eq, ne_eq, Nat.reduceEqDiff, not_false_eq_true, cc] at g7
                 try simp only [zwr_rne, zwr_req, upd_ne, upd_eq, ne_eq, Nat.reduceEqDiff, not_false_eq_true, cc] at g7'
                 try omega
                 all_goals
                  try simp only [one_ne, zero_eq, if_false, if_true, or_true, true_or, or_false, false_or]
                  try simp only [zwr_rne, zwr_req, upd_ne, upd_eq, ne_eq, Nat.reduceEqDiff, not_false_eq_true, cc]
                  refine zeq (fun g8 => ?_) (fun g8 => ?_)
                  · exfalso; (try simp only [zwr_rne, zwr_req, upd_ne, upd_eq, ne_eq, Nat.reduceEqDiff, not_false_eq_true, cc] at g8); omega
                  · try simp only [zwr_rne, zwr_req, upd_ne, upd_eq, ne_eq, Nat.reduceEqDiff, not_false_eq_true, cc] at g8
                    try omega
                    all_goals
                     try simp only [zwr_rne, zwr_req, upd_ne, upd_eq, ne_eq, Nat.reduceEqDiff, not_false_eq_true, cc]
                     refine m_isClass (fun g9 g9' => ?_) (fun g9 => ?_)
                     · try simp only [zwr_rne, zwr_req, upd_ne, upd_eq, ne_eq, Nat.reduceEqDiff, not_false_eq_true, cc] at g9
                       try simp only [zwr_rne, zwr_req, upd_ne, upd_eq, ne_eq, Nat.reduceEqDiff, not_false_eq_true, cc] at g9'
                       try omega
                       all_goals
                        try simp only [one_ne, zero_eq, if_false, if_true, or_true, true_or, or_false, false_or]
                        try simp only [zwr_rne, zwr_req, upd_ne, upd_eq, ne_eq, Nat.reduceEqDiff, not_false_eq_true, cc]
                        refine ⟨by first | assumption | exact vin (by omega) | exact vp_in_I.mpr (by omega), ?_⟩
                        refine zeq (fun g10 => ?_) (fun g10 => ?_)
                        · exfalso; (try simp only [zwr_rne, zwr_req, upd_ne, upd_eq, ne_eq, Nat.reduceEqDiff, not_false_eq_true, cc] at g10); omega
                        · try simp only [zwr_rne, zwr_req, upd_ne, upd_eq, ne_eq, Nat.reduceEqDiff, not_false_eq_true, cc] at g10
                          try omega
                          all_goals
                           try simp only [zwr_rne, zwr_req, upd_ne, upd_eq, ne_eq, Nat.reduceEqDiff, not_false_eq_true, cc]
                           refine ⟨by first | assumption | exact vin (by omega) | exact vp_in_I.mpr (by omega), ?_⟩
                           rintro _ rfl
                           try simp only [zwr_rne, zwr_req, upd_ne, upd_eq, ne_eq, Nat.reduceEqDiff, not_false_eq_true, cc]
                           refine m_orNone p3 ?_
                           try simp only [zwr_rne, zwr_req, upd_ne, upd_eq, ne_eq, Nat.reduceEqDiff, not_false_eq_true, cc]
                           refine ⟨p1, ?_⟩
                           unfold Rall
                           simp only [zwr_rne, zwr_req, upd_ne, upd_eq, ne_eq, Nat.reduceEqDiff, not_false_eq_true]
                           subst gN
                           exact ⟨⟨k1, k2, k3, k4, k5, k6, k7, k8, k9⟩, kas, kcl, kda, kdh, kpl.setC enc_m1.symm (by decide) (by decide), kkp, ksh, kwt, ktp, klw, ksd, kw0, kw1⟩
                     · exfalso; (try simp only [zwr_rne, zwr_req, upd_ne, upd_eq, ne_eq, Nat.reduceEqDiff, not_false_eq_true, cc] at g9); omega
               · exfalso; (try simp only [zwr_rne, zwr_req, upd_ne, upd_eq, ne_eq, Nat.reduceEqDiff, not_false_eq_true, cc] at g7); omega
            · try simp only [zwr_rne, zwr_req, upd_ne, upd_eq, ne_eq, Nat.reduceEqDiff, not_false_eq_true, cc] at g6
              try omega
              all_goals
               try simp only [one_ne, zero_eq, if_false, if_true, or_true, true_or, or_false, false_or]
               refine en_X12_put ?_
               try simp only [zwr_rne, zwr_req, upd_ne, upd_eq, ne_eq, Nat.reduceEqDiff, not_false_eq_true, cc]
               refine m_isClaim (by first | omega | (simp only [zwr_rne, zwr_req, upd_ne, upd_eq, ne_eq, Nat.reduceEqDiff, not_false_eq_true, cc]; omega)) (fun g11 g11' => ?_) (fun g11 => ?_)
               · try simp only [zwr_rne, zwr_req, upd_ne, upd_eq, ne_eq, Nat.reduceEqDiff, not_false_eq_true, cc] at g11
                 try simp only [zwr_rne, zwr_req, upd_ne, upd_eq, ne_eq, Nat.reduceEqDiff, not_false_eq_true, cc] at g11'
                 try omega
                 all_goals
                  try simp only [one_ne, zero_eq, if_false, if_true, or_true, true_or, or_false, false_or]
                  try simp only [zwr_rne, zwr_req, upd_ne, upd_eq, ne_eq, Nat.reduceEqDiff, not_false_eq_true, cc]
                  refine zeq (fun g12 => ?_) (fun g12 => ?_)
                  · exfalso; (try simp only [zwr_rne, zwr_req, upd_ne, upd_eq, ne_eq, Nat.reduceEqDiff, not_false_eq_true, cc] at g12); omega
                  · try simp only [zwr_rne, zwr_req, upd_ne, upd_eq, ne_eq, Nat.reduceEqDiff, not_false_eq_true, cc] at g12
                    try omega
                    all_goals
                     try simp only [zwr_rne, zwr_req, upd_ne, upd_eq, ne_eq, Nat.reduceEqDiff, not_false_eq_true, cc]
                     refine m_isClass (fun g13 g13' => ?_) (fun g13 => ?_)
                     · exfalso; (try simp only [zwr_rne, zwr_req, upd_ne, upd_eq, ne_eq, Nat.reduceEqDiff, not_false_eq_true, cc] at g13); (try simp only [zwr_rne, zwr_req, upd_ne, upd_eq, ne_eq, Nat.reduceEqDiff, not_false_eq_true, cc] at g13'); omega
                     · try simp only [zwr_rne, zwr_req, upd_ne, upd_eq, ne_eq, Nat.reduceEqDiff, not_false_eq_true, cc] at g13
                       try omega
                       all_goals
                        try simp only [one_ne, zero_eq, if_false, if_true, or_true, true_or, or_false, false_or]
                        try simp only [zwr_rne, zwr_req, upd_ne, upd_eq, ne_eq, Nat.reduceEqDiff, not_false_eq_true, cc]
                        exact ⟨by first | rfl | trivial, hh⟩
               · exfalso; (try simp only [zwr_rne, zwr_req, upd_ne, upd_eq, ne_eq, Nat.reduceEqDiff, not_false_eq_true, cc] at g11); omega
      · try simp only [zwr_rne, zwr_req, upd_ne, upd_eq, ne_eq, Nat.reduceEqDiff, not_false_eq_true, cc] at g1
        try omega
        all_goals
         try simp only [one_ne, zero_eq, if_false, if_true, or_true, true_or, or_false, false_or]
         refine en_X12_put ?_
         try simp only [zwr_rne, zwr_req, upd_ne, upd_eq, ne_eq, Nat.reduceEqDiff, not_false_eq_true, cc]
         refine m_isClaim (by first | omega | (simp only [zwr_rne, zwr_req, upd_ne, upd_eq, ne_eq, Nat.reduceEqDiff, not_false_eq_true, cc]; omega)) (fun g14 g14' => ?_) (fun g14 => ?_)
         · exfalso; (try simp only [zwr_rne, zwr_req, upd_ne, upd_eq, ne_eq, Nat.reduceEqDiff, not_false_eq_true, cc] at g14); (try simp only [zwr_rne, zwr_req, upd_ne, upd_eq, ne_eq, Nat.reduceEqDiff, not_false_eq_true, cc] at g14'); omega
         · try simp only [zwr_rne, zwr_req, upd_ne, upd_eq, ne_eq, Nat.reduceEqDiff, not_false_eq_true, cc] at g14
           try omega
           all_goals
            try simp only [one_ne, zero_eq, if_false, if_true, or_true, true_or, or_false, false_or]
            try simp only [zwr_rne, zwr_req, upd_ne, upd_eq, ne_eq, Nat.reduceEqDiff, not_false_eq_true, cc]
            exact ⟨by first | rfl | trivial, hh⟩
    rw [fa_eq, tiN] at gN
    refine en_X11_put ?_
    try simp only [zwr_rne, zwr_req, upd_ne, upd_eq, ne_eq, Nat.reduceEqDiff, not_false_eq_true, cc]
    refine c_hasC (fun g1 g1' => ?_) (fun g1 => ?_)
    · try simp only [zwr_rne, zwr_req, upd_ne, upd_eq, ne_eq, Nat.reduceEqDiff, not_false_eq_true, cc] at g1
      try simp only [zwr_rne, zwr_req, upd_ne, upd_eq, ne_eq, Nat.reduceEqDiff, not_false_eq_true, cc] at g1'
      try omega
      all_goals
       try simp only [one_ne, zero_eq, if_false, if_true, or_true, true_or, or_false, false_or]
       refine zeq (fun g2 => ?_) (fun g2 => ?_)
       · try simp only [zwr_rne, zwr_req, upd_ne, upd_eq, ne_eq, Nat.reduceEqDiff, not_false_eq_true, cc] at g2
         try omega
         all_goals
          refine ⟨by first | assumption | exact vin (by omega) | exact vp_in_I.mpr (by omega), ?_⟩
          refine ⟨by first | assumption | exact vin (by omega) | exact vp_in_I.mpr (by omega), ?_⟩
          rintro _ rfl
          try simp only [zwr_rne, zwr_req, upd_ne, upd_eq, ne_eq, Nat.reduceEqDiff, not_false_eq_true, cc]
          refine en_X12_put ?_
          try simp only [zwr_rne, zwr_req, upd_ne, upd_eq, ne_eq, Nat.reduceEqDiff, not_false_eq_true, cc]
          refine m_isClaim (by first | omega | (simp only [zwr_rne, zwr_req, upd_ne, upd_eq, ne_eq, Nat.reduceEqDiff, not_false_eq_true, cc]; omega)) (fun g3 g3' => ?_) (fun g3 => ?_)
          · try simp only [zwr_rne, zwr_req, upd_ne, upd_eq, ne_eq, Nat.reduceEqDiff, not_false_eq_true, cc] at g3
            try simp only [zwr_rne, zwr_req, upd_ne, upd_eq, ne_eq, Nat.reduceEqDiff, not_false_eq_true, cc] at g3'
            try omega
            all_goals
             try simp only [one_ne, zero_eq, if_false, if_true, or_true, true_or, or_false, false_or]
             try simp only [zwr_rne, zwr_req, upd_ne, upd_eq, ne_eq, Nat.reduceEqDiff, not_false_eq_true, cc]
             refine zeq (fun g4 => ?_) (fun g4 => ?_)
             · try simp only [zwr_rne, zwr_req, upd_ne, upd_eq, ne_eq, Nat.reduceEqDiff, not_false_eq_true, cc] at g4
               try omega
               all_goals
                try simp only [zwr_rne, zwr_req, upd_ne, upd_eq, ne_eq, Nat.reduceEqDiff, not_false_eq_true, cc]
                refine ⟨by first | assumption | exact vin (by omega) | exact vp_in_I.mpr (by omega), ?_⟩
                refine zeq (fun g5 => ?_) (fun g5 => ?_)
                · try simp only [zwr_rne, zwr_req, upd_ne, upd_eq, ne_eq, Nat.reduceEqDiff, not_false_eq_true, cc] at g5
                  try omega
                  all_goals
                   try simp only [zwr_rne, zwr_req, upd_ne, upd_eq, ne_eq, Nat.reduceEqDiff, not_false_eq_true, cc]
                   refine ⟨by first | assumption | exact vin (by omega) | exact vp_in_I.mpr (by omega), ?_⟩
                   rintro _ rfl
                   try simp only [zwr_rne, zwr_req, upd_ne, upd_eq, ne_eq, Nat.reduceEqDiff, not_false_eq_true, cc]
                   refine m_orNone p3 ?_
                   try simp only [zwr_rne, zwr_req, upd_ne, upd_eq, ne_eq, Nat.reduceEqDiff, not_false_eq_true, cc]
                   refine ⟨p1, ?_⟩
                   unfold Rall
                   simp only [zwr_rne, zwr_req, upd_ne, upd_eq, ne_eq, Nat.reduceEqDiff, not_false_eq_true]
                   exact ⟨⟨k1, k2, k3, k4, k5, k6, k7, k8, k9⟩, kas, kcl, kda, kdh, kpl.setC (enc_nn (by omega)).symm (by omega) (by omega), kkp, ksh, kwt, ktp, klw, ksd, kw0, kw1⟩
                · exfalso; (try simp only [zwr_rne, zwr_req, upd_ne, upd_eq, ne_eq, Nat.reduceEqDiff, not_false_eq_true, cc] at g5); omega
             · exfalso; (try simp only [zwr_rne, zwr_req, upd_ne, upd_eq, ne_eq, Nat.reduceEqDiff, not_false_eq_true, cc] at g4); omega
          · exfalso; (try simp only [zwr_rne, zwr_req, upd_ne, upd_eq, ne_eq, Nat.reduceEqDiff, not_false_eq_true, cc] at g3); omega
       · try simp only [zwr_rne, zwr_req, upd_ne, upd_eq, ne_eq, Nat.reduceEqDiff, not_false_eq_true, cc] at g2
         try omega
         all_goals
          refine c_isClass (fun g6 g6' => ?_) (fun g6 => ?_)
          · try simp only [zwr_rne, zwr_req, upd_ne, upd_eq, ne_eq, Nat.reduceEqDiff, not_false_eq_true, cc] at g6
            try simp only [zwr_rne, zwr_req, upd_ne, upd_eq, ne_eq, Nat.reduceEqDiff, not_false_eq_true, cc] at g6'
            try omega
            all_goals
             try simp only [one_ne, zero_eq, if_false, if_true, or_true, true_or, or_false, false_or]
             refine ⟨by first | assumption | exact vin (by omega) | exact vp_in_I.mpr (by omega), ?_⟩
             refine ⟨by first | assumption | exact vin (by omega) | exact vp_in_I.mpr (by omega), ?_⟩
             rintro _ rfl
             try simp only [zwr_rne, zwr_req, upd_ne, upd_eq, ne_eq, Nat.reduceEqDiff, not_false_eq_true, cc]
             refine en_X12_put ?_
             try simp only [zwr_rne, zwr_req, upd_ne, upd_eq, ne_eq, Nat.reduceEqDiff, not_false_eq_true, cc]
             refine m_isClaim (by first | omega | (simp only [zwr_rne, zwr_req, upd_ne, upd_eq, ne_eq, Nat.reduceEqDiff, not_false_eq_true, cc]; omega)) (fun g7 g7' => ?_) (fun g7 => ?_)
             · try simp only [zwr_rne, zwr_req, upd_ne, upd_eq, ne_eq, Nat.reduceEqDiff, not_false_eq_true, cc] at g7
               try simp only [zwr_rne, zwr_req, upd_ne, upd_eq, ne_eq, Nat.reduceEqDiff, not_false_eq_true, cc] at g7'
               try omega
               all_goals
                try simp only [one_ne, zero_eq, if_false, if_true, or_true, true_or, or_false, false_or]
                try simp only [zwr_rne, zwr_req, upd_ne, upd_eq, ne_eq, Nat.reduceEqDiff, not_false_eq_true, cc]
                refine zeq (fun g8 => ?_) (fun g8 => ?_)
                · exfalso; (try simp only [zwr_rne, zwr_req, upd_ne, upd_eq, ne_eq, Nat.reduceEqDiff, not_false_eq_true, cc] at g8); omega
                · try simp only [zwr_rne, zwr_req, upd_ne, upd_eq, ne_eq, Nat.reduceEqDiff, not_false_eq_true, cc] at g8
                  try omega
                  all_goals
                   try simp only [zwr_rne, zwr_req, upd_ne, upd_eq, ne_eq, Nat.reduceEqDiff, not_false_eq_true, cc]
                   refine m_isClass (fun g9 g9' => ?_) (fun g9 => ?_)
                   · try simp only [zwr_rne, zwr_req, upd_ne, upd_eq, ne_eq, Nat.reduceEqDiff, not_false_eq_true, cc] at g9
                     try simp only [zwr_rne, zwr_req, upd_ne, upd_eq, ne_eq, Nat.reduceEqDiff, not_false_eq_true, cc] at g9'
                     try omega
                     all_goals
                      try simp only [one_ne, zero_eq, if_false, if_true, or_true, true_or, or_false, false_or]
                      try simp only [zwr_rne, zwr_req, upd_ne, upd_eq, ne_eq, Nat.reduceEqDiff, not_false_eq_true, cc]
                      refine ⟨by first | assumption | exact vin (by omega) | exact vp_in_I.mpr (by omega), ?_⟩
                      refine zeq (fun g10 => ?_) (fun g10 => ?_)
                      · exfalso; (try simp only [zwr_rne, zwr_req, upd_ne, upd_eq, ne_eq, Nat.reduceEqDiff, not_false_eq_true, cc] at g10); omega
                      · try simp only [zwr_rne, zwr_req, upd_ne, upd_eq, ne_eq, Nat.reduceEqDiff, not_false_eq_true, cc] at g10
                        try omega
                        all_goals
                         try simp only [zwr_rne, zwr_req, upd_ne, upd_eq, ne_eq, Nat.reduceEqDiff, not_false_eq_true, cc]
                         refine ⟨by first | assumption | exact vin (by omega) | exact vp_in_I.mpr (by omega), ?_⟩
                         rintro _ rfl
                         try simp only [zwr_rne, zwr_req, upd_ne, upd_eq, ne_eq, Nat.reduceEqDiff, not_false_eq_true, cc]
                         refine m_orNone p3 ?_
                         try simp only [zwr_rne, zwr_req, upd_ne, upd_eq, ne_eq, Nat.reduceEqDiff, not_false_eq_true, cc]
                         refine ⟨p1, ?_⟩
                         unfold Rall
                         simp only [zwr_rne, zwr_req, upd_ne, upd_eq, ne_eq, Nat.reduceEqDiff, not_false_eq_true]
                         exact ⟨⟨k1, k2, k3, k4, k5, k6, k7, k8, k9⟩, kas, kcl, kda, kdh, kpl.setC (enc_nn (by omega)).symm (by omega) (by omega), kkp, ksh, kwt, ktp, klw, ksd, kw0, kw1⟩
                   · exfalso; (try simp only [zwr_rne, zwr_req, upd_ne, upd_eq, ne_eq, Nat.reduceEqDiff, not_false_eq_true, cc] at g9); omega
             · exfalso; (try simp only [zwr_rne, zwr_req, upd_ne, upd_eq, ne_eq, Nat.reduceEqDiff, not_false_eq_true, cc] at g7); omega
          · try simp only [zwr_rne, zwr_req, upd_ne, upd_eq, ne_eq, Nat.reduceEqDiff, not_false_eq_true, cc] at g6
            try omega
            all_goals
             try simp only [one_ne, zero_eq, if_false, if_true, or_true, true_or, or_false, false_or]
             refine en_X12_put ?_
             try simp only [zwr_rne, zwr_req, upd_ne, upd_eq, ne_eq, Nat.reduceEqDiff, not_false_eq_true, cc]
             refine m_isClaim (by first | omega | (simp only [zwr_rne, zwr_req, upd_ne, upd_eq, ne_eq, Nat.reduceEqDiff, not_false_eq_true, cc]; omega)) (fun g11 g11' => ?_) (fun g11 => ?_)
             · try simp only [zwr_rne, zwr_req, upd_ne, upd_eq, ne_eq, Nat.reduceEqDiff, not_false_eq_true, cc] at g11
               try simp only [zwr_rne, zwr_req, upd_ne, upd_eq, ne_eq, Nat.reduceEqDiff, not_false_eq_true, cc] at g11'
               try omega
               all_goals
                try simp only [one_ne, zero_eq, if_false, if_true, or_true, true_or, or_false, false_or]
                try simp only [zwr_rne, zwr_req, upd_ne, upd_eq, ne_eq, Nat.reduceEqDiff, not_false_eq_true, cc]
                refine zeq (fun g12 => ?_) (fun g12 => ?_)
                · exfalso; (try simp only [zwr_rne, zwr_req, upd_ne, upd_eq, ne_eq, Nat.reduceEqDiff, not_false_eq_true, cc] at g12); omega
                · try simp only [zwr_rne, zwr_req, upd_ne, upd_eq, ne_eq, Nat.reduceEqDiff, not_false_eq_true, cc] at g12
                  try omega
                  all_goals
                   try simp only [zwr_rne, zwr_req, upd_ne, upd_eq, ne_eq, Nat.reduceEqDiff, not_false_eq_true, cc]
                   refine m_isClass (fun g13 g13' => ?_) (fun g13 => ?_)
                   · exfalso; (try simp only [zwr_rne, zwr_req, upd_ne, upd_eq, ne_eq, Nat.reduceEqDiff, not_false_eq_true, cc] at g13); (try simp only [zwr_rne, zwr_req, upd_ne, upd_eq, ne_eq, Nat.reduceEqDiff, not_false_eq_true, cc] at g13'); omega
                   · try simp only [zwr_rne, zwr_req, upd_ne, upd_eq, ne_eq, Nat.reduceEqDiff, not_false_eq_true, cc] at g13
                     try omega
                     all_goals
                      try simp only [one_ne, zero_eq, if_false, if_true, or_true, true_or, or_false, false_or]
                      try simp only [zwr_rne, zwr_req, upd_ne, upd_eq, ne_eq, Nat.reduceEqDiff, not_false_eq_true, cc]
                      exact ⟨by first | rfl | trivial, hh⟩
             · exfalso; (try simp only [zwr_rne, zwr_req, upd_ne, upd_eq, ne_eq, Nat.reduceEqDiff, not_false_eq_true, cc] at g11); omega
    · try simp only [zwr_rne, zwr_req, upd_ne, upd_eq, ne_eq, Nat.reduceEqDiff, not_false_eq_true, cc] at g1
      try omega
      all_goals
       try simp only [one_ne, zero_eq, if_false, if_true, or_true, true_or, or_false, false_or]
       refine en_X12_put ?_
       try simp only [zwr_rne, zwr_req, upd_ne, upd_eq, ne_eq, Nat.reduceEqDiff, not_false_eq_true, cc]
       refine m_isClaim (by first | omega | (simp only [zwr_rne, zwr_req, upd_ne, upd_eq, ne_eq, Nat.reduceEqDiff, not_false_eq_true, cc]; omega)) (fun g14 g14' => ?_) (fun g14 => ?_)
       · exfalso; (try simp only [zwr_rne, zwr_req, upd_ne, upd_eq, ne_eq, Nat.reduceEqDiff, not_false_eq_true, cc] at g14); (try simp only [zwr_rne, zwr_req, upd_ne, upd_eq, ne_eq, Nat.reduceEqDiff, not_false_eq_true, cc] at g14'); omega
       · try simp only [zwr_rne, zwr_req, upd_ne, upd_eq, ne_eq, Nat.reduceEqDiff, not_false_eq_true, cc] at g14
         try omega
         all_goals
          try simp only [one_ne, zero_eq, if_false, if_true, or_true, true_or, or_false, false_or]
          try simp only [zwr_rne, zwr_req, upd_ne, upd_eq, ne_eq, Nat.reduceEqDiff, not_false_eq_true, cc]
          exact ⟨by first | rfl | trivial, hh⟩

theorem P_vote {G : zGT} {d : Nat} {v1 v2 : Int32} : Pair G (d + 6) Y_X11_vote Y_X12_vote [.inl v1, .inl v2] := by
  intro σ h
  have hh := h
  obtain ⟨⟨k1, k2, k3, k4, k5, k6, k7, k8, k9⟩, kas, kcl, kda, kdh, kpl, kkp, ksh, kwt, ktp, klw, ksd, kw0, kw1⟩ := h
  obtain ⟨e1, b1, u1⟩ := id k1
  obtain ⟨e2, b2, u2⟩ := id k2
  obtain ⟨e3, b3, u3⟩ := id k3
  obtain ⟨e4, b4, u4⟩ := id k4
  obtain ⟨e5, b5, u5⟩ := id k5
  obtain ⟨e6, b6, u6⟩ := id k6
  obtain ⟨e7, b7, u7⟩ := id k7
  obtain ⟨e8, b8, u8⟩ := id k8
  obtain ⟨e9, b9, u9⟩ := id k9
  have f1 : (σ 0 15).toInt = (σ 72 1).toInt := by rw [e1]
  have f2 : (σ 14 5).toInt = (σ 72 2).toInt := by rw [e2]
  have f3 : (σ 1 6).toInt = (σ 72 8).toInt := by rw [e3]
  have f4 : (σ 0 16).toInt = (σ 72 0).toInt := by rw [e4]
  have f5 : (σ 55 7).toInt = (σ 72 22).toInt := by rw [e5]
  have f6 : (σ 14 6).toInt = (σ 72 23).toInt := by rw [e6]
  have f7 : (σ 0 17).toInt = (σ 72 24).toInt := by rw [e7]
  have f8 : (σ 0 13).toInt = (σ 72 25).toInt := by rw [e8]
  have f9 : (σ 46 1).toInt = (σ 72 28).toInt := by rw [e9]
  have l0 := ti0
  have l1 := ti1
  have l2 := ti2
  have l3 := ti3
  have l4 := ti4
  have l5 := ti5
  have l6 := ti6
  have l8 := ti8
  have l9 := ti9
  have l10 := ti10
  have l16 := ti16
  have l20 := ti20
  have l24 := ti24
  have l31 := ti31
  have l60 := ti60
  have l96 := ti96
  have l100 := ti100
  have l200 := ti200
  have l400 := ti400
  have l600 := ti600
  have l1200 := ti1200
  have l100000 := ti100000
  have lm1 := tim1
  have lB := tiB
  have lN := tiN
  rcases idx_of v1 (σ 72 8) with hb | ⟨c, rfl, hc, hc2⟩
  · refine en_X11_vote ?_
    try simp only [zwr_rne, zwr_req, upd_ne, upd_eq, ne_eq, Nat.reduceEqDiff, not_false_eq_true]
    refine c_hasC (fun g1 g1' => ?_) (fun g1 => ?_)
    · try simp only [zwr_rne, zwr_req, upd_ne, upd_eq, ne_eq, Nat.reduceEqDiff, not_false_eq_true] at g1
      try simp only [zwr_rne, zwr_req, upd_ne, upd_eq, ne_eq, Nat.reduceEqDiff, not_false_eq_true] at g1'
      try omega
      all_goals
       try simp only [one_ne, zero_eq, if_false, if_true, or_true, true_or, or_false, false_or]
       refine c_isWithin (fun g2 g2' => ?_) (fun g2 => ?_)
       · try simp only [zwr_rne, zwr_req, upd_ne, upd_eq, ne_eq, Nat.reduceEqDiff, not_false_eq_true] at g2
         try simp only [zwr_rne, zwr_req, upd_ne, upd_eq, ne_eq, Nat.reduceEqDiff, not_false_eq_true] at g2'
         try omega
         all_goals
          try simp only [one_ne, zero_eq, if_false, if_true, or_true, true_or, or_false, false_or]
          refine ⟨by first | assumption | exact vin (by omega) | exact vp_in_I.mpr (by omega), ?_⟩
          refine ⟨by first | assumption | exact vin (by omega) | exact vp_in_I.mpr (by omega), ?_⟩
          rintro _ rfl
          try simp only [zwr_rne, zwr_req, upd_ne, upd_eq, ne_eq, Nat.reduceEqDiff, not_false_eq_true]
          refine en_X12_vote ?_
          try simp only [zwr_rne, zwr_req, upd_ne, upd_eq, ne_eq, Nat.reduceEqDiff, not_false_eq_true]
          refine m_isClaim (by first | omega | (simp only [zwr_rne, zwr_req, upd_ne, upd_eq, ne_eq, Nat.reduceEqDiff, not_false_eq_true]; omega)) (fun g3 g3' => ?_) (fun g3 => ?_)
          · try simp only [zwr_rne, zwr_req, upd_ne, upd_eq, ne_eq, Nat.reduceEqDiff, not_false_eq_true] at g3
            try simp only [zwr_rne, zwr_req, upd_ne, upd_eq, ne_eq, Nat.reduceEqDiff, not_false_eq_true] at g3'
            try omega
            all_goals
             try simp only [one_ne, zero_eq, if_false, if_true, or_true, true_or, or_false, false_or]
             try simp only [zwr_rne, zwr_req, upd_ne, upd_eq, ne_eq, Nat.reduceEqDiff, not_false_eq_true]
             refine m_isIn (fun g4 g4' => ?_) (fun g4 => ?_)
             · try simp only [zwr_rne, zwr_req, upd_ne, upd_eq, ne_eq, Nat.reduceEqDiff, not_false_eq_true] at g4
               try simp only [zwr_rne, zwr_req, upd_ne, upd_eq, ne_eq, Nat.reduceEqDiff, not_false_eq_true] at g4'
               try omega
               all_goals
                try simp only [one_ne, zero_eq, if_false, if_true, or_true, true_or, or_false, false_or]
                try simp only [zwr_rne, zwr_req, upd_ne, upd_eq, ne_eq, Nat.reduceEqDiff, not_false_eq_true]
                refine ⟨by first | assumption | exact vin (by omega) | exact vp_in_I.mpr (by omega), ?_⟩
                refine ⟨by first | assumption | exact vin (by omega) | exact vp_in_I.mpr (by omega), ?_⟩
                rintro _ rfl
                try simp only [zwr_rne, zwr_req, upd_ne, upd_eq, ne_eq, Nat.reduceEqDiff, not_false_eq_true]
                exact ⟨by first | rfl | trivial, hh⟩
             · exfalso; (try simp only [zwr_rne, zwr_req, upd_ne, upd_eq, ne_eq, Nat.reduceEqDiff, not_false_eq_true] at g4); omega
          · exfalso; (try simp only [zwr_rne, zwr_req, upd_ne, upd_eq, ne_eq, Nat.reduceEqDiff, not_false_eq_true] at g3); omega
       · try simp only [zwr_rne, zwr_req, upd_ne, upd_eq, ne_eq, Nat.reduceEqDiff, not_false_eq_true] at g2
         try omega
         all_goals
          try simp only [one_ne, zero_eq, if_false, if_true, or_true, true_or, or_false, false_or]
          refine en_X12_vote ?_
          try simp only [zwr_rne, zwr_req, upd_ne, upd_eq, ne_eq, Nat.reduceEqDiff, not_false_eq_true]
          refine m_isClaim (by first | omega | (simp only [zwr_rne, zwr_req, upd_ne, upd_eq, ne_eq, Nat.reduceEqDiff, not_false_eq_true]; omega)) (fun g5 g5' => ?_) (fun g5 => ?_)
          · try simp only [zwr_rne, zwr_req, upd_ne, upd_eq, ne_eq, Nat.reduceEqDiff, not_false_eq_true] at g5
            try simp only [zwr_rne, zwr_req, upd_ne, upd_eq, ne_eq, Nat.reduceEqDiff, not_false_eq_true] at g5'
            try omega
            all_goals
             try simp only [one_ne, zero_eq, if_false, if_true, or_true, true_or, or_false, false_or]
             try simp only [zwr_rne, zwr_req, upd_ne, upd_eq, ne_eq, Nat.reduceEqDiff, not_false_eq_true]
             refine m_isIn (fun g6 g6' => ?_) (fun g6 => ?_)
             · exfalso; (try simp only [zwr_rne, zwr_req, upd_ne, upd_eq, ne_eq, Nat.reduceEqDiff, not_false_eq_true] at g6); (try simp only [zwr_rne, zwr_req, upd_ne, upd_eq, ne_eq, Nat.reduceEqDiff, not_false_eq_true] at g6'); omega
             · try simp only [zwr_rne, zwr_req, upd_ne, upd_eq, ne_eq, Nat.reduceEqDiff, not_false_eq_true] at g6
               try omega
               all_goals
                try simp only [one_ne, zero_eq, if_false, if_true, or_true, true_or, or_false, false_or]
                try simp only [zwr_rne, zwr_req, upd_ne, upd_eq, ne_eq, Nat.reduceEqDiff, not_false_eq_true]
                exact ⟨by first | rfl | trivial, hh⟩
          · exfalso; (try simp only [zwr_rne, zwr_req, upd_ne, upd_eq, ne_eq, Nat.reduceEqDiff, not_false_eq_true] at g5); omega
    · try simp only [zwr_rne, zwr_req, upd_ne, upd_eq, ne_eq, Nat.reduceEqDiff, not_false_eq_true] at g1
      try omega
      all_goals
       try simp only [one_ne, zero_eq, if_false, if_true, or_true, true_or, or_false, false_or]
       refine en_X12_vote ?_
       try simp only [zwr_rne, zwr_req, upd_ne, upd_eq, ne_eq, Nat.reduceEqDiff, not_false_eq_true]
       refine m_isClaim (by first | omega | (simp only [zwr_rne, zwr_req, upd_ne, upd_eq, ne_eq, Nat.reduceEqDiff, not_false_eq_true]; omega)) (fun g7 g7' => ?_) (fun g7 => ?_)
       · exfalso; (try simp only [zwr_rne, zwr_req, upd_ne, upd_eq, ne_eq, Nat.reduceEqDiff, not_false_eq_true] at g7); (try simp only [zwr_rne, zwr_req, upd_ne, upd_eq, ne_eq, Nat.reduceEqDiff, not_false_eq_true] at g7'); omega
       · try simp only [zwr_rne, zwr_req, upd_ne, upd_eq, ne_eq, Nat.reduceEqDiff, not_false_eq_true] at g7
         try omega
         all_goals
          try simp only [one_ne, zero_eq, if_false, if_true, or_true, true_or, or_false, false_or]
          try simp only [zwr_rne, zwr_req, upd_ne, upd_eq, ne_eq, Nat.reduceEqDiff, not_false_eq_true]
          exact ⟨by first | rfl | trivial, hh⟩
  · have tc := tin hc2
    have cc : (nI c).toNatClampNeg = c := cln hc2
    have vc : vp_in (nI c) 24 := vin (by omega)
    obtain ⟨a1, a2, a3, a4⟩ := kda.1 c hc
    obtain ⟨h1, h2, h3, h4⟩ := kdh.1 c hc
    obtain ⟨q1, q2, q3, q4, q5, q6, q7, q8, q9, q10, q11, q12⟩ := kcl.1 c hc
    obtain ⟨p1, p2, p3, p4, p5, p6⟩ := kpl.1 c hc
    have fq1 : (σ 2 c).toInt = (σ 78 c).toInt := by rw [q1]
    have fq2 : (σ 3 c).toInt = (σ 79 c).toInt := by rw [q2]
    refine en_X11_vote ?_
    try simp only [zwr_rne, zwr_req, upd_ne, upd_eq, ne_eq, Nat.reduceEqDiff, not_false_eq_true, cc]
    refine c_hasC (fun g1 g1' => ?_) (fun g1 => ?_)
    · try simp only [zwr_rne, zwr_req, upd_ne, upd_eq, ne_eq, Nat.reduceEqDiff, not_false_eq_true, cc] at g1
      try simp only [zwr_rne, zwr_req, upd_ne, upd_eq, ne_eq, Nat.reduceEqDiff, not_false_eq_true, cc] at g1'
      try omega
      all_goals
       try simp only [one_ne, zero_eq, if_false, if_true, or_true, true_or, or_false, false_or]
       refine c_isWithin (fun g2 g2' => ?_) (fun g2 => ?_)
       · try simp only [zwr_rne, zwr_req, upd_ne, upd_eq, ne_eq, Nat.reduceEqDiff, not_false_eq_true, cc] at g2
         try simp only [zwr_rne, zwr_req, upd_ne, upd_eq, ne_eq, Nat.reduceEqDiff, not_false_eq_true, cc] at g2'
         try omega
         all_goals
          try simp only [one_ne, zero_eq, if_false, if_true, or_true, true_or, or_false, false_or]
          refine ⟨by first | assumption | exact vin (by omega) | exact vp_in_I.mpr (by omega), ?_⟩
          refine ⟨by first | assumption | exact vin (by omega) | exact vp_in_I.mpr (by omega), ?_⟩
          rintro _ rfl
          try simp only [zwr_rne, zwr_req, upd_ne, upd_eq, ne_eq, Nat.reduceEqDiff, not_false_eq_true, cc]
          refine en_X12_vote ?_
          try simp only [zwr_rne, zwr_req, upd_ne, upd_eq, ne_eq, Nat.reduceEqDiff, not_false_eq_true, cc]
          refine m_isClaim (by first | omega | (simp only [zwr_rne, zwr_req, upd_ne, upd_eq, ne_eq, Nat.reduceEqDiff, not_false_eq_true, cc]; omega)) (fun g3 g3' => ?_) (fun g3 => ?_)
          · try simp only [zwr_rne, zwr_req, upd_ne, upd_eq, ne_eq, Nat.reduceEqDiff, not_false_eq_true, cc] at g3
            try simp only [zwr_rne, zwr_req, upd_ne, upd_eq, ne_eq, Nat.reduceEqDiff, not_false_eq_true, cc] at g3'
            try omega
            all_goals
             try simp only [one_ne, zero_eq, if_false, if_true, or_true, true_or, or_false, false_or]
             try simp only [zwr_rne, zwr_req, upd_ne, upd_eq, ne_eq, Nat.reduceEqDiff, not_false_eq_true, cc]
             refine m_isIn (fun g4 g4' => ?_) (fun g4 => ?_)
             · try simp only [zwr_rne, zwr_req, upd_ne, upd_eq, ne_eq, Nat.reduceEqDiff, not_false_eq_true, cc] at g4
               try simp only [zwr_rne, zwr_req, upd_ne, upd_eq, ne_eq, Nat.reduceEqDiff, not_false_eq_true, cc] at g4'
               try omega
               all_goals
                try simp only [one_ne, zero_eq, if_false, if_true, or_true, true_or, or_false, false_or]
                try simp only [zwr_rne, zwr_req, upd_ne, upd_eq, ne_eq, Nat.reduceEqDiff, not_false_eq_true, cc]
                refine ⟨by first | assumption | exact vin (by omega) | exact vp_in_I.mpr (by omega), ?_⟩
                refine ⟨by first | assumption | exact vin (by omega) | exact vp_in_I.mpr (by omega), ?_⟩
                rintro _ rfl
                try simp only [zwr_rne, zwr_req, upd_ne, upd_eq, ne_eq, Nat.reduceEqDiff, not_false_eq_true, cc]
                refine ⟨p2, ?_⟩
                unfold Rall
                simp only [zwr_rne, zwr_req, upd_ne, upd_eq, ne_eq, Nat.reduceEqDiff, not_false_eq_true]
                exact ⟨⟨k1, k2, k3, k4, k5, k6, k7, k8, k9⟩, kas, kcl, kda, kdh, kpl.setV (by omega) (by omega), kkp, ksh, kwt, ktp, klw, ksd, kw0, kw1⟩
             · exfalso; (try simp only [zwr_rne, zwr_req, upd_ne, upd_eq, ne_eq, Nat.reduceEqDiff, not_false_eq_true, cc] at g4); omega
          · exfalso; (try simp only [zwr_rne, zwr_req, upd_ne, upd_eq, ne_eq, Nat.reduceEqDiff, not_false_eq_true, cc] at g3); omega
       · try simp only [zwr_rne, zwr_req, upd_ne, upd_eq, ne_eq, Nat.reduceEqDiff, not_false_eq_true, cc] at g2
         try omega
         all_goals
          try simp only [one_ne, zero_eq, if_false, if_true, or_true, true_or, or_false, false_or]
          refine en_X12_vote ?_
          try simp only [zwr_rne, zwr_req, upd_ne, upd_eq, ne_eq, Nat.reduceEqDiff, not_false_eq_true, cc]
          refine m_isClaim (by first | omega | (simp only [zwr_rne, zwr_req, upd_ne, upd_eq, ne_eq, Nat.reduceEqDiff, not_false_eq_true, cc]; omega)) (fun g5 g5' => ?_) (fun g5 => ?_)
          · try simp only [zwr_rne, zwr_req, upd_ne, upd_eq, ne_eq, Nat.reduceEqDiff, not_false_eq_true, cc] at g5
            try simp only [zwr_rne, zwr_req, upd_ne, upd_eq, ne_eq, Nat.reduceEqDiff, not_false_eq_true, cc] at g5'
            try omega
            all_goals
             try simp only [one_ne, zero_eq, if_false, if_true, or_true, true_or, or_false, false_or]
             try simp only [zwr_rne, zwr_req, upd_ne, upd_eq, ne_eq, Nat.reduceEqDiff, not_false_eq_true, cc]
             refine m_isIn (fun g6 g6' => ?_) (fun g6 => ?_)
             · exfalso; (try simp only [zwr_rne, zwr_req, upd_ne, upd_eq, ne_eq, Nat.reduceEqDiff, not_false_eq_true, cc] at g6); (try simp only [zwr_rne, zwr_req, upd_ne, upd_eq, ne_eq, Nat.reduceEqDiff, not_false_eq_true, cc] at g6'); omega
             · try simp only [zwr_rne, zwr_req, upd_ne, upd_eq, ne_eq, Nat.reduceEqDiff, not_false_eq_true, cc] at g6
               try omega
               all_goals
                try simp only [one_ne, zero_eq, if_false, if_true, or_true, true_or, or_false, false_or]
                try simp only [zwr_rne, zwr_req, upd_ne, upd_eq, ne_eq, Nat.reduceEqDiff, not_false_eq_true, cc]
                exact ⟨by first | rfl | trivial, hh⟩
          · exfalso; (try simp only [zwr_rne, zwr_req, upd_ne, upd_eq, ne_eq, Nat.reduceEqDiff, not_false_eq_true, cc] at g5); omega
    · try simp only [zwr_rne, zwr_req, upd_ne, upd_eq, ne_eq, Nat.reduceEqDiff, not_false_eq_true, cc] at g1
      try omega
      all_goals
       try simp only [one_ne, zero_eq, if_false, if_true, or_true, true_or, or_false, false_or]
       refine en_X12_vote ?_
       try simp only [zwr_rne, zwr_req, upd_ne, upd_eq, ne_eq, Nat.reduceEqDiff, not_false_eq_true, cc]
       refine m_isClaim (by first | omega | (simp only [zwr_rne, zwr_req, upd_ne, upd_eq, ne_eq, Nat.reduceEqDiff, not_false_eq_true, cc]; omega)) (fun g7 g7' => ?_) (fun g7 => ?_)
       · exfalso; (try simp only [zwr_rne, zwr_req, upd_ne, upd_eq, ne_eq, Nat.reduceEqDiff, not_false_eq_true, cc] at g7); (try simp only [zwr_rne, zwr_req, upd_ne, upd_eq, ne_eq, Nat.reduceEqDiff, not_false_eq_true, cc] at g7'); omega
       · try simp only [zwr_rne, zwr_req, upd_ne, upd_eq, ne_eq, Nat.reduceEqDiff, not_false_eq_true, cc] at g7
         try omega
         all_goals
          try simp only [one_ne, zero_eq, if_false, if_true, or_true, true_or, or_false, false_or]
          try simp only [zwr_rne, zwr_req, upd_ne, upd_eq, ne_eq, Nat.reduceEqDiff, not_false_eq_true, cc]
          exact ⟨by first | rfl | trivial, hh⟩

theorem P_worth {G : zGT} {d : Nat} {v1 : Int32} : Pair G (d + 6) Y_X11_worth Y_X12_worth [.inl v1] := by
  intro σ h
  have hh := h
  obtain ⟨⟨k1, k2, k3, k4, k5, k6, k7, k8, k9⟩, kas, kcl, kda, kdh, kpl, kkp, ksh, kwt, ktp, klw, ksd, kw0, kw1⟩ := h
  obtain ⟨e1, b1, u1⟩ := id k1
  obtain ⟨e2, b2, u2⟩ := id k2
  obtain ⟨e3, b3, u3⟩ := id k3
  obtain ⟨e4, b4, u4⟩ := id k4
  obtain ⟨e5, b5, u5⟩ := id k5
  obtain ⟨e6, b6, u6⟩ := id k6
  obtain ⟨e7, b7, u7⟩ := id k7
  obtain ⟨e8, b8, u8⟩ := id k8
  obtain ⟨e9, b9, u9⟩ := id k9
  have f1 : (σ 0 15).toInt = (σ 72 1).toInt := by rw [e1]
  have f2 : (σ 14 5).toInt = (σ 72 2).toInt := by rw [e2]
  have f3 : (σ 1 6).toInt = (σ 72 8).toInt := by rw [e3]
  have f4 : (σ 0 16).toInt = (σ 72 0).toInt := by rw [e4]
  have f5 : (σ 55 7).toInt = (σ 72 22).toInt := by rw [e5]
  have f6 : (σ 14 6).toInt = (σ 72 23).toInt := by rw [e6]
  have f7 : (σ 0 17).toInt = (σ 72 24).toInt := by rw [e7]
  have f8 : (σ 0 13).toInt = (σ 72 25).toInt := by rw [e8]
  have f9 : (σ 46 1).toInt = (σ 72 28).toInt := by rw [e9]
  have l0 := ti0
  have l1 := ti1
  have l2 := ti2
  have l3 := ti3
  have l4 := ti4
  have l5 := ti5
  have l6 := ti6
  have l8 := ti8
  have l9 := ti9
  have l10 := ti10
  have l16 := ti16
  have l20 := ti20
  have l24 := ti24
  have l31 := ti31
  have l60 := ti60
  have l96 := ti96
  have l100 := ti100
  have l200 := ti200
  have l400 := ti400
  have l600 := ti600
  have l1200 := ti1200
  have l100000 := ti100000
  have lm1 := tim1
  have lB := tiB
  have lN := tiN
  rcases idx_of v1 (σ 72 8) with hb | ⟨c, rfl, hc, hc2⟩
  · refine en_X11_worth ?_
    try simp only [zwr_rne, zwr_req, upd_ne, upd_eq, ne_eq, Nat.reduceEqDiff, not_false_eq_true]
    refine c_hasC (fun g1 g1' => ?_) (fun g1 => ?_)
    · try simp only [zwr_rne, zwr_req, upd_ne, upd_eq, ne_eq, Nat.reduceEqDiff, not_false_eq_true] at g1
      try simp only [zwr_rne, zwr_req, upd_ne, upd_eq, ne_eq, Nat.reduceEqDiff, not_false_eq_true] at g1'
      try omega
      all_goals
       try simp only [one_ne, zero_eq, if_false, if_true, or_true, true_or, or_false, false_or]
       exfalso; omega
       try simp only [zwr_rne, zwr_req, upd_ne, upd_eq, ne_eq, Nat.reduceEqDiff, not_false_eq_true]
       refine en_X12_worth ?_
       try simp only [zwr_rne, zwr_req, upd_ne, upd_eq, ne_eq, Nat.reduceEqDiff, not_false_eq_true]
       refine m_isClaim (by first | omega | (simp only [zwr_rne, zwr_req, upd_ne, upd_eq, ne_eq, Nat.reduceEqDiff, not_false_eq_true]; omega)) (fun g2 g2' => ?_) (fun g2 => ?_)
       · try simp only [zwr_rne, zwr_req, upd_ne, upd_eq, ne_eq, Nat.reduceEqDiff, not_false_eq_true] at g2
         try simp only [zwr_rne, zwr_req, upd_ne, upd_eq, ne_eq, Nat.reduceEqDiff, not_false_eq_true] at g2'
         try omega
         all_goals
          try simp only [one_ne, zero_eq, if_false, if_true, or_true, true_or, or_false, false_or]
          try simp only [zwr_rne, zwr_req, upd_ne, upd_eq, ne_eq, Nat.reduceEqDiff, not_false_eq_true]
          exfalso; omega
          try simp only [zwr_rne, zwr_req, upd_ne, upd_eq, ne_eq, Nat.reduceEqDiff, not_false_eq_true]
          exact ⟨by first | rfl | trivial, hh⟩
       · exfalso; (try simp only [zwr_rne, zwr_req, upd_ne, upd_eq, ne_eq, Nat.reduceEqDiff, not_false_eq_true] at g2); omega
    · try simp only [zwr_rne, zwr_req, upd_ne, upd_eq, ne_eq, Nat.reduceEqDiff, not_false_eq_true] at g1
      try omega
      all_goals
       try simp only [one_ne, zero_eq, if_false, if_true, or_true, true_or, or_false, false_or]
       refine en_X12_worth ?_
       try simp only [zwr_rne, zwr_req, upd_ne, upd_eq, ne_eq, Nat.reduceEqDiff, not_false_eq_true]
       refine m_isClaim (by first | omega | (simp only [zwr_rne, zwr_req, upd_ne, upd_eq, ne_eq, Nat.reduceEqDiff, not_false_eq_true]; omega)) (fun g3 g3' => ?_) (fun g3 => ?_)
       · exfalso; (try simp only [zwr_rne, zwr_req, upd_ne, upd_eq, ne_eq, Nat.reduceEqDiff, not_false_eq_true] at g3); (try simp only [zwr_rne, zwr_req, upd_ne, upd_eq, ne_eq, Nat.reduceEqDiff, not_false_eq_true] at g3'); omega
       · try simp only [zwr_rne, zwr_req, upd_ne, upd_eq, ne_eq, Nat.reduceEqDiff, not_false_eq_true] at g3
         try omega
         all_goals
          try simp only [one_ne, zero_eq, if_false, if_true, or_true, true_or, or_false, false_or]
          try simp only [zwr_rne, zwr_req, upd_ne, upd_eq, ne_eq, Nat.reduceEqDiff, not_false_eq_true]
          exact ⟨by first | rfl | trivial, hh⟩
  · have tc := tin hc2
    have cc : (nI c).toNatClampNeg = c := cln hc2
    have vc : vp_in (nI c) 24 := vin (by omega)
    obtain ⟨a1, a2, a3, a4⟩ := kda.1 c hc
    obtain ⟨h1, h2, h3, h4⟩ := kdh.1 c hc
    obtain ⟨q1, q2, q3, q4, q5, q6, q7, q8, q9, q10, q11, q12⟩ := kcl.1 c hc
    obtain ⟨p1, p2, p3, p4, p5, p6⟩ := kpl.1 c hc
    have fq1 : (σ 2 c).toInt = (σ 78 c).toInt := by rw [q1]
    have fq2 : (σ 3 c).toInt = (σ 79 c).toInt := by rw [q2]
    refine en_X11_worth ?_
    try simp only [zwr_rne, zwr_req, upd_ne, upd_eq, ne_eq, Nat.reduceEqDiff, not_false_eq_true, cc]
    refine c_hasC (fun g1 g1' => ?_) (fun g1 => ?_)
    · try simp only [zwr_rne, zwr_req, upd_ne, upd_eq, ne_eq, Nat.reduceEqDiff, not_false_eq_true, cc] at g1
      try simp only [zwr_rne, zwr_req, upd_ne, upd_eq, ne_eq, Nat.reduceEqDiff, not_false_eq_true, cc] at g1'
      try omega
      all_goals
       try simp only [one_ne, zero_eq, if_false, if_true, or_true, true_or, or_false, false_or]
       refine cr_worthOf hh hc ?_
       try simp only [zwr_rne, zwr_req, upd_ne, upd_eq, ne_eq, Nat.reduceEqDiff, not_false_eq_true, cc]
       refine en_X12_worth ?_
       try simp only [zwr_rne, zwr_req, upd_ne, upd_eq, ne_eq, Nat.reduceEqDiff, not_false_eq_true, cc]
       refine m_isClaim (by first | omega | (simp only [zwr_rne, zwr_req, upd_ne, upd_eq, ne_eq, Nat.reduceEqDiff, not_false_eq_true, cc]; omega)) (fun g2 g2' => ?_) (fun g2 => ?_)
       · try simp only [zwr_rne, zwr_req, upd_ne, upd_eq, ne_eq, Nat.reduceEqDiff, not_false_eq_true, cc] at g2
         try simp only [zwr_rne, zwr_req, upd_ne, upd_eq, ne_eq, Nat.reduceEqDiff, not_false_eq_true, cc] at g2'
         try omega
         all_goals
          try simp only [one_ne, zero_eq, if_false, if_true, or_true, true_or, or_false, false_or]
          try simp only [zwr_rne, zwr_req, upd_ne, upd_eq, ne_eq, Nat.reduceEqDiff, not_false_eq_true, cc]
          refine mr_worthOf hc u3 a2 a3 p3 p4 ?_
          try simp only [zwr_rne, zwr_req, upd_ne, upd_eq, ne_eq, Nat.reduceEqDiff, not_false_eq_true, cc]
          exact ⟨by first | rfl | trivial, hh⟩
       · exfalso; (try simp only [zwr_rne, zwr_req, upd_ne, upd_eq, ne_eq, Nat.reduceEqDiff, not_false_eq_true, cc] at g2); omega
    · try simp only [zwr_rne, zwr_req, upd_ne, upd_eq, ne_eq, Nat.reduceEqDiff, not_false_eq_true, cc] at g1
      try omega
      all_goals
       try simp only [one_ne, zero_eq, if_false, if_true, or_true, true_or, or_false, false_or]
       refine en_X12_worth ?_
       try simp only [zwr_rne, zwr_req, upd_ne, upd_eq, ne_eq, Nat.reduceEqDiff, not_false_eq_true, cc]
       refine m_isClaim (by first | omega | (simp only [zwr_rne, zwr_req, upd_ne, upd_eq, ne_eq, Nat.reduceEqDiff, not_false_eq_true, cc]; omega)) (fun g3 g3' => ?_) (fun g3 => ?_)
       · exfalso; (try simp only [zwr_rne, zwr_req, upd_ne, upd_eq, ne_eq, Nat.reduceEqDiff, not_false_eq_true, cc] at g3); (try simp only [zwr_rne, zwr_req, upd_ne, upd_eq, ne_eq, Nat.reduceEqDiff, not_false_eq_true, cc] at g3'); omega
       · try simp only [zwr_rne, zwr_req, upd_ne, upd_eq, ne_eq, Nat.reduceEqDiff, not_false_eq_true, cc] at g3
         try omega
         all_goals
          try simp only [one_ne, zero_eq, if_false, if_true, or_true, true_or, or_false, false_or]
          try simp only [zwr_rne, zwr_req, upd_ne, upd_eq, ne_eq, Nat.reduceEqDiff, not_false_eq_true, cc]
          exact ⟨by first | rfl | trivial, hh⟩

theorem P_days {G : zGT} {d : Nat} {v1 : Int32} : Pair G (d + 6) Y_X11_days Y_X12_days [.inl v1] := by
  intro σ h
  have hh := h
  obtain ⟨⟨k1, k2, k3, k4, k5, k6, k7, k8, k9⟩, kas, kcl, kda, kdh, kpl, kkp, ksh, kwt, ktp, klw, ksd, kw0, kw1⟩ := h
  obtain ⟨e1, b1, u1⟩ := id k1
  obtain ⟨e2, b2, u2⟩ := id k2
  obtain ⟨e3, b3, u3⟩ := id k3
  obtain ⟨e4, b4, u4⟩ := id k4
  obtain ⟨e5, b5, u5⟩ := id k5
  obtain ⟨e6, b6, u6⟩ := id k6
  obtain ⟨e7, b7, u7⟩ := id k7
  obtain ⟨e8, b8, u8⟩ := id k8
  obtain ⟨e9, b9, u9⟩ := id k9
  have f1 : (σ 0 15).toInt = (σ 72 1).toInt := by rw [e1]
  have f2 : (σ 14 5).toInt = (σ 72 2).toInt := by rw [e2]
  have f3 : (σ 1 6).toInt = (σ 72 8).toInt := by rw [e3]
  have f4 : (σ 0 16).toInt = (σ 72 0).toInt := by rw [e4]
  have f5 : (σ 55 7).toInt = (σ 72 22).toInt := by rw [e5]
  have f6 : (σ 14 6).toInt = (σ 72 23).toInt := by rw [e6]
  have f7 : (σ 0 17).toInt = (σ 72 24).toInt := by rw [e7]
  have f8 : (σ 0 13).toInt = (σ 72 25).toInt := by rw [e8]
  have f9 : (σ 46 1).toInt = (σ 72 28).toInt := by rw [e9]
  have l0 := ti0
  have l1 := ti1
  have l2 := ti2
  have l3 := ti3
  have l4 := ti4
  have l5 := ti5
  have l6 := ti6
  have l8 := ti8
  have l9 := ti9
  have l10 := ti10
  have l16 := ti16
  have l20 := ti20
  have l24 := ti24
  have l31 := ti31
  have l60 := ti60
  have l96 := ti96
  have l100 := ti100
  have l200 := ti200
  have l400 := ti400
  have l600 := ti600
  have l1200 := ti1200
  have l100000 := ti100000
  have lm1 := tim1
  have lB := tiB
  have lN := tiN
  have t1 : 1 ≤ v1.toInt → v1.toInt ≤ 60 → (σ 72 0 + v1).toInt = (σ 72 0).toInt + v1.toInt := fun q1 q2 => fb_addI (by omega) (by omega)
  by_cases hv : 1 ≤ v1.toInt ∧ v1.toInt ≤ 60
  · have t2 := t1 hv.1 hv.2
    refine en_X11_days ?_
    try simp only [zwr_rne, zwr_req, upd_ne, upd_eq, ne_eq, Nat.reduceEqDiff, not_false_eq_true, e4]
    refine zlt (fun g1 => ?_) (fun g1 => ?_)
    · try simp only [zwr_rne, zwr_req, upd_ne, upd_eq, ne_eq, Nat.reduceEqDiff, not_false_eq_true, e4] at g1
      try omega
      all_goals
       refine en_X12_days ?_
       try simp only [zwr_rne, zwr_req, upd_ne, upd_eq, ne_eq, Nat.reduceEqDiff, not_false_eq_true, e4]
       refine m_isIn (fun g2 g2' => ?_) (fun g2 => ?_)
       · try simp only [zwr_rne, zwr_req, upd_ne, upd_eq, ne_eq, Nat.reduceEqDiff, not_false_eq_true, e4] at g2
         try simp only [zwr_rne, zwr_req, upd_ne, upd_eq, ne_eq, Nat.reduceEqDiff, not_false_eq_true, e4] at g2'
         try omega
         all_goals
          try simp only [one_ne, zero_eq, if_false, if_true, or_true, true_or, or_false, false_or]
          try simp only [zwr_rne, zwr_req, upd_ne, upd_eq, ne_eq, Nat.reduceEqDiff, not_false_eq_true, e4]
          refine zle (fun g3 => ?_) (fun g3 => ?_)
          · try simp only [zwr_rne, zwr_req, upd_ne, upd_eq, ne_eq, Nat.reduceEqDiff, not_false_eq_true, e4] at g3
            try omega
            all_goals
             try simp only [zwr_rne, zwr_req, upd_ne, upd_eq, ne_eq, Nat.reduceEqDiff, not_false_eq_true, e4]
             rintro _ rfl
             try simp only [zwr_rne, zwr_req, upd_ne, upd_eq, ne_eq, Nat.reduceEqDiff, not_false_eq_true, e4]
             refine ⟨by first | rfl | trivial | assumption, ?_⟩
             unfold Rall
             simp only [zwr_rne, zwr_req, upd_ne, upd_eq, ne_eq, Nat.reduceEqDiff, not_false_eq_true]
             exact ⟨⟨k1, k2, k3, ⟨rfl, by omega, by omega⟩, ⟨k5.1, k5.2.1, by omega⟩, k6, k7, k8, k9⟩, kas, kcl, kda, kdh, kpl, kkp, ksh, kwt, ktp, klw, ksd, Rwx_stale, Rwx_stale⟩
          · try simp only [zwr_rne, zwr_req, upd_ne, upd_eq, ne_eq, Nat.reduceEqDiff, not_false_eq_true, e4] at g3
            try omega
            all_goals
             try simp only [zwr_rne, zwr_req, upd_ne, upd_eq, ne_eq, Nat.reduceEqDiff, not_false_eq_true, e4]
             exact ⟨by first | rfl | trivial, hh⟩
       · try simp only [zwr_rne, zwr_req, upd_ne, upd_eq, ne_eq, Nat.reduceEqDiff, not_false_eq_true, e4] at g2
         try omega
         all_goals
          try simp only [one_ne, zero_eq, if_false, if_true, or_true, true_or, or_false, false_or]
          try simp only [zwr_rne, zwr_req, upd_ne, upd_eq, ne_eq, Nat.reduceEqDiff, not_false_eq_true, e4]
          exact ⟨by first | rfl | trivial, hh⟩
    · try simp only [zwr_rne, zwr_req, upd_ne, upd_eq, ne_eq, Nat.reduceEqDiff, not_false_eq_true, e4] at g1
      try omega
      all_goals
       refine zlt (fun g4 => ?_) (fun g4 => ?_)
       · try simp only [zwr_rne, zwr_req, upd_ne, upd_eq, ne_eq, Nat.reduceEqDiff, not_false_eq_true, e4] at g4
         try omega
         all_goals
          refine en_X12_days ?_
          try simp only [zwr_rne, zwr_req, upd_ne, upd_eq, ne_eq, Nat.reduceEqDiff, not_false_eq_true, e4]
          refine m_isIn (fun g5 g5' => ?_) (fun g5 => ?_)
          · try simp only [zwr_rne, zwr_req, upd_ne, upd_eq, ne_eq, Nat.reduceEqDiff, not_false_eq_true, e4] at g5
            try simp only [zwr_rne, zwr_req, upd_ne, upd_eq, ne_eq, Nat.reduceEqDiff, not_false_eq_true, e4] at g5'
            try omega
            all_goals
             try simp only [one_ne, zero_eq, if_false, if_true, or_true, true_or, or_false, false_or]
             try simp only [zwr_rne, zwr_req, upd_ne, upd_eq, ne_eq, Nat.reduceEqDiff, not_false_eq_true, e4]
             refine zle (fun g6 => ?_) (fun g6 => ?_)
             · try simp only [zwr_rne, zwr_req, upd_ne, upd_eq, ne_eq, Nat.reduceEqDiff, not_false_eq_true, e4] at g6
               try omega
               all_goals
                try simp only [zwr_rne, zwr_req, upd_ne, upd_eq, ne_eq, Nat.reduceEqDiff, not_false_eq_true, e4]
                rintro _ rfl
                try simp only [zwr_rne, zwr_req, upd_ne, upd_eq, ne_eq, Nat.reduceEqDiff, not_false_eq_true, e4]
                refine ⟨by first | rfl | trivial | assumption, ?_⟩
                unfold Rall
                simp only [zwr_rne, zwr_req, upd_ne, upd_eq, ne_eq, Nat.reduceEqDiff, not_false_eq_true]
                exact ⟨⟨k1, k2, k3, ⟨rfl, by omega, by omega⟩, ⟨k5.1, k5.2.1, by omega⟩, k6, k7, k8, k9⟩, kas, kcl, kda, kdh, kpl, kkp, ksh, kwt, ktp, klw, ksd, Rwx_stale, Rwx_stale⟩
             · try simp only [zwr_rne, zwr_req, upd_ne, upd_eq, ne_eq, Nat.reduceEqDiff, not_false_eq_true, e4] at g6
               try omega
               all_goals
                try simp only [zwr_rne, zwr_req, upd_ne, upd_eq, ne_eq, Nat.reduceEqDiff, not_false_eq_true, e4]
                exact ⟨by first | rfl | trivial, hh⟩
          · try simp only [zwr_rne, zwr_req, upd_ne, upd_eq, ne_eq, Nat.reduceEqDiff, not_false_eq_true, e4] at g5
            try omega
            all_goals
             try simp only [one_ne, zero_eq, if_false, if_true, or_true, true_or, or_false, false_or]
             try simp only [zwr_rne, zwr_req, upd_ne, upd_eq, ne_eq, Nat.reduceEqDiff, not_false_eq_true, e4]
             exact ⟨by first | rfl | trivial, hh⟩
       · try simp only [zwr_rne, zwr_req, upd_ne, upd_eq, ne_eq, Nat.reduceEqDiff, not_false_eq_true, e4] at g4
         try omega
         all_goals
          refine zle (fun g7 => ?_) (fun g7 => ?_)
          · try simp only [zwr_rne, zwr_req, upd_ne, upd_eq, ne_eq, Nat.reduceEqDiff, not_false_eq_true, e4] at g7
            try omega
            all_goals
             rintro _ rfl
             try simp only [zwr_rne, zwr_req, upd_ne, upd_eq, ne_eq, Nat.reduceEqDiff, not_false_eq_true, e4]
             refine c_changed ?_
             try simp only [zwr_rne, zwr_req, upd_ne, upd_eq, ne_eq, Nat.reduceEqDiff, not_false_eq_true, e4]
             refine en_X12_days ?_
             try simp only [zwr_rne, zwr_req, upd_ne, upd_eq, ne_eq, Nat.reduceEqDiff, not_false_eq_true, e4]
             refine m_isIn (fun g8 g8' => ?_) (fun g8 => ?_)
             · try simp only [zwr_rne, zwr_req, upd_ne, upd_eq, ne_eq, Nat.reduceEqDiff, not_false_eq_true, e4] at g8
               try simp only [zwr_rne, zwr_req, upd_ne, upd_eq, ne_eq, Nat.reduceEqDiff, not_false_eq_true, e4] at g8'
               try omega
               all_goals
                try simp only [one_ne, zero_eq, if_false, if_true, or_true, true_or, or_false, false_or]
                try simp only [zwr_rne, zwr_req, upd_ne, upd_eq, ne_eq, Nat.reduceEqDiff, not_false_eq_true, e4]
                refine zle (fun g9 => ?_) (fun g9 => ?_)
                · try simp only [zwr_rne, zwr_req, upd_ne, upd_eq, ne_eq, Nat.reduceEqDiff, not_false_eq_true, e4] at g9
                  try omega
                  all_goals
                   try simp only [zwr_rne, zwr_req, upd_ne, upd_eq, ne_eq, Nat.reduceEqDiff, not_false_eq_true, e4]
                   rintro _ rfl
                   try simp only [zwr_rne, zwr_req, upd_ne, upd_eq, ne_eq, Nat.reduceEqDiff, not_false_eq_true, e4]
                   refine ⟨by first | rfl | trivial | assumption, ?_⟩
                   unfold Rall
                   simp only [zwr_rne, zwr_req, upd_ne, upd_eq, ne_eq, Nat.reduceEqDiff, not_false_eq_true]
                   exact ⟨⟨k1, k2, k3, ⟨rfl, by omega, by omega⟩, ⟨k5.1, k5.2.1, by omega⟩, k6, k7, k8, k9⟩, kas, kcl, kda, kdh, kpl, kkp, ksh, kwt, ktp, klw, ksd, Rwx_stale, Rwx_stale⟩
                · exfalso; (try simp only [zwr_rne, zwr_req, upd_ne, upd_eq, ne_eq, Nat.reduceEqDiff, not_false_eq_true, e4] at g9); omega
             · try simp only [zwr_rne, zwr_req, upd_ne, upd_eq, ne_eq, Nat.reduceEqDiff, not_false_eq_true, e4] at g8
               try omega
               all_goals
                try simp only [one_ne, zero_eq, if_false, if_true, or_true, true_or, or_false, false_or]
                try simp only [zwr_rne, zwr_req, upd_ne, upd_eq, ne_eq, Nat.reduceEqDiff, not_false_eq_true, e4]
                exact ⟨by first | rfl | trivial, hh⟩
          · try simp only [zwr_rne, zwr_req, upd_ne, upd_eq, ne_eq, Nat.reduceEqDiff, not_false_eq_true, e4] at g7
            try omega
            all_goals
             refine en_X12_days ?_
             try simp only [zwr_rne, zwr_req, upd_ne, upd_eq, ne_eq, Nat.reduceEqDiff, not_false_eq_true, e4]
             refine m_isIn (fun g10 g10' => ?_) (fun g10 => ?_)
             · try simp only [zwr_rne, zwr_req, upd_ne, upd_eq, ne_eq, Nat.reduceEqDiff, not_false_eq_true, e4] at g10
               try simp only [zwr_rne, zwr_req, upd_ne, upd_eq, ne_eq, Nat.reduceEqDiff, not_false_eq_true, e4] at g10'
               try omega
               all_goals
                try simp only [one_ne, zero_eq, if_false, if_true, or_true, true_or, or_false, false_or]
                try simp only [zwr_rne, zwr_req, upd_ne, upd_eq, ne_eq, Nat.reduceEqDiff, not_false_eq_true, e4]
                refine zle (fun g11 => ?_) (fun g11 => ?_)
                · exfalso; (try simp only [zwr_rne, zwr_req, upd_ne, upd_eq, ne_eq, Nat.reduceEqDiff, not_false_eq_true, e4] at g11); omega
                · try simp only [zwr_rne, zwr_req, upd_ne, upd_eq, ne_eq, Nat.reduceEqDiff, not_false_eq_true, e4] at g11
                  try omega
                  all_goals
                   try simp only [zwr_rne, zwr_req, upd_ne, upd_eq, ne_eq, Nat.reduceEqDiff, not_false_eq_true, e4]
                   exact ⟨by first | rfl | trivial, hh⟩
             · try simp only [zwr_rne, zwr_req, upd_ne, upd_eq, ne_eq, Nat.reduceEqDiff, not_false_eq_true, e4] at g10
               try omega
               all_goals
                try simp only [one_ne, zero_eq, if_false, if_true, or_true, true_or, or_false, false_or]
                try simp only [zwr_rne, zwr_req, upd_ne, upd_eq, ne_eq, Nat.reduceEqDiff, not_false_eq_true, e4]
                exact ⟨by first | rfl | trivial, hh⟩
  · refine en_X11_days ?_
    try simp only [zwr_rne, zwr_req, upd_ne, upd_eq, ne_eq, Nat.reduceEqDiff, not_false_eq_true, e4]
    refine zlt (fun g1 => ?_) (fun g1 => ?_)
    · try simp only [zwr_rne, zwr_req, upd_ne, upd_eq, ne_eq, Nat.reduceEqDiff, not_false_eq_true, e4] at g1
      try omega
      all_goals
       refine en_X12_days ?_
       try simp only [zwr_rne, zwr_req, upd_ne, upd_eq, ne_eq, Nat.reduceEqDiff, not_false_eq_true, e4]
       refine m_isIn (fun g2 g2' => ?_) (fun g2 => ?_)
       · try simp only [zwr_rne, zwr_req, upd_ne, upd_eq, ne_eq, Nat.reduceEqDiff, not_false_eq_true, e4] at g2
         try simp only [zwr_rne, zwr_req, upd_ne, upd_eq, ne_eq, Nat.reduceEqDiff, not_false_eq_true, e4] at g2'
         try omega
         all_goals
          try simp only [one_ne, zero_eq, if_false, if_true, or_true, true_or, or_false, false_or]
          try simp only [zwr_rne, zwr_req, upd_ne, upd_eq, ne_eq, Nat.reduceEqDiff, not_false_eq_true, e4]
          refine zle (fun g3 => ?_) (fun g3 => ?_)
          · try simp only [zwr_rne, zwr_req, upd_ne, upd_eq, ne_eq, Nat.reduceEqDiff, not_false_eq_true, e4] at g3
            try omega
            all_goals
             try simp only [zwr_rne, zwr_req, upd_ne, upd_eq, ne_eq, Nat.reduceEqDiff, not_false_eq_true, e4]
             rintro _ rfl
             try simp only [zwr_rne, zwr_req, upd_ne, upd_eq, ne_eq, Nat.reduceEqDiff, not_false_eq_true, e4]
             exact ⟨by first | rfl | trivial, hh⟩
          · try simp only [zwr_rne, zwr_req, upd_ne, upd_eq, ne_eq, Nat.reduceEqDiff, not_false_eq_true, e4] at g3
            try omega
            all_goals
             try simp only [zwr_rne, zwr_req, upd_ne, upd_eq, ne_eq, Nat.reduceEqDiff, not_false_eq_true, e4]
             exact ⟨by first | rfl | trivial, hh⟩
       · try simp only [zwr_rne, zwr_req, upd_ne, upd_eq, ne_eq, Nat.reduceEqDiff, not_false_eq_true, e4] at g2
         try omega
         all_goals
          try simp only [one_ne, zero_eq, if_false, if_true, or_true, true_or, or_false, false_or]
          try simp only [zwr_rne, zwr_req, upd_ne, upd_eq, ne_eq, Nat.reduceEqDiff, not_false_eq_true, e4]
          exact ⟨by first | rfl | trivial, hh⟩
    · try simp only [zwr_rne, zwr_req, upd_ne, upd_eq, ne_eq, Nat.reduceEqDiff, not_false_eq_true, e4] at g1
      try omega
      all_goals
       refine zlt (fun g4 => ?_) (fun g4 => ?_)
       · try simp only [zwr_rne, zwr_req, upd_ne, upd_eq, ne_eq, Nat.reduceEqDiff, not_false_eq_true, e4] at g4
         try omega
         all_goals
          refine en_X12_days ?_
          try simp only [zwr_rne, zwr_req, upd_ne, upd_eq, ne_eq, Nat.reduceEqDiff, not_false_eq_true, e4]
          refine m_isIn (fun g5 g5' => ?_) (fun g5 => ?_)
          · try simp only [zwr_rne, zwr_req, upd_ne, upd_eq, ne_eq, Nat.reduceEqDiff, not_false_eq_true, e4] at g5
            try simp only [zwr_rne, zwr_req, upd_ne, upd_eq, ne_eq, Nat.reduceEqDiff, not_false_eq_true, e4] at g5'
            try omega
            all_goals
             try simp only [one_ne, zero_eq, if_false, if_true, or_true, true_or, or_false, false_or]
             try simp only [zwr_rne, zwr_req, upd_ne, upd_eq, ne_eq, Nat.reduceEqDiff, not_false_eq_true, e4]
             refine zle (fun g6 => ?_) (fun g6 => ?_)
             · try simp only [zwr_rne, zwr_req, upd_ne, upd_eq, ne_eq, Nat.reduceEqDiff, not_false_eq_true, e4] at g6
               try omega
               all_goals
                try simp only [zwr_rne, zwr_req, upd_ne, upd_eq, ne_eq, Nat.reduceEqDiff, not_false_eq_true, e4]
                rintro _ rfl
                try simp only [zwr_rne, zwr_req, upd_ne, upd_eq, ne_eq, Nat.reduceEqDiff, not_false_eq_true, e4]
                exact ⟨by first | rfl | trivial, hh⟩
             · try simp only [zwr_rne, zwr_req, upd_ne, upd_eq, ne_eq, Nat.reduceEqDiff, not_false_eq_true, e4] at g6
               try omega
               all_goals
                try simp only [zwr_rne, zwr_req, upd_ne, upd_eq, ne_eq, Nat.reduceEqDiff, not_false_eq_true, e4]
                exact ⟨by first | rfl | trivial, hh⟩
          · try simp only [zwr_rne, zwr_req, upd_ne, upd_eq, ne_eq, Nat.reduceEqDiff, not_false_eq_true, e4] at g5
            try omega
            all_goals
             try simp only [one_ne, zero_eq, if_false, if_true, or_true, true_or, or_false, false_or]
             try simp only [zwr_rne, zwr_req, upd_ne, upd_eq, ne_eq, Nat.reduceEqDiff, not_false_eq_true, e4]
             exact ⟨by first | rfl | trivial, hh⟩
       · try simp only [zwr_rne, zwr_req, upd_ne, upd_eq, ne_eq, Nat.reduceEqDiff, not_false_eq_true, e4] at g4
         try omega
         all_goals
          refine zle (fun g7 => ?_) (fun g7 => ?_)
          · try simp only [zwr_rne, zwr_req, upd_ne, upd_eq, ne_eq, Nat.reduceEqDiff, not_false_eq_true, e4] at g7
            try omega
            all_goals
             rintro _ rfl
             try simp only [zwr_rne, zwr_req, upd_ne, upd_eq, ne_eq, Nat.reduceEqDiff, not_false_eq_true, e4]
             refine c_changed ?_
             try simp only [zwr_rne, zwr_req, upd_ne, upd_eq, ne_eq, Nat.reduceEqDiff, not_false_eq_true, e4]
             refine en_X12_days ?_
             try simp only [zwr_rne, zwr_req, upd_ne, upd_eq, ne_eq, Nat.reduceEqDiff, not_false_eq_true, e4]
             refine m_isIn (fun g8 g8' => ?_) (fun g8 => ?_)
             · try simp only [zwr_rne, zwr_req, upd_ne, upd_eq, ne_eq, Nat.reduceEqDiff, not_false_eq_true, e4] at g8
               try simp only [zwr_rne, zwr_req, upd_ne, upd_eq, ne_eq, Nat.reduceEqDiff, not_false_eq_true, e4] at g8'
               try omega
               all_goals
                try simp only [one_ne, zero_eq, if_false, if_true, or_true, true_or, or_false, false_or]
                try simp only [zwr_rne, zwr_req, upd_ne, upd_eq, ne_eq, Nat.reduceEqDiff, not_false_eq_true, e4]
                refine zle (fun g9 => ?_) (fun g9 => ?_)
                · try simp only [zwr_rne, zwr_req, upd_ne, upd_eq, ne_eq, Nat.reduceEqDiff, not_false_eq_true, e4] at g9
                  try omega
                  all_goals
                   try simp only [zwr_rne, zwr_req, upd_ne, upd_eq, ne_eq, Nat.reduceEqDiff, not_false_eq_true, e4]
                   rintro _ rfl
                   try simp only [zwr_rne, zwr_req, upd_ne, upd_eq, ne_eq, Nat.reduceEqDiff, not_false_eq_true, e4]
                   exact ⟨by first | rfl | trivial, hh⟩
                · exfalso; (try simp only [zwr_rne, zwr_req, upd_ne, upd_eq, ne_eq, Nat.reduceEqDiff, not_false_eq_true, e4] at g9); omega
             · try simp only [zwr_rne, zwr_req, upd_ne, upd_eq, ne_eq, Nat.reduceEqDiff, not_false_eq_true, e4] at g8
               try omega
               all_goals
                try simp only [one_ne, zero_eq, if_false, if_true, or_true, true_or, or_false, false_or]
                try simp only [zwr_rne, zwr_req, upd_ne, upd_eq, ne_eq, Nat.reduceEqDiff, not_false_eq_true, e4]
                exact ⟨by first | rfl | trivial, hh⟩
          · try simp only [zwr_rne, zwr_req, upd_ne, upd_eq, ne_eq, Nat.reduceEqDiff, not_false_eq_true, e4] at g7
            try omega
            all_goals
             refine en_X12_days ?_
             try simp only [zwr_rne, zwr_req, upd_ne, upd_eq, ne_eq, Nat.reduceEqDiff, not_false_eq_true, e4]
             refine m_isIn (fun g10 g10' => ?_) (fun g10 => ?_)
             · try simp only [zwr_rne, zwr_req, upd_ne, upd_eq, ne_eq, Nat.reduceEqDiff, not_false_eq_true, e4] at g10
               try simp only [zwr_rne, zwr_req, upd_ne, upd_eq, ne_eq, Nat.reduceEqDiff, not_false_eq_true, e4] at g10'
               try omega
               all_goals
                try simp only [one_ne, zero_eq, if_false, if_true, or_true, true_or, or_false, false_or]
                try simp only [zwr_rne, zwr_req, upd_ne, upd_eq, ne_eq, Nat.reduceEqDiff, not_false_eq_true, e4]
                refine zle (fun g11 => ?_) (fun g11 => ?_)
                · exfalso; (try simp only [zwr_rne, zwr_req, upd_ne, upd_eq, ne_eq, Nat.reduceEqDiff, not_false_eq_true, e4] at g11); omega
                · try simp only [zwr_rne, zwr_req, upd_ne, upd_eq, ne_eq, Nat.reduceEqDiff, not_false_eq_true, e4] at g11
                  try omega
                  all_goals
                   try simp only [zwr_rne, zwr_req, upd_ne, upd_eq, ne_eq, Nat.reduceEqDiff, not_false_eq_true, e4]
                   exact ⟨by first | rfl | trivial, hh⟩
             · try simp only [zwr_rne, zwr_req, upd_ne, upd_eq, ne_eq, Nat.reduceEqDiff, not_false_eq_true, e4] at g10
               try omega
               all_goals
                try simp only [one_ne, zero_eq, if_false, if_true, or_true, true_or, or_false, false_or]
                try simp only [zwr_rne, zwr_req, upd_ne, upd_eq, ne_eq, Nat.reduceEqDiff, not_false_eq_true, e4]
                exact ⟨by first | rfl | trivial, hh⟩

theorem P_tell {G : zGT} {d : Nat} {v1 : Int32} : Pair G (d + 6) Y_X11_tell Y_X12_tell [.inl v1] := by
  intro σ h
  have hh := h
  obtain ⟨⟨k1, k2, k3, k4, k5, k6, k7, k8, k9⟩, kas, kcl, kda, kdh, kpl, kkp, ksh, kwt, ktp, klw, ksd, kw0, kw1⟩ := h
  obtain ⟨e1, b1, u1⟩ := id k1
  obtain ⟨e2, b2, u2⟩ := id k2
  obtain ⟨e3, b3, u3⟩ := id k3
  obtain ⟨e4, b4, u4⟩ := id k4
  obtain ⟨e5, b5, u5⟩ := id k5
  obtain ⟨e6, b6, u6⟩ := id k6
  obtain ⟨e7, b7, u7⟩ := id k7
  obtain ⟨e8, b8, u8⟩ := id k8
  obtain ⟨e9, b9, u9⟩ := id k9
  have f1 : (σ 0 15).toInt = (σ 72 1).toInt := by rw [e1]
  have f2 : (σ 14 5).toInt = (σ 72 2).toInt := by rw [e2]
  have f3 : (σ 1 6).toInt = (σ 72 8).toInt := by rw [e3]
  have f4 : (σ 0 16).toInt = (σ 72 0).toInt := by rw [e4]
  have f5 : (σ 55 7).toInt = (σ 72 22).toInt := by rw [e5]
  have f6 : (σ 14 6).toInt = (σ 72 23).toInt := by rw [e6]
  have f7 : (σ 0 17).toInt = (σ 72 24).toInt := by rw [e7]
  have f8 : (σ 0 13).toInt = (σ 72 25).toInt := by rw [e8]
  have f9 : (σ 46 1).toInt = (σ 72 28).toInt := by rw [e9]
  have l0 := ti0
  have l1 := ti1
  have l2 := ti2
  have l3 := ti3
  have l4 := ti4
  have l5 := ti5
  have l6 := ti6
  have l8 := ti8
  have l9 := ti9
  have l10 := ti10
  have l16 := ti16
  have l20 := ti20
  have l24 := ti24
  have l31 := ti31
  have l60 := ti60
  have l96 := ti96
  have l100 := ti100
  have l200 := ti200
  have l400 := ti400
  have l600 := ti600
  have l1200 := ti1200
  have l100000 := ti100000
  have lm1 := tim1
  have lB := tiB
  have lN := tiN
  obtain ⟨k, hk, hk2, hk3⟩ := num_of b8 u8
  have ck : (nI k).toNatClampNeg = k := cln hk3
  have tk := tin hk3
  have hkt : (σ 72 25).toInt = (k : Int) := by rw [hk]; exact tk
  have e8k : σ 0 13 = nI k := by rw [e8, hk]
  have kwt' := kwt
  rw [hk] at kwt'
  refine en_X11_tell ?_
  try simp only [zwr_rne, zwr_req, upd_ne, upd_eq, ne_eq, Nat.reduceEqDiff, not_false_eq_true, e8k, hk, ck, nI_1]
  refine zlt (fun g1 => ?_) (fun g1 => ?_)
  · try simp only [zwr_rne, zwr_req, upd_ne, upd_eq, ne_eq, Nat.reduceEqDiff, not_false_eq_true, e8k, hk, ck, nI_1] at g1
    try omega
    all_goals
     refine ⟨by first | assumption | exact vin (by omega) | exact vp_in_I.mpr (by omega), ?_⟩
     rintro _ rfl
     try simp only [zwr_rne, zwr_req, upd_ne, upd_eq, ne_eq, Nat.reduceEqDiff, not_false_eq_true, e8k, hk, ck, nI_1]
     rintro _ rfl
     try simp only [zwr_rne, zwr_req, upd_ne, upd_eq, ne_eq, Nat.reduceEqDiff, not_false_eq_true, e8k, hk, ck, nI_1]
     refine en_X12_tell ?_
     try simp only [zwr_rne, zwr_req, upd_ne, upd_eq, ne_eq, Nat.reduceEqDiff, not_false_eq_true, e8k, hk, ck, nI_1]
     refine zeq (fun g2 => ?_) (fun g2 => ?_)
     · try simp only [zwr_rne, zwr_req, upd_ne, upd_eq, ne_eq, Nat.reduceEqDiff, not_false_eq_true, e8k, hk, ck, nI_1] at g2
       try omega
       all_goals
        try simp only [zwr_rne, zwr_req, upd_ne, upd_eq, ne_eq, Nat.reduceEqDiff, not_false_eq_true, e8k, hk, ck, nI_1]
        exact ⟨by first | rfl | trivial, hh⟩
     · try simp only [zwr_rne, zwr_req, upd_ne, upd_eq, ne_eq, Nat.reduceEqDiff, not_false_eq_true, e8k, hk, ck, nI_1] at g2
       try omega
       all_goals
        try simp only [zwr_rne, zwr_req, upd_ne, upd_eq, ne_eq, Nat.reduceEqDiff, not_false_eq_true, e8k, hk, ck, nI_1]
        refine ⟨by first | assumption | exact vin (by omega) | exact vp_in_I.mpr (by omega), ?_⟩
        rintro _ rfl
        try simp only [zwr_rne, zwr_req, upd_ne, upd_eq, ne_eq, Nat.reduceEqDiff, not_false_eq_true, e8k, hk, ck, nI_1]
        rintro _ rfl
        try simp only [zwr_rne, zwr_req, upd_ne, upd_eq, ne_eq, Nat.reduceEqDiff, not_false_eq_true, e8k, hk, ck, nI_1]
        refine ⟨by first | rfl | trivial | assumption, ?_⟩
        unfold Rall
        simp only [zwr_rne, zwr_req, upd_ne, upd_eq, ne_eq, Nat.reduceEqDiff, not_false_eq_true]
        exact ⟨⟨k1, k2, k3, k4, k5, k6, k7, Rcnt.k (by omega) (by omega), k9⟩, kas, kcl, kda, kdh, kpl, kkp, ksh, Rwt.push (by omega) kwt', ktp, klw, ksd, kw0, kw1⟩
  · try simp only [zwr_rne, zwr_req, upd_ne, upd_eq, ne_eq, Nat.reduceEqDiff, not_false_eq_true, e8k, hk, ck, nI_1] at g1
    try omega
    all_goals
     refine en_X12_tell ?_
     try simp only [zwr_rne, zwr_req, upd_ne, upd_eq, ne_eq, Nat.reduceEqDiff, not_false_eq_true, e8k, hk, ck, nI_1]
     refine zeq (fun g3 => ?_) (fun g3 => ?_)
     · try simp only [zwr_rne, zwr_req, upd_ne, upd_eq, ne_eq, Nat.reduceEqDiff, not_false_eq_true, e8k, hk, ck, nI_1] at g3
       try omega
       all_goals
        try simp only [zwr_rne, zwr_req, upd_ne, upd_eq, ne_eq, Nat.reduceEqDiff, not_false_eq_true, e8k, hk, ck, nI_1]
        exact ⟨by first | rfl | trivial, hh⟩
     · try simp only [zwr_rne, zwr_req, upd_ne, upd_eq, ne_eq, Nat.reduceEqDiff, not_false_eq_true, e8k, hk, ck, nI_1] at g3
       try omega
       all_goals
        try simp only [zwr_rne, zwr_req, upd_ne, upd_eq, ne_eq, Nat.reduceEqDiff, not_false_eq_true, e8k, hk, ck, nI_1]
        refine ⟨by first | assumption | exact vin (by omega) | exact vp_in_I.mpr (by omega), ?_⟩
        rintro _ rfl
        try simp only [zwr_rne, zwr_req, upd_ne, upd_eq, ne_eq, Nat.reduceEqDiff, not_false_eq_true, e8k, hk, ck, nI_1]
        rintro _ rfl
        try simp only [zwr_rne, zwr_req, upd_ne, upd_eq, ne_eq, Nat.reduceEqDiff, not_false_eq_true, e8k, hk, ck, nI_1]
        refine ⟨by first | rfl | trivial | assumption, ?_⟩
        unfold Rall
        simp only [zwr_rne, zwr_req, upd_ne, upd_eq, ne_eq, Nat.reduceEqDiff, not_false_eq_true]
        exact ⟨⟨k1, k2, k3, k4, k5, k6, k7, Rcnt.k (by omega) (by omega), k9⟩, kas, kcl, kda, kdh, kpl, kkp, ksh, Rwt.push (by omega) kwt', ktp, klw, ksd, kw0, kw1⟩

theorem P_terms {G : zGT} {d : Nat} {v1 v2 v3 v4 : Int32} : Pair G (d + 6) Y_X11_terms Y_X12_terms [.inl v1, .inl v2, .inl v3, .inl v4] := by
  intro σ h
  have hh := h
  obtain ⟨⟨k1, k2, k3, k4, k5, k6, k7, k8, k9⟩, kas, kcl, kda, kdh, kpl, kkp, ksh, kwt, ktp, klw, ksd, kw0, kw1⟩ := h
  obtain ⟨e1, b1, u1⟩ := id k1
  obtain ⟨e2, b2, u2⟩ := id k2
  obtain ⟨e3, b3, u3⟩ := id k3
  obtain ⟨e4, b4, u4⟩ := id k4
  obtain ⟨e5, b5, u5⟩ := id k5
  obtain ⟨e6, b6, u6⟩ := id k6
  obtain ⟨e7, b7, u7⟩ := id k7
  obtain ⟨e8, b8, u8⟩ := id k8
  obtain ⟨e9, b9, u9⟩ := id k9
  have f1 : (σ 0 15).toInt = (σ 72 1).toInt := by rw [e1]
  have f2 : (σ 14 5).toInt = (σ 72 2).toInt := by rw [e2]
  have f3 : (σ 1 6).toInt = (σ 72 8).toInt := by rw [e3]
  have f4 : (σ 0 16).toInt = (σ 72 0).toInt := by rw [e4]
  have f5 : (σ 55 7).toInt = (σ 72 22).toInt := by rw [e5]
  have f6 : (σ 14 6).toInt = (σ 72 23).toInt := by rw [e6]
  have f7 : (σ 0 17).toInt = (σ 72 24).toInt := by rw [e7]
  have f8 : (σ 0 13).toInt = (σ 72 25).toInt := by rw [e8]
  have f9 : (σ 46 1).toInt = (σ 72 28).toInt := by rw [e9]
  have l0 := ti0
  have l1 := ti1
  have l2 := ti2
  have l3 := ti3
  have l4 := ti4
  have l5 := ti5
  have l6 := ti6
  have l8 := ti8
  have l9 := ti9
  have l10 := ti10
  have l16 := ti16
  have l20 := ti20
  have l24 := ti24
  have l31 := ti31
  have l60 := ti60
  have l96 := ti96
  have l100 := ti100
  have l200 := ti200
  have l400 := ti400
  have l600 := ti600
  have l1200 := ti1200
  have l100000 := ti100000
  have lm1 := tim1
  have lB := tiB
  have lN := tiN
  rcases idx_of v1 6 with hb | ⟨k, rfl, hk, hk2⟩
  · refine en_X11_terms ?_
    try simp only [zwr_rne, zwr_req, upd_ne, upd_eq, ne_eq, Nat.reduceEqDiff, not_false_eq_true]
    refine c_isClass (fun g1 g1' => ?_) (fun g1 => ?_)
    · try simp only [zwr_rne, zwr_req, upd_ne, upd_eq, ne_eq, Nat.reduceEqDiff, not_false_eq_true] at g1
      try simp only [zwr_rne, zwr_req, upd_ne, upd_eq, ne_eq, Nat.reduceEqDiff, not_false_eq_true] at g1'
      try omega
      all_goals
       try simp only [one_ne, zero_eq, if_false, if_true, or_true, true_or, or_false, false_or]
       refine c_isWithin (fun g2 g2' => ?_) (fun g2 => ?_)
       · try simp only [zwr_rne, zwr_req, upd_ne, upd_eq, ne_eq, Nat.reduceEqDiff, not_false_eq_true] at g2
         try simp only [zwr_rne, zwr_req, upd_ne, upd_eq, ne_eq, Nat.reduceEqDiff, not_false_eq_true] at g2'
         try omega
         all_goals
          try simp only [one_ne, zero_eq, if_false, if_true, or_true, true_or, or_false, false_or]
          refine c_isWithin (fun g3 g3' => ?_) (fun g3 => ?_)
          · try simp only [zwr_rne, zwr_req, upd_ne, upd_eq, ne_eq, Nat.reduceEqDiff, not_false_eq_true] at g3
            try simp only [zwr_rne, zwr_req, upd_ne, upd_eq, ne_eq, Nat.reduceEqDiff, not_false_eq_true] at g3'
            try omega
            all_goals
             try simp only [one_ne, zero_eq, if_false, if_true, or_true, true_or, or_false, false_or]
             refine c_isWithin (fun g4 g4' => ?_) (fun g4 => ?_)
             · try simp only [zwr_rne, zwr_req, upd_ne, upd_eq, ne_eq, Nat.reduceEqDiff, not_false_eq_true] at g4
               try simp only [zwr_rne, zwr_req, upd_ne, upd_eq, ne_eq, Nat.reduceEqDiff, not_false_eq_true] at g4'
               try omega
               all_goals
                try simp only [one_ne, zero_eq, if_false, if_true, or_true, true_or, or_false, false_or]
                refine ⟨by first | assumption | exact vin (by omega) | exact vp_in_I.mpr (by omega), ?_⟩
                rintro _ rfl
                try simp only [zwr_rne, zwr_req, upd_ne, upd_eq, ne_eq, Nat.reduceEqDiff, not_false_eq_true]
                refine ⟨by first | assumption | exact vin (by omega) | exact vp_in_I.mpr (by omega), ?_⟩
                rintro _ rfl
                try simp only [zwr_rne, zwr_req, upd_ne, upd_eq, ne_eq, Nat.reduceEqDiff, not_false_eq_true]
                refine ⟨by first | assumption | exact vin (by omega) | exact vp_in_I.mpr (by omega), ?_⟩
                rintro _ rfl
                try simp only [zwr_rne, zwr_req, upd_ne, upd_eq, ne_eq, Nat.reduceEqDiff, not_false_eq_true]
                refine en_X12_terms ?_
                try simp only [zwr_rne, zwr_req, upd_ne, upd_eq, ne_eq, Nat.reduceEqDiff, not_false_eq_true]
                refine m_isClass (fun g5 g5' => ?_) (fun g5 => ?_)
                · try simp only [zwr_rne, zwr_req, upd_ne, upd_eq, ne_eq, Nat.reduceEqDiff, not_false_eq_true] at g5
                  try simp only [zwr_rne, zwr_req, upd_ne, upd_eq, ne_eq, Nat.reduceEqDiff, not_false_eq_true] at g5'
                  try omega
                  all_goals
                   try simp only [one_ne, zero_eq, if_false, if_true, or_true, true_or, or_false, false_or]
                   try simp only [zwr_rne, zwr_req, upd_ne, upd_eq, ne_eq, Nat.reduceEqDiff, not_false_eq_true]
                   refine m_isIn (fun g6 g6' => ?_) (fun g6 => ?_)
                   · try simp only [zwr_rne, zwr_req, upd_ne, upd_eq, ne_eq, Nat.reduceEqDiff, not_false_eq_true] at g6
                     try simp only [zwr_rne, zwr_req, upd_ne, upd_eq, ne_eq, Nat.reduceEqDiff, not_false_eq_true] at g6'
                     try omega
                     all_goals
                      try simp only [one_ne, zero_eq, if_false, if_true, or_true, true_or, or_false, false_or]
                      try simp only [zwr_rne, zwr_req, upd_ne, upd_eq, ne_eq, Nat.reduceEqDiff, not_false_eq_true]
                      refine m_isIn (fun g7 g7' => ?_) (fun g7 => ?_)
                      · try simp only [zwr_rne, zwr_req, upd_ne, upd_eq, ne_eq, Nat.reduceEqDiff, not_false_eq_true] at g7
                        try simp only [zwr_rne, zwr_req, upd_ne, upd_eq, ne_eq, Nat.reduceEqDiff, not_false_eq_true] at g7'
                        try omega
                        all_goals
                         try simp only [one_ne, zero_eq, if_false, if_true, or_true, true_or, or_false, false_or]
                         try simp only [zwr_rne, zwr_req, upd_ne, upd_eq, ne_eq, Nat.reduceEqDiff, not_false_eq_true]
                         refine m_isIn (fun g8 g8' => ?_) (fun g8 => ?_)
                         · try simp only [zwr_rne, zwr_req, upd_ne, upd_eq, ne_eq, Nat.reduceEqDiff, not_false_eq_true] at g8
                           try simp only [zwr_rne, zwr_req, upd_ne, upd_eq, ne_eq, Nat.reduceEqDiff, not_false_eq_true] at g8'
                           try omega
                           all_goals
                            try simp only [one_ne, zero_eq, if_false, if_true, or_true, true_or, or_false, false_or]
                            try simp only [zwr_rne, zwr_req, upd_ne, upd_eq, ne_eq, Nat.reduceEqDiff, not_false_eq_true]
                            refine ⟨by first | assumption | exact vin (by omega) | exact vp_in_I.mpr (by omega), ?_⟩
                            rintro _ rfl
                            try simp only [zwr_rne, zwr_req, upd_ne, upd_eq, ne_eq, Nat.reduceEqDiff, not_false_eq_true]
                            refine ⟨by first | assumption | exact vin (by omega) | exact vp_in_I.mpr (by omega), ?_⟩
                            rintro _ rfl
                            try simp only [zwr_rne, zwr_req, upd_ne, upd_eq, ne_eq, Nat.reduceEqDiff, not_false_eq_true]
                            refine ⟨by first | assumption | exact vin (by omega) | exact vp_in_I.mpr (by omega), ?_⟩
                            rintro _ rfl
                            try simp only [zwr_rne, zwr_req, upd_ne, upd_eq, ne_eq, Nat.reduceEqDiff, not_false_eq_true]
                            exact ⟨by first | rfl | trivial, hh⟩
                         · exfalso; (try simp only [zwr_rne, zwr_req, upd_ne, upd_eq, ne_eq, Nat.reduceEqDiff, not_false_eq_true] at g8); omega
                      · exfalso; (try simp only [zwr_rne, zwr_req, upd_ne, upd_eq, ne_eq, Nat.reduceEqDiff, not_false_eq_true] at g7); omega
                   · exfalso; (try simp only [zwr_rne, zwr_req, upd_ne, upd_eq, ne_eq, Nat.reduceEqDiff, not_false_eq_true] at g6); omega
                · exfalso; (try simp only [zwr_rne, zwr_req, upd_ne, upd_eq, ne_eq, Nat.reduceEqDiff, not_false_eq_true] at g5); omega
             · try simp only [zwr_rne, zwr_req, upd_ne, upd_eq, ne_eq, Nat.reduceEqDiff, not_false_eq_true] at g4
               try omega
               all_goals
                try simp only [one_ne, zero_eq, if_false, if_true, or_true, true_or, or_false, false_or]
                refine en_X12_terms ?_
                try simp only [zwr_rne, zwr_req, upd_ne, upd_eq, ne_eq, Nat.reduceEqDiff, not_false_eq_true]
                refine m_isClass (fun g9 g9' => ?_) (fun g9 => ?_)
                · try simp only [zwr_rne, zwr_req, upd_ne, upd_eq, ne_eq, Nat.reduceEqDiff, not_false_eq_true] at g9
                  try simp only [zwr_rne, zwr_req, upd_ne, upd_eq, ne_eq, Nat.reduceEqDiff, not_false_eq_true] at g9'
                  try omega
                  all_goals
                   try simp only [one_ne, zero_eq, if_false, if_true, or_true, true_or, or_false, false_or]
                   try simp only [zwr_rne, zwr_req, upd_ne, upd_eq, ne_eq, Nat.reduceEqDiff, not_false_eq_true]
                   refine m_isIn (fun g10 g10' => ?_) (fun g10 => ?_)
                   · try simp only [zwr_rne, zwr_req, upd_ne, upd_eq, ne_eq, Nat.reduceEqDiff, not_false_eq_true] at g10
                     try simp only [zwr_rne, zwr_req, upd_ne, upd_eq, ne_eq, Nat.reduceEqDiff, not_false_eq_true] at g10'
                     try omega
                     all_goals
                      try simp only [one_ne, zero_eq, if_false, if_true, or_true, true_or, or_false, false_or]
                      try simp only [zwr_rne, zwr_req, upd_ne, upd_eq, ne_eq, Nat.reduceEqDiff, not_false_eq_true]
                      refine m_isIn (fun g11 g11' => ?_) (fun g11 => ?_)
                      · try simp only [zwr_rne, zwr_req, upd_ne, upd_eq, ne_eq, Nat.reduceEqDiff, not_false_eq_true] at g11
                        try simp only [zwr_rne, zwr_req, upd_ne, upd_eq, ne_eq, Nat.reduceEqDiff, not_false_eq_true] at g11'
                        try omega
                        all_goals
                         try simp only [one_ne, zero_eq, if_false, if_true, or_true, true_or, or_false, false_or]
                         try simp only [zwr_rne, zwr_req, upd_ne, upd_eq, ne_eq, Nat.reduceEqDiff, not_false_eq_true]
                         refine m_isIn (fun g12 g12' => ?_) (fun g12 => ?_)
                         · exfalso; (try simp only [zwr_rne, zwr_req, upd_ne, upd_eq, ne_eq, Nat.reduceEqDiff, not_false_eq_true] at g12); (try simp only [zwr_rne, zwr_req, upd_ne, upd_eq, ne_eq, Nat.reduceEqDiff, not_false_eq_true] at g12'); omega
                         · try simp only [zwr_rne, zwr_req, upd_ne, upd_eq, ne_eq, Nat.reduceEqDiff, not_false_eq_true] at g12
                           try omega
                           all_goals
                            try simp only [one_ne, zero_eq, if_false, if_true, or_true, true_or, or_false, false_or]
                            try simp only [zwr_rne, zwr_req, upd_ne, upd_eq, ne_eq, Nat.reduceEqDiff, not_false_eq_true]
                            exact ⟨by first | rfl | trivial, hh⟩
                      · exfalso; (try simp only [zwr_rne, zwr_req, upd_ne, upd_eq, ne_eq, Nat.reduceEqDiff, not_false_eq_true] at g11); omega
                   · exfalso; (try simp only [zwr_rne, zwr_req, upd_ne, upd_eq, ne_eq, Nat.reduceEqDiff, not_false_eq_true] at g10); omega
                · exfalso; (try simp only [zwr_rne, zwr_req, upd_ne, upd_eq, ne_eq, Nat.reduceEqDiff, not_false_eq_true] at g9); omega
          · try simp only [zwr_rne, zwr_req, upd_ne, upd_eq, ne_eq, Nat.reduceEqDiff, not_false_eq_true] at g3
            try omega
            all_goals
             try simp only [one_ne, zero_eq, if_false, if_true, or_true, true_or, or_false, false_or]
             refine en_X12_terms ?_
             try simp only [zwr_rne, zwr_req, upd_ne, upd_eq, ne_eq, Nat.reduceEqDiff, not_false_eq_true]
             refine m_isClass (fun g13 g13' => ?_) (fun g13 => ?_)
             · try simp only [zwr_rne, zwr_req, upd_ne, upd_eq, ne_eq, Nat.reduceEqDiff, not_false_eq_true] at g13
               try simp only [zwr_rne, zwr_req, upd_ne, upd_eq, ne_eq, Nat.reduceEqDiff, not_false_eq_true] at g13'
               try omega
               all_goals
                try simp only [one_ne, zero_eq, if_false, if_true, or_true, true_or, or_false, false_or]
                try simp only [zwr_rne, zwr_req, upd_ne, upd_eq, ne_eq, Nat.reduceEqDiff, not_false_eq_true]
                refine m_isIn (fun g14 g14' => ?_) (fun g14 => ?_)
                · try simp only [zwr_rne, zwr_req, upd_ne, upd_eq, ne_eq, Nat.reduceEqDiff, not_false_eq_true] at g14
                  try simp only [zwr_rne, zwr_req, upd_ne, upd_eq, ne_eq, Nat.reduceEqDiff, not_false_eq_true] at g14'
                  try omega
                  all_goals
                   try simp only [one_ne, zero_eq, if_false, if_true, or_true, true_or, or_false, false_or]
                   try simp only [zwr_rne, zwr_req, upd_ne, upd_eq, ne_eq, Nat.reduceEqDiff, not_false_eq_true]
                   refine m_isIn (fun g15 g15' => ?_) (fun g15 => ?_)
                   · exfalso; (try simp only [zwr_rne, zwr_req, upd_ne, upd_eq, ne_eq, Nat.reduceEqDiff, not_false_eq_true] at g15); (try simp only [zwr_rne, zwr_req, upd_ne, upd_eq, ne_eq, Nat.reduceEqDiff, not_false_eq_true] at g15'); omega
                   · try simp only [zwr_rne, zwr_req, upd_ne, upd_eq, ne_eq, Nat.reduceEqDiff, not_false_eq_true] at g15
                     try omega
                     all_goals
                      try simp only [one_ne, zero_eq, if_false, if_true, or_true, true_or, or_false, false_or]
                      try simp only [zwr_rne, zwr_req, upd_ne, upd_eq, ne_eq, Nat.reduceEqDiff, not_false_eq_true]
                      exact ⟨by first | rfl | trivial, hh⟩
                · exfalso; (try simp only [zwr_rne, zwr_req, upd_ne, upd_eq, ne_eq, Nat.reduceEqDiff, not_false_eq_true] at g14); omega
             · exfalso; (try simp only [zwr_rne, zwr_req, upd_ne, upd_eq, ne_eq, Nat.reduceEqDiff, not_false_eq_true] at g13); omega
       · try simp only [zwr_rne, zwr_req, upd_ne, upd_eq, ne_eq, Nat.reduceEqDiff, not_false_eq_true] at g2
         try omega
         all_goals
          try simp only [one_ne, zero_eq, if_false, if_true, or_true, true_or, or_false, false_or]
          refine en_X12_terms ?_
          try simp only [zwr_rne, zwr_req, upd_ne, upd_eq, ne_eq, Nat.reduceEqDiff, not_false_eq_true]
          refine m_isClass (fun g16 g16' => ?_) (fun g16 => ?_)
          · try simp only [zwr_rne, zwr_req, upd_ne, upd_eq, ne_eq, Nat.reduceEqDiff, not_false_eq_true] at g16
            try simp only [zwr_rne, zwr_req, upd_ne, upd_eq, ne_eq, Nat.reduceEqDiff, not_false_eq_true] at g16'
            try omega
            all_goals
             try simp only [one_ne, zero_eq, if_false, if_true, or_true, true_or, or_false, false_or]
             try simp only [zwr_rne, zwr_req, upd_ne, upd_eq, ne_eq, Nat.reduceEqDiff, not_false_eq_true]
             refine m_isIn (fun g17 g17' => ?_) (fun g17 => ?_)
             · exfalso; (try simp only [zwr_rne, zwr_req, upd_ne, upd_eq, ne_eq, Nat.reduceEqDiff, not_false_eq_true] at g17); (try simp only [zwr_rne, zwr_req, upd_ne, upd_eq, ne_eq, Nat.reduceEqDiff, not_false_eq_true] at g17'); omega
             · try simp only [zwr_rne, zwr_req, upd_ne, upd_eq, ne_eq, Nat.reduceEqDiff, not_false_eq_true] at g17
               try omega
               all_goals
                try simp only [one_ne, zero_eq, if_false, if_true, or_true, true_or, or_false, false_or]
                try simp only [zwr_rne, zwr_req, upd_ne, upd_eq, ne_eq, Nat.reduceEqDiff, not_false_eq_true]
                exact ⟨by first | rfl | trivial, hh⟩
          · exfalso; (try simp only [zwr_rne, zwr_req, upd_ne, upd_eq, ne_eq, Nat.reduceEqDiff, not_false_eq_true] at g16); omega
    · try simp only [zwr_rne, zwr_req, upd_ne, upd_eq, ne_eq, Nat.reduceEqDiff, not_false_eq_true] at g1
      try omega
      all_goals
       try simp only [one_ne, zero_eq, if_false, if_true, or_true, true_or, or_false, false_or]
       refine en_X12_terms ?_
       try simp only [zwr_rne, zwr_req, upd_ne, upd_eq, ne_eq, Nat.reduceEqDiff, not_false_eq_true]
       refine m_isClass (fun g18 g18' => ?_) (fun g18 => ?_)
       · exfalso; (try simp only [zwr_rne, zwr_req, upd_ne, upd_eq, ne_eq, Nat.reduceEqDiff, not_false_eq_true] at g18); (try simp only [zwr_rne, zwr_req, upd_ne, upd_eq, ne_eq, Nat.reduceEqDiff, not_false_eq_true] at g18'); omega
       · try simp only [zwr_rne, zwr_req, upd_ne, upd_eq, ne_eq, Nat.reduceEqDiff, not_false_eq_true] at g18
         try omega
         all_goals
          try simp only [one_ne, zero_eq, if_false, if_true, or_true, true_or, or_false, false_or]
          try simp only [zwr_rne, zwr_req, upd_ne, upd_eq, ne_eq, Nat.reduceEqDiff, not_false_eq_true]
          exact ⟨by first | rfl | trivial, hh⟩
  · have tk := tin hk2
    have hk6 : k < 6 := by omega
    have ck : (nI k).toNatClampNeg = k := cln hk2
    have c0 : (nI (3 * k)).toNatClampNeg = 3 * k := cln (by omega)
    have c1 : (nI (3 * k + 1)).toNatClampNeg = 3 * k + 1 := cln (by omega)
    have c2 : (nI (3 * k + 2)).toNatClampNeg = 3 * k + 2 := cln (by omega)
    have vk : vp_in (nI k) 6 := vin hk6
    have w0 : vp_in (nI (3 * k)) 18 := vin (by omega)
    have w1 : vp_in (nI (3 * k + 1)) 18 := vin (by omega)
    have w2 : vp_in (nI (3 * k + 2)) 18 := vin (by omega)
    refine en_X11_terms ?_
    try simp only [zwr_rne, zwr_req, upd_ne, upd_eq, ne_eq, Nat.reduceEqDiff, not_false_eq_true, ck, ix3, nI_1, nI_2, c0, c1, c2]
    refine c_isClass (fun g1 g1' => ?_) (fun g1 => ?_)
    · try simp only [zwr_rne, zwr_req, upd_ne, upd_eq, ne_eq, Nat.reduceEqDiff, not_false_eq_true, ck, ix3, nI_1, nI_2, c0, c1, c2] at g1
      try simp only [zwr_rne, zwr_req, upd_ne, upd_eq, ne_eq, Nat.reduceEqDiff, not_false_eq_true, ck, ix3, nI_1, nI_2, c0, c1, c2] at g1'
      try omega
      all_goals
       try simp only [one_ne, zero_eq, if_false, if_true, or_true, true_or, or_false, false_or]
       refine c_isWithin (fun g2 g2' => ?_) (fun g2 => ?_)
       · try simp only [zwr_rne, zwr_req, upd_ne, upd_eq, ne_eq, Nat.reduceEqDiff, not_false_eq_true, ck, ix3, nI_1, nI_2, c0, c1, c2] at g2
         try simp only [zwr_rne, zwr_req, upd_ne, upd_eq, ne_eq, Nat.reduceEqDiff, not_false_eq_true, ck, ix3, nI_1, nI_2, c0, c1, c2] at g2'
         try omega
         all_goals
          try simp only [one_ne, zero_eq, if_false, if_true, or_true, true_or, or_false, false_or]
          refine c_isWithin (fun g3 g3' => ?_) (fun g3 => ?_)
          · try simp only [zwr_rne, zwr_req, upd_ne, upd_eq, ne_eq, Nat.reduceEqDiff, not_false_eq_true, ck, ix3, nI_1, nI_2, c0, c1, c2] at g3
            try simp only [zwr_rne, zwr_req, upd_ne, upd_eq, ne_eq, Nat.reduceEqDiff, not_false_eq_true, ck, ix3, nI_1, nI_2, c0, c1, c2] at g3'
            try omega
            all_goals
             try simp only [one_ne, zero_eq, if_false, if_true, or_true, true_or, or_false, false_or]
             refine c_isWithin (fun g4 g4' => ?_) (fun g4 => ?_)
             · try simp only [zwr_rne, zwr_req, upd_ne, upd_eq, ne_eq, Nat.reduceEqDiff, not_false_eq_true, ck, ix3, nI_1, nI_2, c0, c1, c2] at g4
               try simp only [zwr_rne, zwr_req, upd_ne, upd_eq, ne_eq, Nat.reduceEqDiff, not_false_eq_true, ck, ix3, nI_1, nI_2, c0, c1, c2] at g4'
               try omega
               all_goals
                try simp only [one_ne, zero_eq, if_false, if_true, or_true, true_or, or_false, false_or]
                refine ⟨by first | assumption | exact vin (by omega) | exact vp_in_I.mpr (by omega), ?_⟩
                rintro _ rfl
                try simp only [zwr_rne, zwr_req, upd_ne, upd_eq, ne_eq, Nat.reduceEqDiff, not_false_eq_true, ck, ix3, nI_1, nI_2, c0, c1, c2]
                refine ⟨by first | assumption | exact vin (by omega) | exact vp_in_I.mpr (by omega), ?_⟩
                rintro _ rfl
                try simp only [zwr_rne, zwr_req, upd_ne, upd_eq, ne_eq, Nat.reduceEqDiff, not_false_eq_true, ck, ix3, nI_1, nI_2, c0, c1, c2]
                refine ⟨by first | assumption | exact vin (by omega) | exact vp_in_I.mpr (by omega), ?_⟩
                rintro _ rfl
                try simp only [zwr_rne, zwr_req, upd_ne, upd_eq, ne_eq, Nat.reduceEqDiff, not_false_eq_true, ck, ix3, nI_1, nI_2, c0, c1, c2]
                refine en_X12_terms ?_
                try simp only [zwr_rne, zwr_req, upd_ne, upd_eq, ne_eq, Nat.reduceEqDiff, not_false_eq_true, ck, ix3, nI_1, nI_2, c0, c1, c2]
                refine m_isClass (fun g5 g5' => ?_) (fun g5 => ?_)
                · try simp only [zwr_rne, zwr_req, upd_ne, upd_eq, ne_eq, Nat.reduceEqDiff, not_false_eq_true, ck, ix3, nI_1, nI_2, c0, c1, c2] at g5
                  try simp only [zwr_rne, zwr_req, upd_ne, upd_eq, ne_eq, Nat.reduceEqDiff, not_false_eq_true, ck, ix3, nI_1, nI_2, c0, c1, c2] at g5'
                  try omega
                  all_goals
                   try simp only [one_ne, zero_eq, if_false, if_true, or_true, true_or, or_false, false_or]
                   try simp only [zwr_rne, zwr_req, upd_ne, upd_eq, ne_eq, Nat.reduceEqDiff, not_false_eq_true, ck, ix3, nI_1, nI_2, c0, c1, c2]
                   refine m_isIn (fun g6 g6' => ?_) (fun g6 => ?_)
                   · try simp only [zwr_rne, zwr_req, upd_ne, upd_eq, ne_eq, Nat.reduceEqDiff, not_false_eq_true, ck, ix3, nI_1, nI_2, c0, c1, c2] at g6
                     try simp only [zwr_rne, zwr_req, upd_ne, upd_eq, ne_eq, Nat.reduceEqDiff, not_false_eq_true, ck, ix3, nI_1, nI_2, c0, c1, c2] at g6'
                     try omega
                     all_goals
                      try simp only [one_ne, zero_eq, if_false, if_true, or_true, true_or, or_false, false_or]
                      try simp only [zwr_rne, zwr_req, upd_ne, upd_eq, ne_eq, Nat.reduceEqDiff, not_false_eq_true, ck, ix3, nI_1, nI_2, c0, c1, c2]
                      refine m_isIn (fun g7 g7' => ?_) (fun g7 => ?_)
                      · try simp only [zwr_rne, zwr_req, upd_ne, upd_eq, ne_eq, Nat.reduceEqDiff, not_false_eq_true, ck, ix3, nI_1, nI_2, c0, c1, c2] at g7
                        try simp only [zwr_rne, zwr_req, upd_ne, upd_eq, ne_eq, Nat.reduceEqDiff, not_false_eq_true, ck, ix3, nI_1, nI_2, c0, c1, c2] at g7'
                        try omega
                        all_goals
                         try simp only [one_ne, zero_eq, if_false, if_true, or_true, true_or, or_false, false_or]
                         try simp only [zwr_rne, zwr_req, upd_ne, upd_eq, ne_eq, Nat.reduceEqDiff, not_false_eq_true, ck, ix3, nI_1, nI_2, c0, c1, c2]
                         refine m_isIn (fun g8 g8' => ?_) (fun g8 => ?_)
                         · try simp only [zwr_rne, zwr_req, upd_ne, upd_eq, ne_eq, Nat.reduceEqDiff, not_false_eq_true, ck, ix3, nI_1, nI_2, c0, c1, c2] at g8
                           try simp only [zwr_rne, zwr_req, upd_ne, upd_eq, ne_eq, Nat.reduceEqDiff, not_false_eq_true, ck, ix3, nI_1, nI_2, c0, c1, c2] at g8'
                           try omega
                           all_goals
                            try simp only [one_ne, zero_eq, if_false, if_true, or_true, true_or, or_false, false_or]
                            try simp only [zwr_rne, zwr_req, upd_ne, upd_eq, ne_eq, Nat.reduceEqDiff, not_false_eq_true, ck, ix3, nI_1, nI_2, c0, c1, c2]
                            refine ⟨by first | assumption | exact vin (by omega) | exact vp_in_I.mpr (by omega), ?_⟩
                            rintro _ rfl
                            try simp only [zwr_rne, zwr_req, upd_ne, upd_eq, ne_eq, Nat.reduceEqDiff, not_false_eq_true, ck, ix3, nI_1, nI_2, c0, c1, c2]
                            refine ⟨by first | assumption | exact vin (by omega) | exact vp_in_I.mpr (by omega), ?_⟩
                            rintro _ rfl
                            try simp only [zwr_rne, zwr_req, upd_ne, upd_eq, ne_eq, Nat.reduceEqDiff, not_false_eq_true, ck, ix3, nI_1, nI_2, c0, c1, c2]
                            refine ⟨by first | assumption | exact vin (by omega) | exact vp_in_I.mpr (by omega), ?_⟩
                            rintro _ rfl
                            try simp only [zwr_rne, zwr_req, upd_ne, upd_eq, ne_eq, Nat.reduceEqDiff, not_false_eq_true, ck, ix3, nI_1, nI_2, c0, c1, c2]
                            refine ⟨by first | rfl | trivial | assumption, ?_⟩
                            unfold Rall
                            simp only [zwr_rne, zwr_req, upd_ne, upd_eq, ne_eq, Nat.reduceEqDiff, not_false_eq_true]
                            exact ⟨⟨k1, k2, k3, k4, k5, k6, k7, k8, k9⟩, kas, kcl, kda, kdh, kpl.terms (by omega) (by omega) (by omega) (by omega) (by omega) (by omega), kkp, ksh, kwt, ktp, klw, ksd, kw0, kw1⟩
                         · exfalso; (try simp only [zwr_rne, zwr_req, upd_ne, upd_eq, ne_eq, Nat.reduceEqDiff, not_false_eq_true, ck, ix3, nI_1, nI_2, c0, c1, c2] at g8); omega
                      · exfalso; (try simp only [zwr_rne, zwr_req, upd_ne, upd_eq, ne_eq, Nat.reduceEqDiff, not_false_eq_true, ck, ix3, nI_1, nI_2, c0, c1, c2] at g7); omega
                   · exfalso; (try simp only [zwr_rne, zwr_req, upd_ne, upd_eq, ne_eq, Nat.reduceEqDiff, not_false_eq_true, ck, ix3, nI_1, nI_2, c0, c1, c2] at g6); omega
                · exfalso; (try simp only [zwr_rne, zwr_req, upd_ne, upd_eq, ne_eq, Nat.reduceEqDiff, not_false_eq_true, ck, ix3, nI_1, nI_2, c0, c1, c2] at g5); omega
             · try simp only [zwr_rne, zwr_req, upd_ne, upd_eq, ne_eq, Nat.reduceEqDiff, not_false_eq_true, ck, ix3, nI_1, nI_2, c0, c1, c2] at g4
               try omega
               all_goals
                try simp only [one_ne, zero_eq, if_false, if_true, or_true, true_or, or_false, false_or]
                refine en_X12_terms ?_
                try simp only [zwr_rne, zwr_req, upd_ne, upd_eq, ne_eq, Nat.reduceEqDiff, not_false_eq_true, ck, ix3, nI_1, nI_2, c0, c1, c2]
                refine m_isClass (fun g9 g9' => ?_) (fun g9 => ?_)
                · try simp only [zwr_rne, zwr_req, upd_ne, upd_eq, ne_eq, Nat.reduceEqDiff, not_false_eq_true, ck, ix3, nI_1, nI_2, c0, c1, c2] at g9
                  try simp only [zwr_rne, zwr_req, upd_ne, upd_eq, ne_eq, Nat.reduceEqDiff, not_false_eq_true, ck, ix3, nI_1, nI_2, c0, c1, c2] at g9'
                  try omega
                  all_goals
                   try simp only [one_ne, zero_eq, if_false, if_true, or_true, true_or, or_false, false_or]
                   try simp only [zwr_rne, zwr_req, upd_ne, upd_eq, ne_eq, Nat.reduceEqDiff, not_false_eq_true, ck, ix3, nI_1, nI_2, c0, c1, c2]
                   refine m_isIn (fun g10 g10' => ?_) (fun g10 => ?_)
                   · try simp only [zwr_rne, zwr_req, upd_ne, upd_eq, ne_eq, Nat.reduceEqDiff, not_false_eq_true, ck, ix3, nI_1, nI_2, c0, c1, c2] at g10
                     try simp only [zwr_rne, zwr_req, upd_ne, upd_eq, ne_eq, Nat.reduceEqDiff, not_false_eq_true, ck, ix3, nI_1, nI_2, c0, c1, c2] at g10'
                     try omega
                     all_goals
                      try simp only [one_ne, zero_eq, if_false, if_true, or_true, true_or, or_false, false_or]
                      try simp only [zwr_rne, zwr_req, upd_ne, upd_eq, ne_eq, Nat.reduceEqDiff, not_false_eq_true, ck, ix3, nI_1, nI_2, c0, c1, c2]
                      refine m_isIn (fun g11 g11' => ?_) (fun g11 => ?_)
                      · try simp only [zwr_rne, zwr_req, upd_ne, upd_eq, ne_eq, Nat.reduceEqDiff, not_false_eq_true, ck, ix3, nI_1, nI_2, c0, c1, c2] at g11
                        try simp only [zwr_rne, zwr_req, upd_ne, upd_eq, ne_eq, Nat.reduceEqDiff, not_false_eq_true, ck, ix3, nI_1, nI_2, c0, c1, c2] at g11'
                        try omega
                        all_goals
                         try simp only [one_ne, zero_eq, if_false, if_true, or_true, true_or, or_false, false_or]
                         try simp only [zwr_rne, zwr_req, upd_ne, upd_eq, ne_eq, Nat.reduceEqDiff, not_false_eq_true, ck, ix3, nI_1, nI_2, c0, c1, c2]
                         refine m_isIn (fun g12 g12' => ?_) (fun g12 => ?_)
                         · exfalso; (try simp only [zwr_rne, zwr_req, upd_ne, upd_eq, ne_eq, Nat.reduceEqDiff, not_false_eq_true, ck, ix3, nI_1, nI_2, c0, c1, c2] at g12); (try simp only [zwr_rne, zwr_req, upd_ne, upd_eq, ne_eq, Nat.reduceEqDiff, not_false_eq_true, ck, ix3, nI_1, nI_2, c0, c1, c2] at g12'); omega
                         · try simp only [zwr_rne, zwr_req, upd_ne, upd_eq, ne_eq, Nat.reduceEqDiff, not_false_eq_true, ck, ix3, nI_1, nI_2, c0, c1, c2] at g12
                           try omega
                           all_goals
                            try simp only [one_ne, zero_eq, if_false, if_true, or_true, true_or, or_false, false_or]
                            try simp only [zwr_rne, zwr_req, upd_ne, upd_eq, ne_eq, Nat.reduceEqDiff, not_false_eq_true, ck, ix3, nI_1, nI_2, c0, c1, c2]
                            exact ⟨by first | rfl | trivial, hh⟩
                      · exfalso; (try simp only [zwr_rne, zwr_req, upd_ne, upd_eq, ne_eq, Nat.reduceEqDiff, not_false_eq_true, ck, ix3, nI_1, nI_2, c0, c1, c2] at g11); omega
                   · exfalso; (try simp only [zwr_rne, zwr_req, upd_ne, upd_eq, ne_eq, Nat.reduceEqDiff, not_false_eq_true, ck, ix3, nI_1, nI_2, c0, c1, c2] at g10); omega
                · exfalso; (try simp only [zwr_rne, zwr_req, upd_ne, upd_eq, ne_eq, Nat.reduceEqDiff, not_false_eq_true, ck, ix3, nI_1, nI_2, c0, c1, c2] at g9); omega
          · try simp only [zwr_rne, zwr_req, upd_ne, upd_eq, ne_eq, Nat.reduceEqDiff, not_false_eq_true, ck, ix3, nI_1, nI_2, c0, c1, c2] at g3
            try omega
            all_goals
             try simp only [one_ne, zero_eq, if_false, if_true, or_true, true_or, or_false, false_or]
             refine en_X12_terms ?_
             try simp only [zwr_rne, zwr_req, upd_ne, upd_eq, ne_eq, Nat.reduceEqDiff, not_false_eq_true, ck, ix3, nI_1, nI_2, c0, c1, c2]
             refine m_isClass (fun g13 g13' => ?_) (fun g13 => ?_)
             · try simp only [zwr_rne, zwr_req, upd_ne, upd_eq, ne_eq, Nat.reduceEqDiff, not_false_eq_true, ck, ix3, nI_1, nI_2, c0, c1, c2] at g13
               try simp only [zwr_rne, zwr_req, upd_ne, upd_eq, ne_eq, Nat.reduceEqDiff, not_false_eq_true, ck, ix3, nI_1, nI_2, c0, c1, c2] at g13'
               try omega
               all_goals
                try simp only [one_ne, zero_eq, if_false, if_true, or_true, true_or, or_false, false_or]
                try simp only [zwr_rne, zwr_req, upd_ne, upd_eq, ne_eq, Nat.reduceEqDiff, not_false_eq_true, ck, ix3, nI_1, nI_2, c0, c1, c2]
                refine m_isIn (fun g14 g14' => ?_) (fun g14 => ?_)
                · try simp only [zwr_rne, zwr_req, upd_ne, upd_eq, ne_eq, Nat.reduceEqDiff, not_false_eq_true, ck, ix3, nI_1, nI_2, c0, c1, c2] at g14
                  try simp only [zwr_rne, zwr_req, upd_ne, upd_eq, ne_eq, Nat.reduceEqDiff, not_false_eq_true, ck, ix3, nI_1, nI_2, c0, c1, c2] at g14'
                  try omega
                  all_goals
                   try simp only [one_ne, zero_eq, if_false, if_true, or_true, true_or, or_false, false_or]
                   try simp only [zwr_rne, zwr_req, upd_ne, upd_eq, ne_eq, Nat.reduceEqDiff, not_false_eq_true, ck, ix3, nI_1, nI_2, c0, c1, c2]
                   refine m_isIn (fun g15 g15' => ?_) (fun g15 => ?_)
                   · exfalso; (try simp only [zwr_rne, zwr_req, upd_ne, upd_eq, ne_eq, Nat.reduceEqDiff, not_false_eq_true, ck, ix3, nI_1, nI_2, c0, c1, c2] at g15); (try simp only [zwr_rne, zwr_req, upd_ne, upd_eq, ne_eq, Nat.reduceEqDiff, not_false_eq_true, ck, ix3, nI_1, nI_2, c0, c1, c2] at g15'); omega
                   · try simp only [zwr_rne, zwr_req, upd_ne, upd_eq, ne_eq, Nat.reduceEqDiff, not_false_eq_true, ck, ix3, nI_1, nI_2, c0, c1, c2] at g15
                     try omega
                     all_goals
                      try simp only [one_ne, zero_eq, if_false, if_true, or_true, true_or, or_false, false_or]
                      try simp only [zwr_rne, zwr_req, upd_ne, upd_eq, ne_eq, Nat.reduceEqDiff, not_false_eq_true, ck, ix3, nI_1, nI_2, c0, c1, c2]
                      exact ⟨by first | rfl | trivial, hh⟩
                · exfalso; (try simp only [zwr_rne, zwr_req, upd_ne, upd_eq, ne_eq, Nat.reduceEqDiff, not_false_eq_true, ck, ix3, nI_1, nI_2, c0, c1, c2] at g14); omega
             · exfalso; (try simp only [zwr_rne, zwr_req, upd_ne, upd_eq, ne_eq, Nat.reduceEqDiff, not_false_eq_true, ck, ix3, nI_1, nI_2, c0, c1, c2] at g13); omega
       · try simp only [zwr_rne, zwr_req, upd_ne, upd_eq, ne_eq, Nat.reduceEqDiff, not_false_eq_true, ck, ix3, nI_1, nI_2, c0, c1, c2] at g2
         try omega
         all_goals
          try simp only [one_ne, zero_eq, if_false, if_true, or_true, true_or, or_false, false_or]
          refine en_X12_terms ?_
          try simp only [zwr_rne, zwr_req, upd_ne, upd_eq, ne_eq, Nat.reduceEqDiff, not_false_eq_true, ck, ix3, nI_1, nI_2, c0, c1, c2]
          refine m_isClass (fun g16 g16' => ?_) (fun g16 => ?_)
          · try simp only [zwr_rne, zwr_req, upd_ne, upd_eq, ne_eq, Nat.reduceEqDiff, not_false_eq_true, ck, ix3, nI_1, nI_2, c0, c1, c2] at g16
            try simp only [zwr_rne, zwr_req, upd_ne, upd_eq, ne_eq, Nat.reduceEqDiff, not_false_eq_true, ck, ix3, nI_1, nI_2, c0, c1, c2] at g16'
            try omega
            all_goals
             try simp only [one_ne, zero_eq, if_false, if_true, or_true, true_or, or_false, false_or]
             try simp only [zwr_rne, zwr_req, upd_ne, upd_eq, ne_eq, Nat.reduceEqDiff, not_false_eq_true, ck, ix3, nI_1, nI_2, c0, c1, c2]
             refine m_isIn (fun g17 g17' => ?_) (fun g17 => ?_)
             · exfalso; (try simp only [zwr_rne, zwr_req, upd_ne, upd_eq, ne_eq, Nat.reduceEqDiff, not_false_eq_true, ck, ix3, nI_1, nI_2, c0, c1, c2] at g17); (try simp only [zwr_rne, zwr_req, upd_ne, upd_eq, ne_eq, Nat.reduceEqDiff, not_false_eq_true, ck, ix3, nI_1, nI_2, c0, c1, c2] at g17'); omega
             · try simp only [zwr_rne, zwr_req, upd_ne, upd_eq, ne_eq, Nat.reduceEqDiff, not_false_eq_true, ck, ix3, nI_1, nI_2, c0, c1, c2] at g17
               try omega
               all_goals
                try simp only [one_ne, zero_eq, if_false, if_true, or_true, true_or, or_false, false_or]
                try simp only [zwr_rne, zwr_req, upd_ne, upd_eq, ne_eq, Nat.reduceEqDiff, not_false_eq_true, ck, ix3, nI_1, nI_2, c0, c1, c2]
                exact ⟨by first | rfl | trivial, hh⟩
          · exfalso; (try simp only [zwr_rne, zwr_req, upd_ne, upd_eq, ne_eq, Nat.reduceEqDiff, not_false_eq_true, ck, ix3, nI_1, nI_2, c0, c1, c2] at g16); omega
    · try simp only [zwr_rne, zwr_req, upd_ne, upd_eq, ne_eq, Nat.reduceEqDiff, not_false_eq_true, ck, ix3, nI_1, nI_2, c0, c1, c2] at g1
      try omega
      all_goals
       try simp only [one_ne, zero_eq, if_false, if_true, or_true, true_or, or_false, false_or]
       refine en_X12_terms ?_
       try simp only [zwr_rne, zwr_req, upd_ne, upd_eq, ne_eq, Nat.reduceEqDiff, not_false_eq_true, ck, ix3, nI_1, nI_2, c0, c1, c2]
       refine m_isClass (fun g18 g18' => ?_) (fun g18 => ?_)
       · exfalso; (try simp only [zwr_rne, zwr_req, upd_ne, upd_eq, ne_eq, Nat.reduceEqDiff, not_false_eq_true, ck, ix3, nI_1, nI_2, c0, c1, c2] at g18); (try simp only [zwr_rne, zwr_req, upd_ne, upd_eq, ne_eq, Nat.reduceEqDiff, not_false_eq_true, ck, ix3, nI_1, nI_2, c0, c1, c2] at g18'); omega
       · try simp only [zwr_rne, zwr_req, upd_ne, upd_eq, ne_eq, Nat.reduceEqDiff, not_false_eq_true, ck, ix3, nI_1, nI_2, c0, c1, c2] at g18
         try omega
         all_goals
          try simp only [one_ne, zero_eq, if_false, if_true, or_true, true_or, or_false, false_or]
          try simp only [zwr_rne, zwr_req, upd_ne, upd_eq, ne_eq, Nat.reduceEqDiff, not_false_eq_true, ck, ix3, nI_1, nI_2, c0, c1, c2]
          exact ⟨by first | rfl | trivial, hh⟩

theorem P_record {G : zGT} {d : Nat} {v1 : Int32} : Pair G (d + 6) Y_X11_record Y_X12_record [.inl v1] := by
  intro σ h
  have hh := h
  obtain ⟨⟨k1, k2, k3, k4, k5, k6, k7, k8, k9⟩, kas, kcl, kda, kdh, kpl, kkp, ksh, kwt, ktp, klw, ksd, kw0, kw1⟩ := h
  obtain ⟨e1, b1, u1⟩ := id k1
  obtain ⟨e2, b2, u2⟩ := id k2
  obtain ⟨e3, b3, u3⟩ := id k3
  obtain ⟨e4, b4, u4⟩ := id k4
  obtain ⟨e5, b5, u5⟩ := id k5
  obtain ⟨e6, b6, u6⟩ := id k6
  obtain ⟨e7, b7, u7⟩ := id k7
  obtain ⟨e8, b8, u8⟩ := id k8
  obtain ⟨e9, b9, u9⟩ := id k9
  have f1 : (σ 0 15).toInt = (σ 72 1).toInt := by rw [e1]
  have f2 : (σ 14 5).toInt = (σ 72 2).toInt := by rw [e2]
  have f3 : (σ 1 6).toInt = (σ 72 8).toInt := by rw [e3]
  have f4 : (σ 0 16).toInt = (σ 72 0).toInt := by rw [e4]
  have f5 : (σ 55 7).toInt = (σ 72 22).toInt := by rw [e5]
  have f6 : (σ 14 6).toInt = (σ 72 23).toInt := by rw [e6]
  have f7 : (σ 0 17).toInt = (σ 72 24).toInt := by rw [e7]
  have f8 : (σ 0 13).toInt = (σ 72 25).toInt := by rw [e8]
  have f9 : (σ 46 1).toInt = (σ 72 28).toInt := by rw [e9]
  have l0 := ti0
  have l1 := ti1
  have l2 := ti2
  have l3 := ti3
  have l4 := ti4
  have l5 := ti5
  have l6 := ti6
  have l8 := ti8
  have l9 := ti9
  have l10 := ti10
  have l16 := ti16
  have l20 := ti20
  have l24 := ti24
  have l31 := ti31
  have l60 := ti60
  have l96 := ti96
  have l100 := ti100
  have l200 := ti200
  have l400 := ti400
  have l600 := ti600
  have l1200 := ti1200
  have l100000 := ti100000
  have lm1 := tim1
  have lB := tiB
  have lN := tiN
  refine en_X11_record ?_
  try simp only [zwr_rne, zwr_req, upd_ne, upd_eq, ne_eq, Nat.reduceEqDiff, not_false_eq_true, e4]
  refine c_isWithin (fun g1 g1' => ?_) (fun g1 => ?_)
  · try simp only [zwr_rne, zwr_req, upd_ne, upd_eq, ne_eq, Nat.reduceEqDiff, not_false_eq_true, e4] at g1
    try simp only [zwr_rne, zwr_req, upd_ne, upd_eq, ne_eq, Nat.reduceEqDiff, not_false_eq_true, e4] at g1'
    try omega
    all_goals
     try simp only [one_ne, zero_eq, if_false, if_true, or_true, true_or, or_false, false_or]
     rintro _ rfl
     try simp only [zwr_rne, zwr_req, upd_ne, upd_eq, ne_eq, Nat.reduceEqDiff, not_false_eq_true, e4]
     refine en_X12_record ?_
     try simp only [zwr_rne, zwr_req, upd_ne, upd_eq, ne_eq, Nat.reduceEqDiff, not_false_eq_true, e4]
     refine m_isPast (fun g2 g2' => ?_) (fun g2 => ?_)
     · try simp only [zwr_rne, zwr_req, upd_ne, upd_eq, ne_eq, Nat.reduceEqDiff, not_false_eq_true, e4] at g2
       try simp only [zwr_rne, zwr_req, upd_ne, upd_eq, ne_eq, Nat.reduceEqDiff, not_false_eq_true, e4] at g2'
       try omega
       all_goals
        try simp only [one_ne, zero_eq, if_false, if_true, or_true, true_or, or_false, false_or]
        try simp only [zwr_rne, zwr_req, upd_ne, upd_eq, ne_eq, Nat.reduceEqDiff, not_false_eq_true, e4]
        rintro _ rfl
        try simp only [zwr_rne, zwr_req, upd_ne, upd_eq, ne_eq, Nat.reduceEqDiff, not_false_eq_true, e4]
        refine ⟨e5, ?_⟩
        unfold Rall
        simp only [zwr_rne, zwr_req, upd_ne, upd_eq, ne_eq, Nat.reduceEqDiff, not_false_eq_true]
        exact ⟨⟨k1, k2, k3, k4, ⟨rfl, by omega, by omega⟩, k6, k7, k8, k9⟩, kas, kcl, kda, kdh, kpl, kkp, ksh, kwt, ktp, klw, ksd, kw0, kw1⟩
     · exfalso; (try simp only [zwr_rne, zwr_req, upd_ne, upd_eq, ne_eq, Nat.reduceEqDiff, not_false_eq_true, e4] at g2); omega
  · try simp only [zwr_rne, zwr_req, upd_ne, upd_eq, ne_eq, Nat.reduceEqDiff, not_false_eq_true, e4] at g1
    try omega
    all_goals
     try simp only [one_ne, zero_eq, if_false, if_true, or_true, true_or, or_false, false_or]
     refine en_X12_record ?_
     try simp only [zwr_rne, zwr_req, upd_ne, upd_eq, ne_eq, Nat.reduceEqDiff, not_false_eq_true, e4]
     refine m_isPast (fun g3 g3' => ?_) (fun g3 => ?_)
     · exfalso; (try simp only [zwr_rne, zwr_req, upd_ne, upd_eq, ne_eq, Nat.reduceEqDiff, not_false_eq_true, e4] at g3); (try simp only [zwr_rne, zwr_req, upd_ne, upd_eq, ne_eq, Nat.reduceEqDiff, not_false_eq_true, e4] at g3'); omega
     · try simp only [zwr_rne, zwr_req, upd_ne, upd_eq, ne_eq, Nat.reduceEqDiff, not_false_eq_true, e4] at g3
       try omega
       all_goals
        try simp only [one_ne, zero_eq, if_false, if_true, or_true, true_or, or_false, false_or]
        try simp only [zwr_rne, zwr_req, upd_ne, upd_eq, ne_eq, Nat.reduceEqDiff, not_false_eq_true, e4]
        exact ⟨by first | rfl | trivial, hh⟩

theorem P_rule {G : zGT} {d : Nat} {v1 v2 : Int32} : Pair G (d + 6) Y_X11_rule Y_X12_rule [.inl v1, .inl v2] := by
  intro σ h
  have hh := h
  obtain ⟨⟨k1, k2, k3, k4, k5, k6, k7, k8, k9⟩, kas, kcl, kda, kdh, kpl, kkp, ksh, kwt, ktp, klw, ksd, kw0, kw1⟩ := h
  obtain ⟨e1, b1, u1⟩ := id k1
  obtain ⟨e2, b2, u2⟩ := id k2
  obtain ⟨e3, b3, u3⟩ := id k3
  obtain ⟨e4, b4, u4⟩ := id k4
  obtain ⟨e5, b5, u5⟩ := id k5
  obtain ⟨e6, b6, u6⟩ := id k6
  obtain ⟨e7, b7, u7⟩ := id k7
  obtain ⟨e8, b8, u8⟩ := id k8
  obtain ⟨e9, b9, u9⟩ := id k9
  have f1 : (σ 0 15).toInt = (σ 72 1).toInt := by rw [e1]
  have f2 : (σ 14 5).toInt = (σ 72 2).toInt := by rw [e2]
  have f3 : (σ 1 6).toInt = (σ 72 8).toInt := by rw [e3]
  have f4 : (σ 0 16).toInt = (σ 72 0).toInt := by rw [e4]
  have f5 : (σ 55 7).toInt = (σ 72 22).toInt := by rw [e5]
  have f6 : (σ 14 6).toInt = (σ 72 23).toInt := by rw [e6]
  have f7 : (σ 0 17).toInt = (σ 72 24).toInt := by rw [e7]
  have f8 : (σ 0 13).toInt = (σ 72 25).toInt := by rw [e8]
  have f9 : (σ 46 1).toInt = (σ 72 28).toInt := by rw [e9]
  have l0 := ti0
  have l1 := ti1
  have l2 := ti2
  have l3 := ti3
  have l4 := ti4
  have l5 := ti5
  have l6 := ti6
  have l8 := ti8
  have l9 := ti9
  have l10 := ti10
  have l16 := ti16
  have l20 := ti20
  have l24 := ti24
  have l31 := ti31
  have l60 := ti60
  have l96 := ti96
  have l100 := ti100
  have l200 := ti200
  have l400 := ti400
  have l600 := ti600
  have l1200 := ti1200
  have l100000 := ti100000
  have lm1 := tim1
  have lB := tiB
  have lN := tiN
  refine en_X11_rule ?_
  try simp only [zwr_rne, zwr_req, upd_ne, upd_eq, ne_eq, Nat.reduceEqDiff, not_false_eq_true]
  refine zeq (fun g1 => ?_) (fun g1 => ?_)
  · try simp only [zwr_rne, zwr_req, upd_ne, upd_eq, ne_eq, Nat.reduceEqDiff, not_false_eq_true] at g1
    try omega
    all_goals
     refine c_isWithin (fun g2 g2' => ?_) (fun g2 => ?_)
     · try simp only [zwr_rne, zwr_req, upd_ne, upd_eq, ne_eq, Nat.reduceEqDiff, not_false_eq_true] at g2
       try simp only [zwr_rne, zwr_req, upd_ne, upd_eq, ne_eq, Nat.reduceEqDiff, not_false_eq_true] at g2'
       try omega
       all_goals
        try simp only [one_ne, zero_eq, if_false, if_true, or_true, true_or, or_false, false_or]
        rintro _ rfl
        try simp only [zwr_rne, zwr_req, upd_ne, upd_eq, ne_eq, Nat.reduceEqDiff, not_false_eq_true]
        refine c_changed ?_
        try simp only [zwr_rne, zwr_req, upd_ne, upd_eq, ne_eq, Nat.reduceEqDiff, not_false_eq_true]
        refine en_X12_rule ?_
        try simp only [zwr_rne, zwr_req, upd_ne, upd_eq, ne_eq, Nat.reduceEqDiff, not_false_eq_true]
        refine m_isIn (fun g3 g3' => ?_) (fun g3 => ?_)
        · try simp only [zwr_rne, zwr_req, upd_ne, upd_eq, ne_eq, Nat.reduceEqDiff, not_false_eq_true] at g3
          try simp only [zwr_rne, zwr_req, upd_ne, upd_eq, ne_eq, Nat.reduceEqDiff, not_false_eq_true] at g3'
          try omega
          all_goals
           try simp only [one_ne, zero_eq, if_false, if_true, or_true, true_or, or_false, false_or]
           try simp only [zwr_rne, zwr_req, upd_ne, upd_eq, ne_eq, Nat.reduceEqDiff, not_false_eq_true]
           refine zeq (fun g4 => ?_) (fun g4 => ?_)
           · try simp only [zwr_rne, zwr_req, upd_ne, upd_eq, ne_eq, Nat.reduceEqDiff, not_false_eq_true] at g4
             try omega
             all_goals
              try simp only [zwr_rne, zwr_req, upd_ne, upd_eq, ne_eq, Nat.reduceEqDiff, not_false_eq_true]
              refine m_isIn (fun g5 g5' => ?_) (fun g5 => ?_)
              · try simp only [zwr_rne, zwr_req, upd_ne, upd_eq, ne_eq, Nat.reduceEqDiff, not_false_eq_true] at g5
                try simp only [zwr_rne, zwr_req, upd_ne, upd_eq, ne_eq, Nat.reduceEqDiff, not_false_eq_true] at g5'
                try omega
                all_goals
                 try simp only [one_ne, zero_eq, if_false, if_true, or_true, true_or, or_false, false_or]
                 try simp only [zwr_rne, zwr_req, upd_ne, upd_eq, ne_eq, Nat.reduceEqDiff, not_false_eq_true]
                 refine zeq (fun g6 => ?_) (fun g6 => ?_)
                 · try simp only [zwr_rne, zwr_req, upd_ne, upd_eq, ne_eq, Nat.reduceEqDiff, not_false_eq_true] at g6
                   try omega
                   all_goals
                    try simp only [zwr_rne, zwr_req, upd_ne, upd_eq, ne_eq, Nat.reduceEqDiff, not_false_eq_true]
                    refine zeq (fun g7 => ?_) (fun g7 => ?_)
                    · try simp only [zwr_rne, zwr_req, upd_ne, upd_eq, ne_eq, Nat.reduceEqDiff, not_false_eq_true] at g7
                      try omega
                      all_goals
                       try simp only [zwr_rne, zwr_req, upd_ne, upd_eq, ne_eq, Nat.reduceEqDiff, not_false_eq_true]
                       rintro _ rfl
                       try simp only [zwr_rne, zwr_req, upd_ne, upd_eq, ne_eq, Nat.reduceEqDiff, not_false_eq_true]
                       first
                         | (refine ⟨e6, ?_⟩; unfold Rall; simp only [zwr_rne, zwr_req, upd_ne, upd_eq, ne_eq, Nat.reduceEqDiff, not_false_eq_true]; exact ⟨⟨k1, k2, k3, k4, k5, ⟨rfl, by omega, by omega⟩, k7, k8, k9⟩, kas, kcl, kda, kdh, kpl, kkp, ksh, kwt, ktp, klw, ksd, Rwx_stale, Rwx_stale⟩)
                         | (refine ⟨e7, ?_⟩; unfold Rall; simp only [zwr_rne, zwr_req, upd_ne, upd_eq, ne_eq, Nat.reduceEqDiff, not_false_eq_true]; exact ⟨⟨k1, k2, k3, k4, k5, k6, ⟨rfl, by omega, by omega⟩, k8, k9⟩, kas, kcl, kda, kdh, kpl, kkp, ksh, kwt, ktp, klw, ksd, kw0, kw1⟩)
                    · exfalso; (try simp only [zwr_rne, zwr_req, upd_ne, upd_eq, ne_eq, Nat.reduceEqDiff, not_false_eq_true] at g7); omega
                 · exfalso; (try simp only [zwr_rne, zwr_req, upd_ne, upd_eq, ne_eq, Nat.reduceEqDiff, not_false_eq_true] at g6); omega
              · exfalso; (try simp only [zwr_rne, zwr_req, upd_ne, upd_eq, ne_eq, Nat.reduceEqDiff, not_false_eq_true] at g5); omega
           · exfalso; (try simp only [zwr_rne, zwr_req, upd_ne, upd_eq, ne_eq, Nat.reduceEqDiff, not_false_eq_true] at g4); omega
        · try simp only [zwr_rne, zwr_req, upd_ne, upd_eq, ne_eq, Nat.reduceEqDiff, not_false_eq_true] at g3
          try omega
          all_goals
           try simp only [one_ne, zero_eq, if_false, if_true, or_true, true_or, or_false, false_or]
           try simp only [zwr_rne, zwr_req, upd_ne, upd_eq, ne_eq, Nat.reduceEqDiff, not_false_eq_true]
           exact ⟨by first | rfl | trivial, hh⟩
     · try simp only [zwr_rne, zwr_req, upd_ne, upd_eq, ne_eq, Nat.reduceEqDiff, not_false_eq_true] at g2
       try omega
       all_goals
        try simp only [one_ne, zero_eq, if_false, if_true, or_true, true_or, or_false, false_or]
        refine zeq (fun g8 => ?_) (fun g8 => ?_)
        · try simp only [zwr_rne, zwr_req, upd_ne, upd_eq, ne_eq, Nat.reduceEqDiff, not_false_eq_true] at g8
          try omega
          all_goals
           refine c_isWithin (fun g9 g9' => ?_) (fun g9 => ?_)
           · try simp only [zwr_rne, zwr_req, upd_ne, upd_eq, ne_eq, Nat.reduceEqDiff, not_false_eq_true] at g9
             try simp only [zwr_rne, zwr_req, upd_ne, upd_eq, ne_eq, Nat.reduceEqDiff, not_false_eq_true] at g9'
             try omega
             all_goals
              try simp only [one_ne, zero_eq, if_false, if_true, or_true, true_or, or_false, false_or]
              rintro _ rfl
              try simp only [zwr_rne, zwr_req, upd_ne, upd_eq, ne_eq, Nat.reduceEqDiff, not_false_eq_true]
              refine en_X12_rule ?_
              try simp only [zwr_rne, zwr_req, upd_ne, upd_eq, ne_eq, Nat.reduceEqDiff, not_false_eq_true]
              refine m_isIn (fun g10 g10' => ?_) (fun g10 => ?_)
              · try simp only [zwr_rne, zwr_req, upd_ne, upd_eq, ne_eq, Nat.reduceEqDiff, not_false_eq_true] at g10
                try simp only [zwr_rne, zwr_req, upd_ne, upd_eq, ne_eq, Nat.reduceEqDiff, not_false_eq_true] at g10'
                try omega
                all_goals
                 try simp only [one_ne, zero_eq, if_false, if_true, or_true, true_or, or_false, false_or]
                 try simp only [zwr_rne, zwr_req, upd_ne, upd_eq, ne_eq, Nat.reduceEqDiff, not_false_eq_true]
                 refine zeq (fun g11 => ?_) (fun g11 => ?_)
                 · try simp only [zwr_rne, zwr_req, upd_ne, upd_eq, ne_eq, Nat.reduceEqDiff, not_false_eq_true] at g11
                   try omega
                   all_goals
                    try simp only [zwr_rne, zwr_req, upd_ne, upd_eq, ne_eq, Nat.reduceEqDiff, not_false_eq_true]
                    refine m_isIn (fun g12 g12' => ?_) (fun g12 => ?_)
                    · exfalso; (try simp only [zwr_rne, zwr_req, upd_ne, upd_eq, ne_eq, Nat.reduceEqDiff, not_false_eq_true] at g12); (try simp only [zwr_rne, zwr_req, upd_ne, upd_eq, ne_eq, Nat.reduceEqDiff, not_false_eq_true] at g12'); omega
                    · try simp only [zwr_rne, zwr_req, upd_ne, upd_eq, ne_eq, Nat.reduceEqDiff, not_false_eq_true] at g12
                      try omega
                      all_goals
                       try simp only [one_ne, zero_eq, if_false, if_true, or_true, true_or, or_false, false_or]
                       try simp only [zwr_rne, zwr_req, upd_ne, upd_eq, ne_eq, Nat.reduceEqDiff, not_false_eq_true]
                       exact ⟨by first | rfl | trivial, hh⟩
                 · exfalso; (try simp only [zwr_rne, zwr_req, upd_ne, upd_eq, ne_eq, Nat.reduceEqDiff, not_false_eq_true] at g11); omega
              · try simp only [zwr_rne, zwr_req, upd_ne, upd_eq, ne_eq, Nat.reduceEqDiff, not_false_eq_true] at g10
                try omega
                all_goals
                 try simp only [one_ne, zero_eq, if_false, if_true, or_true, true_or, or_false, false_or]
                 try simp only [zwr_rne, zwr_req, upd_ne, upd_eq, ne_eq, Nat.reduceEqDiff, not_false_eq_true]
                 exact ⟨by first | rfl | trivial, hh⟩
           · try simp only [zwr_rne, zwr_req, upd_ne, upd_eq, ne_eq, Nat.reduceEqDiff, not_false_eq_true] at g9
             try omega
             all_goals
              try simp only [one_ne, zero_eq, if_false, if_true, or_true, true_or, or_false, false_or]
              refine en_X12_rule ?_
              try simp only [zwr_rne, zwr_req, upd_ne, upd_eq, ne_eq, Nat.reduceEqDiff, not_false_eq_true]
              refine m_isIn (fun g13 g13' => ?_) (fun g13 => ?_)
              · try simp only [zwr_rne, zwr_req, upd_ne, upd_eq, ne_eq, Nat.reduceEqDiff, not_false_eq_true] at g13
                try simp only [zwr_rne, zwr_req, upd_ne, upd_eq, ne_eq, Nat.reduceEqDiff, not_false_eq_true] at g13'
                try omega
                all_goals
                 try simp only [one_ne, zero_eq, if_false, if_true, or_true, true_or, or_false, false_or]
                 try simp only [zwr_rne, zwr_req, upd_ne, upd_eq, ne_eq, Nat.reduceEqDiff, not_false_eq_true]
                 refine zeq (fun g14 => ?_) (fun g14 => ?_)
                 · try simp only [zwr_rne, zwr_req, upd_ne, upd_eq, ne_eq, Nat.reduceEqDiff, not_false_eq_true] at g14
                   try omega
                   all_goals
                    try simp only [zwr_rne, zwr_req, upd_ne, upd_eq, ne_eq, Nat.reduceEqDiff, not_false_eq_true]
                    refine m_isIn (fun g15 g15' => ?_) (fun g15 => ?_)
                    · exfalso; (try simp only [zwr_rne, zwr_req, upd_ne, upd_eq, ne_eq, Nat.reduceEqDiff, not_false_eq_true] at g15); (try simp only [zwr_rne, zwr_req, upd_ne, upd_eq, ne_eq, Nat.reduceEqDiff, not_false_eq_true] at g15'); omega
                    · try simp only [zwr_rne, zwr_req, upd_ne, upd_eq, ne_eq, Nat.reduceEqDiff, not_false_eq_true] at g15
                      try omega
                      all_goals
                       try simp only [one_ne, zero_eq, if_false, if_true, or_true, true_or, or_false, false_or]
                       try simp only [zwr_rne, zwr_req, upd_ne, upd_eq, ne_eq, Nat.reduceEqDiff, not_false_eq_true]
                       exact ⟨by first | rfl | trivial, hh⟩
                 · exfalso; (try simp only [zwr_rne, zwr_req, upd_ne, upd_eq, ne_eq, Nat.reduceEqDiff, not_false_eq_true] at g14); omega
              · try simp only [zwr_rne, zwr_req, upd_ne, upd_eq, ne_eq, Nat.reduceEqDiff, not_false_eq_true] at g13
                try omega
                all_goals
                 try simp only [one_ne, zero_eq, if_false, if_true, or_true, true_or, or_false, false_or]
                 try simp only [zwr_rne, zwr_req, upd_ne, upd_eq, ne_eq, Nat.reduceEqDiff, not_false_eq_true]
                 exact ⟨by first | rfl | trivial, hh⟩
        · try simp only [zwr_rne, zwr_req, upd_ne, upd_eq, ne_eq, Nat.reduceEqDiff, not_false_eq_true] at g8
          try omega
          all_goals
           refine en_X12_rule ?_
           try simp only [zwr_rne, zwr_req, upd_ne, upd_eq, ne_eq, Nat.reduceEqDiff, not_false_eq_true]
           refine m_isIn (fun g16 g16' => ?_) (fun g16 => ?_)
           · try simp only [zwr_rne, zwr_req, upd_ne, upd_eq, ne_eq, Nat.reduceEqDiff, not_false_eq_true] at g16
             try simp only [zwr_rne, zwr_req, upd_ne, upd_eq, ne_eq, Nat.reduceEqDiff, not_false_eq_true] at g16'
             try omega
             all_goals
              try simp only [one_ne, zero_eq, if_false, if_true, or_true, true_or, or_false, false_or]
              try simp only [zwr_rne, zwr_req, upd_ne, upd_eq, ne_eq, Nat.reduceEqDiff, not_false_eq_true]
              refine zeq (fun g17 => ?_) (fun g17 => ?_)
              · try simp only [zwr_rne, zwr_req, upd_ne, upd_eq, ne_eq, Nat.reduceEqDiff, not_false_eq_true] at g17
                try omega
                all_goals
                 try simp only [zwr_rne, zwr_req, upd_ne, upd_eq, ne_eq, Nat.reduceEqDiff, not_false_eq_true]
                 refine m_isIn (fun g18 g18' => ?_) (fun g18 => ?_)
                 · exfalso; (try simp only [zwr_rne, zwr_req, upd_ne, upd_eq, ne_eq, Nat.reduceEqDiff, not_false_eq_true] at g18); (try simp only [zwr_rne, zwr_req, upd_ne, upd_eq, ne_eq, Nat.reduceEqDiff, not_false_eq_true] at g18'); omega
                 · try simp only [zwr_rne, zwr_req, upd_ne, upd_eq, ne_eq, Nat.reduceEqDiff, not_false_eq_true] at g18
                   try omega
                   all_goals
                    try simp only [one_ne, zero_eq, if_false, if_true, or_true, true_or, or_false, false_or]
                    try simp only [zwr_rne, zwr_req, upd_ne, upd_eq, ne_eq, Nat.reduceEqDiff, not_false_eq_true]
                    exact ⟨by first | rfl | trivial, hh⟩
              · exfalso; (try simp only [zwr_rne, zwr_req, upd_ne, upd_eq, ne_eq, Nat.reduceEqDiff, not_false_eq_true] at g17); omega
           · try simp only [zwr_rne, zwr_req, upd_ne, upd_eq, ne_eq, Nat.reduceEqDiff, not_false_eq_true] at g16
             try omega
             all_goals
              try simp only [one_ne, zero_eq, if_false, if_true, or_true, true_or, or_false, false_or]
              try simp only [zwr_rne, zwr_req, upd_ne, upd_eq, ne_eq, Nat.reduceEqDiff, not_false_eq_true]
              exact ⟨by first | rfl | trivial, hh⟩
  · try simp only [zwr_rne, zwr_req, upd_ne, upd_eq, ne_eq, Nat.reduceEqDiff, not_false_eq_true] at g1
    try omega
    all_goals
     refine zeq (fun g19 => ?_) (fun g19 => ?_)
     · try simp only [zwr_rne, zwr_req, upd_ne, upd_eq, ne_eq, Nat.reduceEqDiff, not_false_eq_true] at g19
       try omega
       all_goals
        refine c_isWithin (fun g20 g20' => ?_) (fun g20 => ?_)
        · try simp only [zwr_rne, zwr_req, upd_ne, upd_eq, ne_eq, Nat.reduceEqDiff, not_false_eq_true] at g20
          try simp only [zwr_rne, zwr_req, upd_ne, upd_eq, ne_eq, Nat.reduceEqDiff, not_false_eq_true] at g20'
          try omega
          all_goals
           try simp only [one_ne, zero_eq, if_false, if_true, or_true, true_or, or_false, false_or]
           rintro _ rfl
           try simp only [zwr_rne, zwr_req, upd_ne, upd_eq, ne_eq, Nat.reduceEqDiff, not_false_eq_true]
           refine en_X12_rule ?_
           try simp only [zwr_rne, zwr_req, upd_ne, upd_eq, ne_eq, Nat.reduceEqDiff, not_false_eq_true]
           refine m_isIn (fun g21 g21' => ?_) (fun g21 => ?_)
           · try simp only [zwr_rne, zwr_req, upd_ne, upd_eq, ne_eq, Nat.reduceEqDiff, not_false_eq_true] at g21
             try simp only [zwr_rne, zwr_req, upd_ne, upd_eq, ne_eq, Nat.reduceEqDiff, not_false_eq_true] at g21'
             try omega
             all_goals
              try simp only [one_ne, zero_eq, if_false, if_true, or_true, true_or, or_false, false_or]
              try simp only [zwr_rne, zwr_req, upd_ne, upd_eq, ne_eq, Nat.reduceEqDiff, not_false_eq_true]
              refine zeq (fun g22 => ?_) (fun g22 => ?_)
              · exfalso; (try simp only [zwr_rne, zwr_req, upd_ne, upd_eq, ne_eq, Nat.reduceEqDiff, not_false_eq_true] at g22); omega
              · try simp only [zwr_rne, zwr_req, upd_ne, upd_eq, ne_eq, Nat.reduceEqDiff, not_false_eq_true] at g22
                try omega
                all_goals
                 try simp only [zwr_rne, zwr_req, upd_ne, upd_eq, ne_eq, Nat.reduceEqDiff, not_false_eq_true]
                 refine m_isIn (fun g23 g23' => ?_) (fun g23 => ?_)
                 · try simp only [zwr_rne, zwr_req, upd_ne, upd_eq, ne_eq, Nat.reduceEqDiff, not_false_eq_true] at g23
                   try simp only [zwr_rne, zwr_req, upd_ne, upd_eq, ne_eq, Nat.reduceEqDiff, not_false_eq_true] at g23'
                   try omega
                   all_goals
                    try simp only [one_ne, zero_eq, if_false, if_true, or_true, true_or, or_false, false_or]
                    try simp only [zwr_rne, zwr_req, upd_ne, upd_eq, ne_eq, Nat.reduceEqDiff, not_false_eq_true]
                    refine zeq (fun g24 => ?_) (fun g24 => ?_)
                    · exfalso; (try simp only [zwr_rne, zwr_req, upd_ne, upd_eq, ne_eq, Nat.reduceEqDiff, not_false_eq_true] at g24); omega
                    · try simp only [zwr_rne, zwr_req, upd_ne, upd_eq, ne_eq, Nat.reduceEqDiff, not_false_eq_true] at g24
                      try omega
                      all_goals
                       try simp only [zwr_rne, zwr_req, upd_ne, upd_eq, ne_eq, Nat.reduceEqDiff, not_false_eq_true]
                       refine zeq (fun g25 => ?_) (fun g25 => ?_)
                       · exfalso; (try simp only [zwr_rne, zwr_req, upd_ne, upd_eq, ne_eq, Nat.reduceEqDiff, not_false_eq_true] at g25); omega
                       · try simp only [zwr_rne, zwr_req, upd_ne, upd_eq, ne_eq, Nat.reduceEqDiff, not_false_eq_true] at g25
                         try omega
                         all_goals
                          try simp only [zwr_rne, zwr_req, upd_ne, upd_eq, ne_eq, Nat.reduceEqDiff, not_false_eq_true]
                          rintro _ rfl
                          try simp only [zwr_rne, zwr_req, upd_ne, upd_eq, ne_eq, Nat.reduceEqDiff, not_false_eq_true]
                          first
                            | (refine ⟨e6, ?_⟩; unfold Rall; simp only [zwr_rne, zwr_req, upd_ne, upd_eq, ne_eq, Nat.reduceEqDiff, not_false_eq_true]; exact ⟨⟨k1, k2, k3, k4, k5, ⟨rfl, by omega, by omega⟩, k7, k8, k9⟩, kas, kcl, kda, kdh, kpl, kkp, ksh, kwt, ktp, klw, ksd, Rwx_stale, Rwx_stale⟩)
                            | (refine ⟨e7, ?_⟩; unfold Rall; simp only [zwr_rne, zwr_req, upd_ne, upd_eq, ne_eq, Nat.reduceEqDiff, not_false_eq_true]; exact ⟨⟨k1, k2, k3, k4, k5, k6, ⟨rfl, by omega, by omega⟩, k8, k9⟩, kas, kcl, kda, kdh, kpl, kkp, ksh, kwt, ktp, klw, ksd, kw0, kw1⟩)
                 · exfalso; (try simp only [zwr_rne, zwr_req, upd_ne, upd_eq, ne_eq, Nat.reduceEqDiff, not_false_eq_true] at g23); omega
           · try simp only [zwr_rne, zwr_req, upd_ne, upd_eq, ne_eq, Nat.reduceEqDiff, not_false_eq_true] at g21
             try omega
             all_goals
              try simp only [one_ne, zero_eq, if_false, if_true, or_true, true_or, or_false, false_or]
              try simp only [zwr_rne, zwr_req, upd_ne, upd_eq, ne_eq, Nat.reduceEqDiff, not_false_eq_true]
              exact ⟨by first | rfl | trivial, hh⟩
        · try simp only [zwr_rne, zwr_req, upd_ne, upd_eq, ne_eq, Nat.reduceEqDiff, not_false_eq_true] at g20
          try omega
          all_goals
           try simp only [one_ne, zero_eq, if_false, if_true, or_true, true_or, or_false, false_or]
           refine en_X12_rule ?_
           try simp only [zwr_rne, zwr_req, upd_ne, upd_eq, ne_eq, Nat.reduceEqDiff, not_false_eq_true]
           refine m_isIn (fun g26 g26' => ?_) (fun g26 => ?_)
           · try simp only [zwr_rne, zwr_req, upd_ne, upd_eq, ne_eq, Nat.reduceEqDiff, not_false_eq_true] at g26
             try simp only [zwr_rne, zwr_req, upd_ne, upd_eq, ne_eq, Nat.reduceEqDiff, not_false_eq_true] at g26'
             try omega
             all_goals
              try simp only [one_ne, zero_eq, if_false, if_true, or_true, true_or, or_false, false_or]
              try simp only [zwr_rne, zwr_req, upd_ne, upd_eq, ne_eq, Nat.reduceEqDiff, not_false_eq_true]
              refine zeq (fun g27 => ?_) (fun g27 => ?_)
              · exfalso; (try simp only [zwr_rne, zwr_req, upd_ne, upd_eq, ne_eq, Nat.reduceEqDiff, not_false_eq_true] at g27); omega
              · try simp only [zwr_rne, zwr_req, upd_ne, upd_eq, ne_eq, Nat.reduceEqDiff, not_false_eq_true] at g27
                try omega
                all_goals
                 try simp only [zwr_rne, zwr_req, upd_ne, upd_eq, ne_eq, Nat.reduceEqDiff, not_false_eq_true]
                 refine m_isIn (fun g28 g28' => ?_) (fun g28 => ?_)
                 · exfalso; (try simp only [zwr_rne, zwr_req, upd_ne, upd_eq, ne_eq, Nat.reduceEqDiff, not_false_eq_true] at g28); (try simp only [zwr_rne, zwr_req, upd_ne, upd_eq, ne_eq, Nat.reduceEqDiff, not_false_eq_true] at g28'); omega
                 · try simp only [zwr_rne, zwr_req, upd_ne, upd_eq, ne_eq, Nat.reduceEqDiff, not_false_eq_true] at g28
                   try omega
                   all_goals
                    try simp only [one_ne, zero_eq, if_false, if_true, or_true, true_or, or_false, false_or]
                    try simp only [zwr_rne, zwr_req, upd_ne, upd_eq, ne_eq, Nat.reduceEqDiff, not_false_eq_true]
                    exact ⟨by first | rfl | trivial, hh⟩
           · try simp only [zwr_rne, zwr_req, upd_ne, upd_eq, ne_eq, Nat.reduceEqDiff, not_false_eq_true] at g26
             try omega
             all_goals
              try simp only [one_ne, zero_eq, if_false, if_true, or_true, true_or, or_false, false_or]
              try simp only [zwr_rne, zwr_req, upd_ne, upd_eq, ne_eq, Nat.reduceEqDiff, not_false_eq_true]
              exact ⟨by first | rfl | trivial, hh⟩
     · try simp only [zwr_rne, zwr_req, upd_ne, upd_eq, ne_eq, Nat.reduceEqDiff, not_false_eq_true] at g19
       try omega
       all_goals
        refine en_X12_rule ?_
        try simp only [zwr_rne, zwr_req, upd_ne, upd_eq, ne_eq, Nat.reduceEqDiff, not_false_eq_true]
        refine m_isIn (fun g29 g29' => ?_) (fun g29 => ?_)
        · try simp only [zwr_rne, zwr_req, upd_ne, upd_eq, ne_eq, Nat.reduceEqDiff, not_false_eq_true] at g29
          try simp only [zwr_rne, zwr_req, upd_ne, upd_eq, ne_eq, Nat.reduceEqDiff, not_false_eq_true] at g29'
          try omega
          all_goals
           try simp only [one_ne, zero_eq, if_false, if_true, or_true, true_or, or_false, false_or]
           try simp only [zwr_rne, zwr_req, upd_ne, upd_eq, ne_eq, Nat.reduceEqDiff, not_false_eq_true]
           refine zeq (fun g30 => ?_) (fun g30 => ?_)
           · exfalso; (try simp only [zwr_rne, zwr_req, upd_ne, upd_eq, ne_eq, Nat.reduceEqDiff, not_false_eq_true] at g30); omega
           · try simp only [zwr_rne, zwr_req, upd_ne, upd_eq, ne_eq, Nat.reduceEqDiff, not_false_eq_true] at g30
             try omega
             all_goals
              try simp only [zwr_rne, zwr_req, upd_ne, upd_eq, ne_eq, Nat.reduceEqDiff, not_false_eq_true]
              refine m_isIn (fun g31 g31' => ?_) (fun g31 => ?_)
              · try simp only [zwr_rne, zwr_req, upd_ne, upd_eq, ne_eq, Nat.reduceEqDiff, not_false_eq_true] at g31
                try simp only [zwr_rne, zwr_req, upd_ne, upd_eq, ne_eq, Nat.reduceEqDiff, not_false_eq_true] at g31'
                try omega
                all_goals
                 try simp only [one_ne, zero_eq, if_false, if_true, or_true, true_or, or_false, false_or]
                 try simp only [zwr_rne, zwr_req, upd_ne, upd_eq, ne_eq, Nat.reduceEqDiff, not_false_eq_true]
                 refine zeq (fun g32 => ?_) (fun g32 => ?_)
                 · exfalso; (try simp only [zwr_rne, zwr_req, upd_ne, upd_eq, ne_eq, Nat.reduceEqDiff, not_false_eq_true] at g32); omega
                 · try simp only [zwr_rne, zwr_req, upd_ne, upd_eq, ne_eq, Nat.reduceEqDiff, not_false_eq_true] at g32
                   try omega
                   all_goals
                    try simp only [zwr_rne, zwr_req, upd_ne, upd_eq, ne_eq, Nat.reduceEqDiff, not_false_eq_true]
                    refine zeq (fun g33 => ?_) (fun g33 => ?_)
                    · exfalso; (try simp only [zwr_rne, zwr_req, upd_ne, upd_eq, ne_eq, Nat.reduceEqDiff, not_false_eq_true] at g33); omega
                    · try simp only [zwr_rne, zwr_req, upd_ne, upd_eq, ne_eq, Nat.reduceEqDiff, not_false_eq_true] at g33
                      try omega
                      all_goals
                       try simp only [zwr_rne, zwr_req, upd_ne, upd_eq, ne_eq, Nat.reduceEqDiff, not_false_eq_true]
                       rintro _ rfl
                       try simp only [zwr_rne, zwr_req, upd_ne, upd_eq, ne_eq, Nat.reduceEqDiff, not_false_eq_true]
                       first
                         | (refine ⟨e6, ?_⟩; unfold Rall; simp only [zwr_rne, zwr_req, upd_ne, upd_eq, ne_eq, Nat.reduceEqDiff, not_false_eq_true]; exact ⟨⟨k1, k2, k3, k4, k5, ⟨rfl, by omega, by omega⟩, k7, k8, k9⟩, kas, kcl, kda, kdh, kpl, kkp, ksh, kwt, ktp, klw, ksd, Rwx_stale, Rwx_stale⟩)
                         | (refine ⟨e7, ?_⟩; unfold Rall; simp only [zwr_rne, zwr_req, upd_ne, upd_eq, ne_eq, Nat.reduceEqDiff, not_false_eq_true]; exact ⟨⟨k1, k2, k3, k4, k5, k6, ⟨rfl, by omega, by omega⟩, k8, k9⟩, kas, kcl, kda, kdh, kpl, kkp, ksh, kwt, ktp, klw, ksd, kw0, kw1⟩)
              · try simp only [zwr_rne, zwr_req, upd_ne, upd_eq, ne_eq, Nat.reduceEqDiff, not_false_eq_true] at g31
                try omega
                all_goals
                 try simp only [one_ne, zero_eq, if_false, if_true, or_true, true_or, or_false, false_or]
                 try simp only [zwr_rne, zwr_req, upd_ne, upd_eq, ne_eq, Nat.reduceEqDiff, not_false_eq_true]
                 exact ⟨by first | rfl | trivial, hh⟩
        · try simp only [zwr_rne, zwr_req, upd_ne, upd_eq, ne_eq, Nat.reduceEqDiff, not_false_eq_true] at g29
          try omega
          all_goals
           try simp only [one_ne, zero_eq, if_false, if_true, or_true, true_or, or_false, false_or]
           try simp only [zwr_rne, zwr_req, upd_ne, upd_eq, ne_eq, Nat.reduceEqDiff, not_false_eq_true]
           exact ⟨by first | rfl | trivial, hh⟩

theorem P_trim {G : zGT} {d : Nat} {v1 : Int32} : Pair G (d + 6) Y_X11_trim Y_X12_trim [.inl v1] := by
  intro σ h
  have hh := h
  obtain ⟨⟨k1, k2, k3, k4, k5, k6, k7, k8, k9⟩, kas, kcl, kda, kdh, kpl, kkp, ksh, kwt, ktp, klw, ksd, kw0, kw1⟩ := h
  obtain ⟨e1, b1, u1⟩ := id k1
  obtain ⟨e2, b2, u2⟩ := id k2
  obtain ⟨e3, b3, u3⟩ := id k3
  obtain ⟨e4, b4, u4⟩ := id k4
  obtain ⟨e5, b5, u5⟩ := id k5
  obtain ⟨e6, b6, u6⟩ := id k6
  obtain ⟨e7, b7, u7⟩ := id k7
  obtain ⟨e8, b8, u8⟩ := id k8
  obtain ⟨e9, b9, u9⟩ := id k9
  have f1 : (σ 0 15).toInt = (σ 72 1).toInt := by rw [e1]
  have f2 : (σ 14 5).toInt = (σ 72 2).toInt := by rw [e2]
  have f3 : (σ 1 6).toInt = (σ 72 8).toInt := by rw [e3]
  have f4 : (σ 0 16).toInt = (σ 72 0).toInt := by rw [e4]
  have f5 : (σ 55 7).toInt = (σ 72 22).toInt := by rw [e5]
  have f6 : (σ 14 6).toInt = (σ 72 23).toInt := by rw [e6]
  have f7 : (σ 0 17).toInt = (σ 72 24).toInt := by rw [e7]
  have f8 : (σ 0 13).toInt = (σ 72 25).toInt := by rw [e8]
  have f9 : (σ 46 1).toInt = (σ 72 28).toInt := by rw [e9]
  have l0 := ti0
  have l1 := ti1
  have l2 := ti2
  have l3 := ti3
  have l4 := ti4
  have l5 := ti5
  have l6 := ti6
  have l8 := ti8
  have l9 := ti9
  have l10 := ti10
  have l16 := ti16
  have l20 := ti20
  have l24 := ti24
  have l31 := ti31
  have l60 := ti60
  have l96 := ti96
  have l100 := ti100
  have l200 := ti200
  have l400 := ti400
  have l600 := ti600
  have l1200 := ti1200
  have l100000 := ti100000
  have lm1 := tim1
  have lB := tiB
  have lN := tiN
  refine en_X11_trim ?_
  try simp only [zwr_rne, zwr_req, upd_ne, upd_eq, ne_eq, Nat.reduceEqDiff, not_false_eq_true, e9]
  refine c_isWithin (fun g1 g1' => ?_) (fun g1 => ?_)
  · try simp only [zwr_rne, zwr_req, upd_ne, upd_eq, ne_eq, Nat.reduceEqDiff, not_false_eq_true, e9] at g1
    try simp only [zwr_rne, zwr_req, upd_ne, upd_eq, ne_eq, Nat.reduceEqDiff, not_false_eq_true, e9] at g1'
    try omega
    all_goals
     try simp only [one_ne, zero_eq, if_false, if_true, or_true, true_or, or_false, false_or]
     rintro _ rfl
     try simp only [zwr_rne, zwr_req, upd_ne, upd_eq, ne_eq, Nat.reduceEqDiff, not_false_eq_true, e9]
     refine en_X12_trim ?_
     try simp only [zwr_rne, zwr_req, upd_ne, upd_eq, ne_eq, Nat.reduceEqDiff, not_false_eq_true, e9]
     refine m_isIn (fun g2 g2' => ?_) (fun g2 => ?_)
     · try simp only [zwr_rne, zwr_req, upd_ne, upd_eq, ne_eq, Nat.reduceEqDiff, not_false_eq_true, e9] at g2
       try simp only [zwr_rne, zwr_req, upd_ne, upd_eq, ne_eq, Nat.reduceEqDiff, not_false_eq_true, e9] at g2'
       try omega
       all_goals
        try simp only [one_ne, zero_eq, if_false, if_true, or_true, true_or, or_false, false_or]
        try simp only [zwr_rne, zwr_req, upd_ne, upd_eq, ne_eq, Nat.reduceEqDiff, not_false_eq_true, e9]
        rintro _ rfl
        try simp only [zwr_rne, zwr_req, upd_ne, upd_eq, ne_eq, Nat.reduceEqDiff, not_false_eq_true, e9]
        refine ⟨by first | rfl | trivial | assumption, ?_⟩
        unfold Rall
        simp only [zwr_rne, zwr_req, upd_ne, upd_eq, ne_eq, Nat.reduceEqDiff, not_false_eq_true]
        exact ⟨⟨k1, k2, k3, k4, k5, k6, k7, k8, ⟨rfl, by omega, by omega⟩⟩, kas, kcl, kda, kdh, kpl, kkp, ksh, kwt, ktp.less (by omega), klw, ksd, kw0, kw1⟩
     · exfalso; (try simp only [zwr_rne, zwr_req, upd_ne, upd_eq, ne_eq, Nat.reduceEqDiff, not_false_eq_true, e9] at g2); omega
  · try simp only [zwr_rne, zwr_req, upd_ne, upd_eq, ne_eq, Nat.reduceEqDiff, not_false_eq_true, e9] at g1
    try omega
    all_goals
     try simp only [one_ne, zero_eq, if_false, if_true, or_true, true_or, or_false, false_or]
     refine en_X12_trim ?_
     try simp only [zwr_rne, zwr_req, upd_ne, upd_eq, ne_eq, Nat.reduceEqDiff, not_false_eq_true, e9]
     refine m_isIn (fun g3 g3' => ?_) (fun g3 => ?_)
     · exfalso; (try simp only [zwr_rne, zwr_req, upd_ne, upd_eq, ne_eq, Nat.reduceEqDiff, not_false_eq_true, e9] at g3); (try simp only [zwr_rne, zwr_req, upd_ne, upd_eq, ne_eq, Nat.reduceEqDiff, not_false_eq_true, e9] at g3'); omega
     · try simp only [zwr_rne, zwr_req, upd_ne, upd_eq, ne_eq, Nat.reduceEqDiff, not_false_eq_true, e9] at g3
       try omega
       all_goals
        try simp only [one_ne, zero_eq, if_false, if_true, or_true, true_or, or_false, false_or]
        try simp only [zwr_rne, zwr_req, upd_ne, upd_eq, ne_eq, Nat.reduceEqDiff, not_false_eq_true, e9]
        exact ⟨by first | rfl | trivial, hh⟩

theorem P_guard {G : zGT} {d : Nat} {v1 v2 v3 : Int32} : Pair G (d + 6) Y_X11_guard Y_X12_guard [.inl v1, .inl v2, .inl v3] := by
  intro σ h
  have hh := h
  obtain ⟨⟨k1, k2, k3, k4, k5, k6, k7, k8, k9⟩, kas, kcl, kda, kdh, kpl, kkp, ksh, kwt, ktp, klw, ksd, kw0, kw1⟩ := h
  obtain ⟨e1, b1, u1⟩ := id k1
  obtain ⟨e2, b2, u2⟩ := id k2
  obtain ⟨e3, b3, u3⟩ := id k3
  obtain ⟨e4, b4, u4⟩ := id k4
  obtain ⟨e5, b5, u5⟩ := id k5
  obtain ⟨e6, b6, u6⟩ := id k6
  obtain ⟨e7, b7, u7⟩ := id k7
  obtain ⟨e8, b8, u8⟩ := id k8
  obtain ⟨e9, b9, u9⟩ := id k9
  have f1 : (σ 0 15).toInt = (σ 72 1).toInt := by rw [e1]
  have f2 : (σ 14 5).toInt = (σ 72 2).toInt := by rw [e2]
  have f3 : (σ 1 6).toInt = (σ 72 8).toInt := by rw [e3]
  have f4 : (σ 0 16).toInt = (σ 72 0).toInt := by rw [e4]
  have f5 : (σ 55 7).toInt = (σ 72 22).toInt := by rw [e5]
  have f6 : (σ 14 6).toInt = (σ 72 23).toInt := by rw [e6]
  have f7 : (σ 0 17).toInt = (σ 72 24).toInt := by rw [e7]
  have f8 : (σ 0 13).toInt = (σ 72 25).toInt := by rw [e8]
  have f9 : (σ 46 1).toInt = (σ 72 28).toInt := by rw [e9]
  have l0 := ti0
  have l1 := ti1
  have l2 := ti2
  have l3 := ti3
  have l4 := ti4
  have l5 := ti5
  have l6 := ti6
  have l8 := ti8
  have l9 := ti9
  have l10 := ti10
  have l16 := ti16
  have l20 := ti20
  have l24 := ti24
  have l31 := ti31
  have l60 := ti60
  have l96 := ti96
  have l100 := ti100
  have l200 := ti200
  have l400 := ti400
  have l600 := ti600
  have l1200 := ti1200
  have l100000 := ti100000
  have lm1 := tim1
  have lB := tiB
  have lN := tiN
  rcases idx_of v1 (σ 72 8) with hb | ⟨c, rfl, hc, hc2⟩
  · refine en_X11_guard ?_
    try simp only [zwr_rne, zwr_req, upd_ne, upd_eq, ne_eq, Nat.reduceEqDiff, not_false_eq_true]
    refine c_hasC (fun g1 g1' => ?_) (fun g1 => ?_)
    · try simp only [zwr_rne, zwr_req, upd_ne, upd_eq, ne_eq, Nat.reduceEqDiff, not_false_eq_true] at g1
      try simp only [zwr_rne, zwr_req, upd_ne, upd_eq, ne_eq, Nat.reduceEqDiff, not_false_eq_true] at g1'
      try omega
      all_goals
       try simp only [one_ne, zero_eq, if_false, if_true, or_true, true_or, or_false, false_or]
       refine c_isFirm (fun g2 g2' => ?_) (fun g2 => ?_)
       · try simp only [zwr_rne, zwr_req, upd_ne, upd_eq, ne_eq, Nat.reduceEqDiff, not_false_eq_true] at g2
         try simp only [zwr_rne, zwr_req, upd_ne, upd_eq, ne_eq, Nat.reduceEqDiff, not_false_eq_true] at g2'
         try omega
         all_goals
          try simp only [one_ne, zero_eq, if_false, if_true, or_true, true_or, or_false, false_or]
          refine c_isWithin (fun g3 g3' => ?_) (fun g3 => ?_)
          · try simp only [zwr_rne, zwr_req, upd_ne, upd_eq, ne_eq, Nat.reduceEqDiff, not_false_eq_true] at g3
            try simp only [zwr_rne, zwr_req, upd_ne, upd_eq, ne_eq, Nat.reduceEqDiff, not_false_eq_true] at g3'
            try omega
            all_goals
             try simp only [one_ne, zero_eq, if_false, if_true, or_true, true_or, or_false, false_or]
             refine ⟨by first | assumption | exact vin (by omega) | exact vp_in_I.mpr (by omega), ?_⟩
             refine zeq (fun g4 => ?_) (fun g4 => ?_)
             · try simp only [zwr_rne, zwr_req, upd_ne, upd_eq, ne_eq, Nat.reduceEqDiff, not_false_eq_true] at g4
               try omega
               all_goals
                refine en_X12_guard ?_
                try simp only [zwr_rne, zwr_req, upd_ne, upd_eq, ne_eq, Nat.reduceEqDiff, not_false_eq_true]
                refine m_isClaim (by first | omega | (simp only [zwr_rne, zwr_req, upd_ne, upd_eq, ne_eq, Nat.reduceEqDiff, not_false_eq_true]; omega)) (fun g5 g5' => ?_) (fun g5 => ?_)
                · try simp only [zwr_rne, zwr_req, upd_ne, upd_eq, ne_eq, Nat.reduceEqDiff, not_false_eq_true] at g5
                  try simp only [zwr_rne, zwr_req, upd_ne, upd_eq, ne_eq, Nat.reduceEqDiff, not_false_eq_true] at g5'
                  try omega
                  all_goals
                   try simp only [one_ne, zero_eq, if_false, if_true, or_true, true_or, or_false, false_or]
                   try simp only [zwr_rne, zwr_req, upd_ne, upd_eq, ne_eq, Nat.reduceEqDiff, not_false_eq_true]
                   refine m_isFirm (by first | omega | (simp only [zwr_rne, zwr_req, upd_ne, upd_eq, ne_eq, Nat.reduceEqDiff, not_false_eq_true]; omega)) (fun g6 g6' => ?_) (fun g6 => ?_)
                   · try simp only [zwr_rne, zwr_req, upd_ne, upd_eq, ne_eq, Nat.reduceEqDiff, not_false_eq_true] at g6
                     try simp only [zwr_rne, zwr_req, upd_ne, upd_eq, ne_eq, Nat.reduceEqDiff, not_false_eq_true] at g6'
                     try omega
                     all_goals
                      try simp only [one_ne, zero_eq, if_false, if_true, or_true, true_or, or_false, false_or]
                      try simp only [zwr_rne, zwr_req, upd_ne, upd_eq, ne_eq, Nat.reduceEqDiff, not_false_eq_true]
                      refine m_isIn (fun g7 g7' => ?_) (fun g7 => ?_)
                      · try simp only [zwr_rne, zwr_req, upd_ne, upd_eq, ne_eq, Nat.reduceEqDiff, not_false_eq_true] at g7
                        try simp only [zwr_rne, zwr_req, upd_ne, upd_eq, ne_eq, Nat.reduceEqDiff, not_false_eq_true] at g7'
                        try omega
                        all_goals
                         try simp only [one_ne, zero_eq, if_false, if_true, or_true, true_or, or_false, false_or]
                         try simp only [zwr_rne, zwr_req, upd_ne, upd_eq, ne_eq, Nat.reduceEqDiff, not_false_eq_true]
                         refine ⟨by first | assumption | exact vin (by omega) | exact vp_in_I.mpr (by omega), ?_⟩
                         refine zeq (fun g8 => ?_) (fun g8 => ?_)
                         · try simp only [zwr_rne, zwr_req, upd_ne, upd_eq, ne_eq, Nat.reduceEqDiff, not_false_eq_true] at g8
                           try omega
                           all_goals
                            try simp only [zwr_rne, zwr_req, upd_ne, upd_eq, ne_eq, Nat.reduceEqDiff, not_false_eq_true]
                            exact ⟨by first | rfl | trivial, hh⟩
                         · exfalso; (try simp only [zwr_rne, zwr_req, upd_ne, upd_eq, ne_eq, Nat.reduceEqDiff, not_false_eq_true] at g8); omega
                      · exfalso; (try simp only [zwr_rne, zwr_req, upd_ne, upd_eq, ne_eq, Nat.reduceEqDiff, not_false_eq_true] at g7); omega
                   · exfalso; (try simp only [zwr_rne, zwr_req, upd_ne, upd_eq, ne_eq, Nat.reduceEqDiff, not_false_eq_true] at g6); omega
                · exfalso; (try simp only [zwr_rne, zwr_req, upd_ne, upd_eq, ne_eq, Nat.reduceEqDiff, not_false_eq_true] at g5); omega
             · try simp only [zwr_rne, zwr_req, upd_ne, upd_eq, ne_eq, Nat.reduceEqDiff, not_false_eq_true] at g4
               try omega
               all_goals
                exfalso; omega
                try simp only [zwr_rne, zwr_req, upd_ne, upd_eq, ne_eq, Nat.reduceEqDiff, not_false_eq_true]
                refine zeq (fun g9 => ?_) (fun g9 => ?_)
                · try simp only [zwr_rne, zwr_req, upd_ne, upd_eq, ne_eq, Nat.reduceEqDiff, not_false_eq_true] at g9
                  try omega
                  all_goals
                   refine en_X12_guard ?_
                   try simp only [zwr_rne, zwr_req, upd_ne, upd_eq, ne_eq, Nat.reduceEqDiff, not_false_eq_true]
                   refine m_isClaim (by first | omega | (simp only [zwr_rne, zwr_req, upd_ne, upd_eq, ne_eq, Nat.reduceEqDiff, not_false_eq_true]; omega)) (fun g10 g10' => ?_) (fun g10 => ?_)
                   · try simp only [zwr_rne, zwr_req, upd_ne, upd_eq, ne_eq, Nat.reduceEqDiff, not_false_eq_true] at g10
                     try simp only [zwr_rne, zwr_req, upd_ne, upd_eq, ne_eq, Nat.reduceEqDiff, not_false_eq_true] at g10'
                     try omega
                     all_goals
                      try simp only [one_ne, zero_eq, if_false, if_true, or_true, true_or, or_false, false_or]
                      try simp only [zwr_rne, zwr_req, upd_ne, upd_eq, ne_eq, Nat.reduceEqDiff, not_false_eq_true]
                      refine m_isFirm (by first | omega | (simp only [zwr_rne, zwr_req, upd_ne, upd_eq, ne_eq, Nat.reduceEqDiff, not_false_eq_true]; omega)) (fun g11 g11' => ?_) (fun g11 => ?_)
                      · try simp only [zwr_rne, zwr_req, upd_ne, upd_eq, ne_eq, Nat.reduceEqDiff, not_false_eq_true] at g11
                        try simp only [zwr_rne, zwr_req, upd_ne, upd_eq, ne_eq, Nat.reduceEqDiff, not_false_eq_true] at g11'
                        try omega
                        all_goals
                         try simp only [one_ne, zero_eq, if_false, if_true, or_true, true_or, or_false, false_or]
                         try simp only [zwr_rne, zwr_req, upd_ne, upd_eq, ne_eq, Nat.reduceEqDiff, not_false_eq_true]
                         refine m_isIn (fun g12 g12' => ?_) (fun g12 => ?_)
                         · try simp only [zwr_rne, zwr_req, upd_ne, upd_eq, ne_eq, Nat.reduceEqDiff, not_false_eq_true] at g12
                           try simp only [zwr_rne, zwr_req, upd_ne, upd_eq, ne_eq, Nat.reduceEqDiff, not_false_eq_true] at g12'
                           try omega
                           all_goals
                            try simp only [one_ne, zero_eq, if_false, if_true, or_true, true_or, or_false, false_or]
                            try simp only [zwr_rne, zwr_req, upd_ne, upd_eq, ne_eq, Nat.reduceEqDiff, not_false_eq_true]
                            refine ⟨by first | assumption | exact vin (by omega) | exact vp_in_I.mpr (by omega), ?_⟩
                            refine zeq (fun g13 => ?_) (fun g13 => ?_)
                            · exfalso; (try simp only [zwr_rne, zwr_req, upd_ne, upd_eq, ne_eq, Nat.reduceEqDiff, not_false_eq_true] at g13); omega
                            · try simp only [zwr_rne, zwr_req, upd_ne, upd_eq, ne_eq, Nat.reduceEqDiff, not_false_eq_true] at g13
                              try omega
                              all_goals
                               try simp only [zwr_rne, zwr_req, upd_ne, upd_eq, ne_eq, Nat.reduceEqDiff, not_false_eq_true]
                               exfalso; omega
                               try simp only [zwr_rne, zwr_req, upd_ne, upd_eq, ne_eq, Nat.reduceEqDiff, not_false_eq_true]
                               refine zeq (fun g14 => ?_) (fun g14 => ?_)
                               · try simp only [zwr_rne, zwr_req, upd_ne, upd_eq, ne_eq, Nat.reduceEqDiff, not_false_eq_true] at g14
                                 try omega
                                 all_goals
                                  try simp only [zwr_rne, zwr_req, upd_ne, upd_eq, ne_eq, Nat.reduceEqDiff, not_false_eq_true]
                                  exact ⟨by first | rfl | trivial, hh⟩
                               · exfalso; (try simp only [zwr_rne, zwr_req, upd_ne, upd_eq, ne_eq, Nat.reduceEqDiff, not_false_eq_true] at g14); omega
                         · exfalso; (try simp only [zwr_rne, zwr_req, upd_ne, upd_eq, ne_eq, Nat.reduceEqDiff, not_false_eq_true] at g12); omega
                      · exfalso; (try simp only [zwr_rne, zwr_req, upd_ne, upd_eq, ne_eq, Nat.reduceEqDiff, not_false_eq_true] at g11); omega
                   · exfalso; (try simp only [zwr_rne, zwr_req, upd_ne, upd_eq, ne_eq, Nat.reduceEqDiff, not_false_eq_true] at g10); omega
                · try simp only [zwr_rne, zwr_req, upd_ne, upd_eq, ne_eq, Nat.reduceEqDiff, not_false_eq_true] at g9
                  try omega
                  all_goals
                   refine ⟨by first | assumption | exact vin (by omega) | exact vp_in_I.mpr (by omega), ?_⟩
                   refine ⟨by first | assumption | exact vin (by omega) | exact vp_in_I.mpr (by omega), ?_⟩
                   refine ⟨by first | assumption | exact vin (by omega) | exact vp_in_I.mpr (by omega), ?_⟩
                   rintro _ rfl
                   try simp only [zwr_rne, zwr_req, upd_ne, upd_eq, ne_eq, Nat.reduceEqDiff, not_false_eq_true]
                   refine c_changed ?_
                   try simp only [zwr_rne, zwr_req, upd_ne, upd_eq, ne_eq, Nat.reduceEqDiff, not_false_eq_true]
                   refine en_X12_guard ?_
                   try simp only [zwr_rne, zwr_req, upd_ne, upd_eq, ne_eq, Nat.reduceEqDiff, not_false_eq_true]
                   refine m_isClaim (by first | omega | (simp only [zwr_rne, zwr_req, upd_ne, upd_eq, ne_eq, Nat.reduceEqDiff, not_false_eq_true]; omega)) (fun g15 g15' => ?_) (fun g15 => ?_)
                   · try simp only [zwr_rne, zwr_req, upd_ne, upd_eq, ne_eq, Nat.reduceEqDiff, not_false_eq_true] at g15
                     try simp only [zwr_rne, zwr_req, upd_ne, upd_eq, ne_eq, Nat.reduceEqDiff, not_false_eq_true] at g15'
                     try omega
                     all_goals
                      try simp only [one_ne, zero_eq, if_false, if_true, or_true, true_or, or_false, false_or]
                      try simp only [zwr_rne, zwr_req, upd_ne, upd_eq, ne_eq, Nat.reduceEqDiff, not_false_eq_true]
                      refine m_isFirm (by first | omega | (simp only [zwr_rne, zwr_req, upd_ne, upd_eq, ne_eq, Nat.reduceEqDiff, not_false_eq_true]; omega)) (fun g16 g16' => ?_) (fun g16 => ?_)
                      · try simp only [zwr_rne, zwr_req, upd_ne, upd_eq, ne_eq, Nat.reduceEqDiff, not_false_eq_true] at g16
                        try simp only [zwr_rne, zwr_req, upd_ne, upd_eq, ne_eq, Nat.reduceEqDiff, not_false_eq_true] at g16'
                        try omega
                        all_goals
                         try simp only [one_ne, zero_eq, if_false, if_true, or_true, true_or, or_false, false_or]
                         try simp only [zwr_rne, zwr_req, upd_ne, upd_eq, ne_eq, Nat.reduceEqDiff, not_false_eq_true]
                         refine m_isIn (fun g17 g17' => ?_) (fun g17 => ?_)
                         · try simp only [zwr_rne, zwr_req, upd_ne, upd_eq, ne_eq, Nat.reduceEqDiff, not_false_eq_true] at g17
                           try simp only [zwr_rne, zwr_req, upd_ne, upd_eq, ne_eq, Nat.reduceEqDiff, not_false_eq_true] at g17'
                           try omega
                           all_goals
                            try simp only [one_ne, zero_eq, if_false, if_true, or_true, true_or, or_false, false_or]
                            try simp only [zwr_rne, zwr_req, upd_ne, upd_eq, ne_eq, Nat.reduceEqDiff, not_false_eq_true]
                            refine ⟨by first | assumption | exact vin (by omega) | exact vp_in_I.mpr (by omega), ?_⟩
                            refine zeq (fun g18 => ?_) (fun g18 => ?_)
                            · exfalso; (try simp only [zwr_rne, zwr_req, upd_ne, upd_eq, ne_eq, Nat.reduceEqDiff, not_false_eq_true] at g18); omega
                            · try simp only [zwr_rne, zwr_req, upd_ne, upd_eq, ne_eq, Nat.reduceEqDiff, not_false_eq_true] at g18
                              try omega
                              all_goals
                               try simp only [zwr_rne, zwr_req, upd_ne, upd_eq, ne_eq, Nat.reduceEqDiff, not_false_eq_true]
                               exfalso; omega
                               try simp only [zwr_rne, zwr_req, upd_ne, upd_eq, ne_eq, Nat.reduceEqDiff, not_false_eq_true]
                               refine zeq (fun g19 => ?_) (fun g19 => ?_)
                               · exfalso; (try simp only [zwr_rne, zwr_req, upd_ne, upd_eq, ne_eq, Nat.reduceEqDiff, not_false_eq_true] at g19); omega
                               · try simp only [zwr_rne, zwr_req, upd_ne, upd_eq, ne_eq, Nat.reduceEqDiff, not_false_eq_true] at g19
                                 try omega
                                 all_goals
                                  try simp only [zwr_rne, zwr_req, upd_ne, upd_eq, ne_eq, Nat.reduceEqDiff, not_false_eq_true]
                                  refine ⟨by first | assumption | exact vin (by omega) | exact vp_in_I.mpr (by omega), ?_⟩
                                  refine zeq (fun g20 => ?_) (fun g20 => ?_)
                                  · try simp only [zwr_rne, zwr_req, upd_ne, upd_eq, ne_eq, Nat.reduceEqDiff, not_false_eq_true] at g20
                                    try omega
                                    all_goals
                                     try simp only [zwr_rne, zwr_req, upd_ne, upd_eq, ne_eq, Nat.reduceEqDiff, not_false_eq_true]
                                     refine ⟨by first | assumption | exact vin (by omega) | exact vp_in_I.mpr (by omega), ?_⟩
                                     refine ⟨by first | assumption | exact vin (by omega) | exact vp_in_I.mpr (by omega), ?_⟩
                                     rintro _ rfl
                                     try simp only [zwr_rne, zwr_req, upd_ne, upd_eq, ne_eq, Nat.reduceEqDiff, not_false_eq_true]
                                     exact ⟨by first | rfl | trivial, hh⟩
                                  · try simp only [zwr_rne, zwr_req, upd_ne, upd_eq, ne_eq, Nat.reduceEqDiff, not_false_eq_true] at g20
                                    try omega
                                    all_goals
                                     try simp only [zwr_rne, zwr_req, upd_ne, upd_eq, ne_eq, Nat.reduceEqDiff, not_false_eq_true]
                                     refine ⟨by first | assumption | exact vin (by omega) | exact vp_in_I.mpr (by omega), ?_⟩
                                     refine ⟨by first | assumption | exact vin (by omega) | exact vp_in_I.mpr (by omega), ?_⟩
                                     rintro _ rfl
                                     try simp only [zwr_rne, zwr_req, upd_ne, upd_eq, ne_eq, Nat.reduceEqDiff, not_false_eq_true]
                                     exact ⟨by first | rfl | trivial, hh⟩
                         · exfalso; (try simp only [zwr_rne, zwr_req, upd_ne, upd_eq, ne_eq, Nat.reduceEqDiff, not_false_eq_true] at g17); omega
                      · exfalso; (try simp only [zwr_rne, zwr_req, upd_ne, upd_eq, ne_eq, Nat.reduceEqDiff, not_false_eq_true] at g16); omega
                   · exfalso; (try simp only [zwr_rne, zwr_req, upd_ne, upd_eq, ne_eq, Nat.reduceEqDiff, not_false_eq_true] at g15); omega
          · try simp only [zwr_rne, zwr_req, upd_ne, upd_eq, ne_eq, Nat.reduceEqDiff, not_false_eq_true] at g3
            try omega
            all_goals
             try simp only [one_ne, zero_eq, if_false, if_true, or_true, true_or, or_false, false_or]
             refine en_X12_guard ?_
             try simp only [zwr_rne, zwr_req, upd_ne, upd_eq, ne_eq, Nat.reduceEqDiff, not_false_eq_true]
             refine m_isClaim (by first | omega | (simp only [zwr_rne, zwr_req, upd_ne, upd_eq, ne_eq, Nat.reduceEqDiff, not_false_eq_true]; omega)) (fun g21 g21' => ?_) (fun g21 => ?_)
             · try simp only [zwr_rne, zwr_req, upd_ne, upd_eq, ne_eq, Nat.reduceEqDiff, not_false_eq_true] at g21
               try simp only [zwr_rne, zwr_req, upd_ne, upd_eq, ne_eq, Nat.reduceEqDiff, not_false_eq_true] at g21'
               try omega
               all_goals
                try simp only [one_ne, zero_eq, if_false, if_true, or_true, true_or, or_false, false_or]
                try simp only [zwr_rne, zwr_req, upd_ne, upd_eq, ne_eq, Nat.reduceEqDiff, not_false_eq_true]
                refine m_isFirm (by first | omega | (simp only [zwr_rne, zwr_req, upd_ne, upd_eq, ne_eq, Nat.reduceEqDiff, not_false_eq_true]; omega)) (fun g22 g22' => ?_) (fun g22 => ?_)
                · try simp only [zwr_rne, zwr_req, upd_ne, upd_eq, ne_eq, Nat.reduceEqDiff, not_false_eq_true] at g22
                  try simp only [zwr_rne, zwr_req, upd_ne, upd_eq, ne_eq, Nat.reduceEqDiff, not_false_eq_true] at g22'
                  try omega
                  all_goals
                   try simp only [one_ne, zero_eq, if_false, if_true, or_true, true_or, or_false, false_or]
                   try simp only [zwr_rne, zwr_req, upd_ne, upd_eq, ne_eq, Nat.reduceEqDiff, not_false_eq_true]
                   refine m_isIn (fun g23 g23' => ?_) (fun g23 => ?_)
                   · exfalso; (try simp only [zwr_rne, zwr_req, upd_ne, upd_eq, ne_eq, Nat.reduceEqDiff, not_false_eq_true] at g23); (try simp only [zwr_rne, zwr_req, upd_ne, upd_eq, ne_eq, Nat.reduceEqDiff, not_false_eq_true] at g23'); omega
                   · try simp only [zwr_rne, zwr_req, upd_ne, upd_eq, ne_eq, Nat.reduceEqDiff, not_false_eq_true] at g23
                     try omega
                     all_goals
                      try simp only [one_ne, zero_eq, if_false, if_true, or_true, true_or, or_false, false_or]
                      try simp only [zwr_rne, zwr_req, upd_ne, upd_eq, ne_eq, Nat.reduceEqDiff, not_false_eq_true]
                      exact ⟨by first | rfl | trivial, hh⟩
                · exfalso; (try simp only [zwr_rne, zwr_req, upd_ne, upd_eq, ne_eq, Nat.reduceEqDiff, not_false_eq_true] at g22); omega
             · exfalso; (try simp only [zwr_rne, zwr_req, upd_ne, upd_eq, ne_eq, Nat.reduceEqDiff, not_false_eq_true] at g21); omega
       · try simp only [zwr_rne, zwr_req, upd_ne, upd_eq, ne_eq, Nat.reduceEqDiff, not_false_eq_true] at g2
         try omega
         all_goals
          try simp only [one_ne, zero_eq, if_false, if_true, or_true, true_or, or_false, false_or]
          refine en_X12_guard ?_
          try simp only [zwr_rne, zwr_req, upd_ne, upd_eq, ne_eq, Nat.reduceEqDiff, not_false_eq_true]
          refine m_isClaim (by first | omega | (simp only [zwr_rne, zwr_req, upd_ne, upd_eq, ne_eq, Nat.reduceEqDiff, not_false_eq_true]; omega)) (fun g24 g24' => ?_) (fun g24 => ?_)
          · try simp only [zwr_rne, zwr_req, upd_ne, upd_eq, ne_eq, Nat.reduceEqDiff, not_false_eq_true] at g24
            try simp only [zwr_rne, zwr_req, upd_ne, upd_eq, ne_eq, Nat.reduceEqDiff, not_false_eq_true] at g24'
            try omega
            all_goals
             try simp only [one_ne, zero_eq, if_false, if_true, or_true, true_or, or_false, false_or]
             try simp only [zwr_rne, zwr_req, upd_ne, upd_eq, ne_eq, Nat.reduceEqDiff, not_false_eq_true]
             refine m_isFirm (by first | omega | (simp only [zwr_rne, zwr_req, upd_ne, upd_eq, ne_eq, Nat.reduceEqDiff, not_false_eq_true]; omega)) (fun g25 g25' => ?_) (fun g25 => ?_)
             · exfalso; (try simp only [zwr_rne, zwr_req, upd_ne, upd_eq, ne_eq, Nat.reduceEqDiff, not_false_eq_true] at g25); (try simp only [zwr_rne, zwr_req, upd_ne, upd_eq, ne_eq, Nat.reduceEqDiff, not_false_eq_true] at g25'); omega
             · try simp only [zwr_rne, zwr_req, upd_ne, upd_eq, ne_eq, Nat.reduceEqDiff, not_false_eq_true] at g25
               try omega
               all_goals
                try simp only [one_ne, zero_eq, if_false, if_true, or_true, true_or, or_false, false_or]
                try simp only [zwr_rne, zwr_req, upd_ne, upd_eq, ne_eq, Nat.reduceEqDiff, not_false_eq_true]
                exact ⟨by first | rfl | trivial, hh⟩
          · exfalso; (try simp only [zwr_rne, zwr_req, upd_ne, upd_eq, ne_eq, Nat.reduceEqDiff, not_false_eq_true] at g24); omega
    · try simp only [zwr_rne, zwr_req, upd_ne, upd_eq, ne_eq, Nat.reduceEqDiff, not_false_eq_true] at g1
      try omega
      all_goals
       try simp only [one_ne, zero_eq, if_false, if_true, or_true, true_or, or_false, false_or]
       refine en_X12_guard ?_
       try simp only [zwr_rne, zwr_req, upd_ne, upd_eq, ne_eq, Nat.reduceEqDiff, not_false_eq_true]
       refine m_isClaim (by first | omega | (simp only [zwr_rne, zwr_req, upd_ne, upd_eq, ne_eq, Nat.reduceEqDiff, not_false_eq_true]; omega)) (fun g26 g26' => ?_) (fun g26 => ?_)
       · exfalso; (try simp only [zwr_rne, zwr_req, upd_ne, upd_eq, ne_eq, Nat.reduceEqDiff, not_false_eq_true] at g26); (try simp only [zwr_rne, zwr_req, upd_ne, upd_eq, ne_eq, Nat.reduceEqDiff, not_false_eq_true] at g26'); omega
       · try simp only [zwr_rne, zwr_req, upd_ne, upd_eq, ne_eq, Nat.reduceEqDiff, not_false_eq_true] at g26
         try omega
         all_goals
          try simp only [one_ne, zero_eq, if_false, if_true, or_true, true_or, or_false, false_or]
          try simp only [zwr_rne, zwr_req, upd_ne, upd_eq, ne_eq, Nat.reduceEqDiff, not_false_eq_true]
          exact ⟨by first | rfl | trivial, hh⟩
  · have tc := tin hc2
    have cc : (nI c).toNatClampNeg = c := cln hc2
    have vc : vp_in (nI c) 24 := vin (by omega)
    obtain ⟨a1, a2, a3, a4⟩ := kda.1 c hc
    obtain ⟨h1, h2, h3, h4⟩ := kdh.1 c hc
    obtain ⟨q1, q2, q3, q4, q5, q6, q7, q8, q9, q10, q11, q12⟩ := kcl.1 c hc
    obtain ⟨p1, p2, p3, p4, p5, p6⟩ := kpl.1 c hc
    have fq1 : (σ 2 c).toInt = (σ 78 c).toInt := by rw [q1]
    have fq2 : (σ 3 c).toInt = (σ 79 c).toInt := by rw [q2]
    rcases idx_of v2 (σ 72 1) with hb | ⟨f, rfl, hf, hf2⟩
    · refine en_X11_guard ?_
      try simp only [zwr_rne, zwr_req, upd_ne, upd_eq, ne_eq, Nat.reduceEqDiff, not_false_eq_true, cc]
      refine c_hasC (fun g1 g1' => ?_) (fun g1 => ?_)
      · try simp only [zwr_rne, zwr_req, upd_ne, upd_eq, ne_eq, Nat.reduceEqDiff, not_false_eq_true, cc] at g1
        try simp only [zwr_rne, zwr_req, upd_ne, upd_eq, ne_eq, Nat.reduceEqDiff, not_false_eq_true, cc] at g1'
        try omega
        all_goals
         try simp only [one_ne, zero_eq, if_false, if_true, or_true, true_or, or_false, false_or]
         refine c_isFirm (fun g2 g2' => ?_) (fun g2 => ?_)
         · try simp only [zwr_rne, zwr_req, upd_ne, upd_eq, ne_eq, Nat.reduceEqDiff, not_false_eq_true, cc] at g2
           try simp only [zwr_rne, zwr_req, upd_ne, upd_eq, ne_eq, Nat.reduceEqDiff, not_false_eq_true, cc] at g2'
           try omega
           all_goals
            try simp only [one_ne, zero_eq, if_false, if_true, or_true, true_or, or_false, false_or]
            refine c_isWithin (fun g3 g3' => ?_) (fun g3 => ?_)
            · try simp only [zwr_rne, zwr_req, upd_ne, upd_eq, ne_eq, Nat.reduceEqDiff, not_false_eq_true, cc] at g3
              try simp only [zwr_rne, zwr_req, upd_ne, upd_eq, ne_eq, Nat.reduceEqDiff, not_false_eq_true, cc] at g3'
              try omega
              all_goals
               try simp only [one_ne, zero_eq, if_false, if_true, or_true, true_or, or_false, false_or]
               refine ⟨by first | assumption | exact vin (by omega) | exact vp_in_I.mpr (by omega), ?_⟩
               refine zeq (fun g4 => ?_) (fun g4 => ?_)
               · try simp only [zwr_rne, zwr_req, upd_ne, upd_eq, ne_eq, Nat.reduceEqDiff, not_false_eq_true, cc] at g4
                 try omega
                 all_goals
                  refine en_X12_guard ?_
                  try simp only [zwr_rne, zwr_req, upd_ne, upd_eq, ne_eq, Nat.reduceEqDiff, not_false_eq_true, cc]
                  refine m_isClaim (by first | omega | (simp only [zwr_rne, zwr_req, upd_ne, upd_eq, ne_eq, Nat.reduceEqDiff, not_false_eq_true, cc]; omega)) (fun g5 g5' => ?_) (fun g5 => ?_)
                  · try simp only [zwr_rne, zwr_req, upd_ne, upd_eq, ne_eq, Nat.reduceEqDiff, not_false_eq_true, cc] at g5
                    try simp only [zwr_rne, zwr_req, upd_ne, upd_eq, ne_eq, Nat.reduceEqDiff, not_false_eq_true, cc] at g5'
                    try omega
                    all_goals
                     try simp only [one_ne, zero_eq, if_false, if_true, or_true, true_or, or_false, false_or]
                     try simp only [zwr_rne, zwr_req, upd_ne, upd_eq, ne_eq, Nat.reduceEqDiff, not_false_eq_true, cc]
                     refine m_isFirm (by first | omega | (simp only [zwr_rne, zwr_req, upd_ne, upd_eq, ne_eq, Nat.reduceEqDiff, not_false_eq_true, cc]; omega)) (fun g6 g6' => ?_) (fun g6 => ?_)
                     · try simp only [zwr_rne, zwr_req, upd_ne, upd_eq, ne_eq, Nat.reduceEqDiff, not_false_eq_true, cc] at g6
                       try simp only [zwr_rne, zwr_req, upd_ne, upd_eq, ne_eq, Nat.reduceEqDiff, not_false_eq_true, cc] at g6'
                       try omega
                       all_goals
                        try simp only [one_ne, zero_eq, if_false, if_true, or_true, true_or, or_false, false_or]
                        try simp only [zwr_rne, zwr_req, upd_ne, upd_eq, ne_eq, Nat.reduceEqDiff, not_false_eq_true, cc]
                        refine m_isIn (fun g7 g7' => ?_) (fun g7 => ?_)
                        · try simp only [zwr_rne, zwr_req, upd_ne, upd_eq, ne_eq, Nat.reduceEqDiff, not_false_eq_true, cc] at g7
                          try simp only [zwr_rne, zwr_req, upd_ne, upd_eq, ne_eq, Nat.reduceEqDiff, not_false_eq_true, cc] at g7'
                          try omega
                          all_goals
                           try simp only [one_ne, zero_eq, if_false, if_true, or_true, true_or, or_false, false_or]
                           try simp only [zwr_rne, zwr_req, upd_ne, upd_eq, ne_eq, Nat.reduceEqDiff, not_false_eq_true, cc]
                           refine ⟨by first | assumption | exact vin (by omega) | exact vp_in_I.mpr (by omega), ?_⟩
                           refine zeq (fun g8 => ?_) (fun g8 => ?_)
                           · try simp only [zwr_rne, zwr_req, upd_ne, upd_eq, ne_eq, Nat.reduceEqDiff, not_false_eq_true, cc] at g8
                             try omega
                             all_goals
                              try simp only [zwr_rne, zwr_req, upd_ne, upd_eq, ne_eq, Nat.reduceEqDiff, not_false_eq_true, cc]
                              exact ⟨by first | rfl | trivial, hh⟩
                           · exfalso; (try simp only [zwr_rne, zwr_req, upd_ne, upd_eq, ne_eq, Nat.reduceEqDiff, not_false_eq_true, cc] at g8); omega
                        · exfalso; (try simp only [zwr_rne, zwr_req, upd_ne, upd_eq, ne_eq, Nat.reduceEqDiff, not_false_eq_true, cc] at g7); omega
                     · exfalso; (try simp only [zwr_rne, zwr_req, upd_ne, upd_eq, ne_eq, Nat.reduceEqDiff, not_false_eq_true, cc] at g6); omega
                  · exfalso; (try simp only [zwr_rne, zwr_req, upd_ne, upd_eq, ne_eq, Nat.reduceEqDiff, not_false_eq_true, cc] at g5); omega
               · try simp only [zwr_rne, zwr_req, upd_ne, upd_eq, ne_eq, Nat.reduceEqDiff, not_false_eq_true, cc] at g4
                 try omega
                 all_goals
                  exfalso; omega
                  try simp only [zwr_rne, zwr_req, upd_ne, upd_eq, ne_eq, Nat.reduceEqDiff, not_false_eq_true, cc]
                  refine zeq (fun g9 => ?_) (fun g9 => ?_)
                  · try simp only [zwr_rne, zwr_req, upd_ne, upd_eq, ne_eq, Nat.reduceEqDiff, not_false_eq_true, cc] at g9
                    try omega
                    all_goals
                     refine en_X12_guard ?_
                     try simp only [zwr_rne, zwr_req, upd_ne, upd_eq, ne_eq, Nat.reduceEqDiff, not_false_eq_true, cc]
                     refine m_isClaim (by first | omega | (simp only [zwr_rne, zwr_req, upd_ne, upd_eq, ne_eq, Nat.reduceEqDiff, not_false_eq_true, cc]; omega)) (fun g10 g10' => ?_) (fun g10 => ?_)
                     · try simp only [zwr_rne, zwr_req, upd_ne, upd_eq, ne_eq, Nat.reduceEqDiff, not_false_eq_true, cc] at g10
                       try simp only [zwr_rne, zwr_req, upd_ne, upd_eq, ne_eq, Nat.reduceEqDiff, not_false_eq_true, cc] at g10'
                       try omega
                       all_goals
                        try simp only [one_ne, zero_eq, if_false, if_true, or_true, true_or, or_false, false_or]
                        try simp only [zwr_rne, zwr_req, upd_ne, upd_eq, ne_eq, Nat.reduceEqDiff, not_false_eq_true, cc]
                        refine m_isFirm (by first | omega | (simp only [zwr_rne, zwr_req, upd_ne, upd_eq, ne_eq, Nat.reduceEqDiff, not_false_eq_true, cc]; omega)) (fun g11 g11' => ?_) (fun g11 => ?_)
                        · try simp only [zwr_rne, zwr_req, upd_ne, upd_eq, ne_eq, Nat.reduceEqDiff, not_false_eq_true, cc] at g11
                          try simp only [zwr_rne, zwr_req, upd_ne, upd_eq, ne_eq, Nat.reduceEqDiff, not_false_eq_true, cc] at g11'
                          try omega
                          all_goals
                           try simp only [one_ne, zero_eq, if_false, if_true, or_true, true_or, or_false, false_or]
                           try simp only [zwr_rne, zwr_req, upd_ne, upd_eq, ne_eq, Nat.reduceEqDiff, not_false_eq_true, cc]
                           refine m_isIn (fun g12 g12' => ?_) (fun g12 => ?_)
                           · try simp only [zwr_rne, zwr_req, upd_ne, upd_eq, ne_eq, Nat.reduceEqDiff, not_false_eq_true, cc] at g12
                             try simp only [zwr_rne, zwr_req, upd_ne, upd_eq, ne_eq, Nat.reduceEqDiff, not_false_eq_true, cc] at g12'
                             try omega
                             all_goals
                              try simp only [one_ne, zero_eq, if_false, if_true, or_true, true_or, or_false, false_or]
                              try simp only [zwr_rne, zwr_req, upd_ne, upd_eq, ne_eq, Nat.reduceEqDiff, not_false_eq_true, cc]
                              refine ⟨by first | assumption | exact vin (by omega) | exact vp_in_I.mpr (by omega), ?_⟩
                              refine zeq (fun g13 => ?_) (fun g13 => ?_)
                              · exfalso; (try simp only [zwr_rne, zwr_req, upd_ne, upd_eq, ne_eq, Nat.reduceEqDiff, not_false_eq_true, cc] at g13); omega
                              · try simp only [zwr_rne, zwr_req, upd_ne, upd_eq, ne_eq, Nat.reduceEqDiff, not_false_eq_true, cc] at g13
                                try omega
                                all_goals
                                 try simp only [zwr_rne, zwr_req, upd_ne, upd_eq, ne_eq, Nat.reduceEqDiff, not_false_eq_true, cc]
                                 exfalso; omega
                                 try simp only [zwr_rne, zwr_req, upd_ne, upd_eq, ne_eq, Nat.reduceEqDiff, not_false_eq_true, cc]
                                 refine zeq (fun g14 => ?_) (fun g14 => ?_)
                                 · try simp only [zwr_rne, zwr_req, upd_ne, upd_eq, ne_eq, Nat.reduceEqDiff, not_false_eq_true, cc] at g14
                                   try omega
                                   all_goals
                                    try simp only [zwr_rne, zwr_req, upd_ne, upd_eq, ne_eq, Nat.reduceEqDiff, not_false_eq_true, cc]
                                    exact ⟨by first | rfl | trivial, hh⟩
                                 · exfalso; (try simp only [zwr_rne, zwr_req, upd_ne, upd_eq, ne_eq, Nat.reduceEqDiff, not_false_eq_true, cc] at g14); omega
                           · exfalso; (try simp only [zwr_rne, zwr_req, upd_ne, upd_eq, ne_eq, Nat.reduceEqDiff, not_false_eq_true, cc] at g12); omega
                        · exfalso; (try simp only [zwr_rne, zwr_req, upd_ne, upd_eq, ne_eq, Nat.reduceEqDiff, not_false_eq_true, cc] at g11); omega
                     · exfalso; (try simp only [zwr_rne, zwr_req, upd_ne, upd_eq, ne_eq, Nat.reduceEqDiff, not_false_eq_true, cc] at g10); omega
                  · try simp only [zwr_rne, zwr_req, upd_ne, upd_eq, ne_eq, Nat.reduceEqDiff, not_false_eq_true, cc] at g9
                    try omega
                    all_goals
                     refine ⟨by first | assumption | exact vin (by omega) | exact vp_in_I.mpr (by omega), ?_⟩
                     refine ⟨by first | assumption | exact vin (by omega) | exact vp_in_I.mpr (by omega), ?_⟩
                     refine ⟨by first | assumption | exact vin (by omega) | exact vp_in_I.mpr (by omega), ?_⟩
                     rintro _ rfl
                     try simp only [zwr_rne, zwr_req, upd_ne, upd_eq, ne_eq, Nat.reduceEqDiff, not_false_eq_true, cc]
                     refine c_changed ?_
                     try simp only [zwr_rne, zwr_req, upd_ne, upd_eq, ne_eq, Nat.reduceEqDiff, not_false_eq_true, cc]
                     refine en_X12_guard ?_
                     try simp only [zwr_rne, zwr_req, upd_ne, upd_eq, ne_eq, Nat.reduceEqDiff, not_false_eq_true, cc]
                     refine m_isClaim (by first | omega | (simp only [zwr_rne, zwr_req, upd_ne, upd_eq, ne_eq, Nat.reduceEqDiff, not_false_eq_true, cc]; omega)) (fun g15 g15' => ?_) (fun g15 => ?_)
                     · try simp only [zwr_rne, zwr_req, upd_ne, upd_eq, ne_eq, Nat.reduceEqDiff, not_false_eq_true, cc] at g15
                       try simp only [zwr_rne, zwr_req, upd_ne, upd_eq, ne_eq, Nat.reduceEqDiff, not_false_eq_true, cc] at g15'
                       try omega
                       all_goals
                        try simp only [one_ne, zero_eq, if_false, if_true, or_true, true_or, or_false, false_or]
                        try simp only [zwr_rne, zwr_req, upd_ne, upd_eq, ne_eq, Nat.reduceEqDiff, not_false_eq_true, cc]
                        refine m_isFirm (by first | omega | (simp only [zwr_rne, zwr_req, upd_ne, upd_eq, ne_eq, Nat.reduceEqDiff, not_false_eq_true, cc]; omega)) (fun g16 g16' => ?_) (fun g16 => ?_)
                        · try simp only [zwr_rne, zwr_req, upd_ne, upd_eq, ne_eq, Nat.reduceEqDiff, not_false_eq_true, cc] at g16
                          try simp only [zwr_rne, zwr_req, upd_ne, upd_eq, ne_eq, Nat.reduceEqDiff, not_false_eq_true, cc] at g16'
                          try omega
                          all_goals
                           try simp only [one_ne, zero_eq, if_false, if_true, or_true, true_or, or_false, false_or]
                           try simp only [zwr_rne, zwr_req, upd_ne, upd_eq, ne_eq, Nat.reduceEqDiff, not_false_eq_true, cc]
                           refine m_isIn (fun g17 g17' => ?_) (fun g17 => ?_)
                           · try simp only [zwr_rne, zwr_req, upd_ne, upd_eq, ne_eq, Nat.reduceEqDiff, not_false_eq_true, cc] at g17
                             try simp only [zwr_rne, zwr_req, upd_ne, upd_eq, ne_eq, Nat.reduceEqDiff, not_false_eq_true, cc] at g17'
                             try omega
                             all_goals
                              try simp only [one_ne, zero_eq, if_false, if_true, or_true, true_or, or_false, false_or]
                              try simp only [zwr_rne, zwr_req, upd_ne, upd_eq, ne_eq, Nat.reduceEqDiff, not_false_eq_true, cc]
                              refine ⟨by first | assumption | exact vin (by omega) | exact vp_in_I.mpr (by omega), ?_⟩
                              refine zeq (fun g18 => ?_) (fun g18 => ?_)
                              · exfalso; (try simp only [zwr_rne, zwr_req, upd_ne, upd_eq, ne_eq, Nat.reduceEqDiff, not_false_eq_true, cc] at g18); omega
                              · try simp only [zwr_rne, zwr_req, upd_ne, upd_eq, ne_eq, Nat.reduceEqDiff, not_false_eq_true, cc] at g18
                                try omega
                                all_goals
                                 try simp only [zwr_rne, zwr_req, upd_ne, upd_eq, ne_eq, Nat.reduceEqDiff, not_false_eq_true, cc]
                                 exfalso; omega
                                 try simp only [zwr_rne, zwr_req, upd_ne, upd_eq, ne_eq, Nat.reduceEqDiff, not_false_eq_true, cc]
                                 refine zeq (fun g19 => ?_) (fun g19 => ?_)
                                 · exfalso; (try simp only [zwr_rne, zwr_req, upd_ne, upd_eq, ne_eq, Nat.reduceEqDiff, not_false_eq_true, cc] at g19); omega
                                 · try simp only [zwr_rne, zwr_req, upd_ne, upd_eq, ne_eq, Nat.reduceEqDiff, not_false_eq_true, cc] at g19
                                   try omega
                                   all_goals
                                    try simp only [zwr_rne, zwr_req, upd_ne, upd_eq, ne_eq, Nat.reduceEqDiff, not_false_eq_true, cc]
                                    refine ⟨by first | assumption | exact vin (by omega) | exact vp_in_I.mpr (by omega), ?_⟩
                                    refine zeq (fun g20 => ?_) (fun g20 => ?_)
                                    · try simp only [zwr_rne, zwr_req, upd_ne, upd_eq, ne_eq, Nat.reduceEqDiff, not_false_eq_true, cc] at g20
                                      try omega
                                      all_goals
                                       try simp only [zwr_rne, zwr_req, upd_ne, upd_eq, ne_eq, Nat.reduceEqDiff, not_false_eq_true, cc]
                                       refine ⟨by first | assumption | exact vin (by omega) | exact vp_in_I.mpr (by omega), ?_⟩
                                       refine ⟨by first | assumption | exact vin (by omega) | exact vp_in_I.mpr (by omega), ?_⟩
                                       rintro _ rfl
                                       try simp only [zwr_rne, zwr_req, upd_ne, upd_eq, ne_eq, Nat.reduceEqDiff, not_false_eq_true, cc]
                                       exact ⟨by first | rfl | trivial, hh⟩
                                    · try simp only [zwr_rne, zwr_req, upd_ne, upd_eq, ne_eq, Nat.reduceEqDiff, not_false_eq_true, cc] at g20
                                      try omega
                                      all_goals
                                       try simp only [zwr_rne, zwr_req, upd_ne, upd_eq, ne_eq, Nat.reduceEqDiff, not_false_eq_true, cc]
                                       refine ⟨by first | assumption | exact vin (by omega) | exact vp_in_I.mpr (by omega), ?_⟩
                                       refine ⟨by first | assumption | exact vin (by omega) | exact vp_in_I.mpr (by omega), ?_⟩
                                       rintro _ rfl
                                       try simp only [zwr_rne, zwr_req, upd_ne, upd_eq, ne_eq, Nat.reduceEqDiff, not_false_eq_true, cc]
                                       exact ⟨by first | rfl | trivial, hh⟩
                           · exfalso; (try simp only [zwr_rne, zwr_req, upd_ne, upd_eq, ne_eq, Nat.reduceEqDiff, not_false_eq_true, cc] at g17); omega
                        · exfalso; (try simp only [zwr_rne, zwr_req, upd_ne, upd_eq, ne_eq, Nat.reduceEqDiff, not_false_eq_true, cc] at g16); omega
                     · exfalso; (try simp only [zwr_rne, zwr_req, upd_ne, upd_eq, ne_eq, Nat.reduceEqDiff, not_false_eq_true, cc] at g15); omega
            · try simp only [zwr_rne, zwr_req, upd_ne, upd_eq, ne_eq, Nat.reduceEqDiff, not_false_eq_true, cc] at g3
              try omega
              all_goals
               try simp only [one_ne, zero_eq, if_false, if_true, or_true, true_or, or_false, false_or]
               refine en_X12_guard ?_
               try simp only [zwr_rne, zwr_req, upd_ne, upd_eq, ne_eq, Nat.reduceEqDiff, not_false_eq_true, cc]
               refine m_isClaim (by first | omega | (simp only [zwr_rne, zwr_req, upd_ne, upd_eq, ne_eq, Nat.reduceEqDiff, not_false_eq_true, cc]; omega)) (fun g21 g21' => ?_) (fun g21 => ?_)
               · try simp only [zwr_rne, zwr_req, upd_ne, upd_eq, ne_eq, Nat.reduceEqDiff, not_false_eq_true, cc] at g21
                 try simp only [zwr_rne, zwr_req, upd_ne, upd_eq, ne_eq, Nat.reduceEqDiff, not_false_eq_true, cc] at g21'
                 try omega
                 all_goals
                  try simp only [one_ne, zero_eq, if_false, if_true, or_true, true_or, or_false, false_or]
                  try simp only [zwr_rne, zwr_req, upd_ne, upd_eq, ne_eq, Nat.reduceEqDiff, not_false_eq_true, cc]
                  refine m_isFirm (by first | omega | (simp only [zwr_rne, zwr_req, upd_ne, upd_eq, ne_eq, Nat.reduceEqDiff, not_false_eq_true, cc]; omega)) (fun g22 g22' => ?_) (fun g22 => ?_)
                  · try simp only [zwr_rne, zwr_req, upd_ne, upd_eq, ne_eq, Nat.reduceEqDiff, not_false_eq_true, cc] at g22
                    try simp only [zwr_rne, zwr_req, upd_ne, upd_eq, ne_eq, Nat.reduceEqDiff, not_false_eq_true, cc] at g22'
                    try omega
                    all_goals
                     try simp only [one_ne, zero_eq, if_false, if_true, or_true, true_or, or_false, false_or]
                     try simp only [zwr_rne, zwr_req, upd_ne, upd_eq, ne_eq, Nat.reduceEqDiff, not_false_eq_true, cc]
                     refine m_isIn (fun g23 g23' => ?_) (fun g23 => ?_)
                     · exfalso; (try simp only [zwr_rne, zwr_req, upd_ne, upd_eq, ne_eq, Nat.reduceEqDiff, not_false_eq_true, cc] at g23); (try simp only [zwr_rne, zwr_req, upd_ne, upd_eq, ne_eq, Nat.reduceEqDiff, not_false_eq_true, cc] at g23'); omega
                     · try simp only [zwr_rne, zwr_req, upd_ne, upd_eq, ne_eq, Nat.reduceEqDiff, not_false_eq_true, cc] at g23
                       try omega
                       all_goals
                        try simp only [one_ne, zero_eq, if_false, if_true, or_true, true_or, or_false, false_or]
                        try simp only [zwr_rne, zwr_req, upd_ne, upd_eq, ne_eq, Nat.reduceEqDiff, not_false_eq_true, cc]
                        exact ⟨by first | rfl | trivial, hh⟩
                  · exfalso; (try simp only [zwr_rne, zwr_req, upd_ne, upd_eq, ne_eq, Nat.reduceEqDiff, not_false_eq_true, cc] at g22); omega
               · exfalso; (try simp only [zwr_rne, zwr_req, upd_ne, upd_eq, ne_eq, Nat.reduceEqDiff, not_false_eq_true, cc] at g21); omega
         · try simp only [zwr_rne, zwr_req, upd_ne, upd_eq, ne_eq, Nat.reduceEqDiff, not_false_eq_true, cc] at g2
           try omega
           all_goals
            try simp only [one_ne, zero_eq, if_false, if_true, or_true, true_or, or_false, false_or]
            refine en_X12_guard ?_
            try simp only [zwr_rne, zwr_req, upd_ne, upd_eq, ne_eq, Nat.reduceEqDiff, not_false_eq_true, cc]
            refine m_isClaim (by first | omega | (simp only [zwr_rne, zwr_req, upd_ne, upd_eq, ne_eq, Nat.reduceEqDiff, not_false_eq_true, cc]; omega)) (fun g24 g24' => ?_) (fun g24 => ?_)
            · try simp only [zwr_rne, zwr_req, upd_ne, upd_eq, ne_eq, Nat.reduceEqDiff, not_false_eq_true, cc] at g24
              try simp only [zwr_rne, zwr_req, upd_ne, upd_eq, ne_eq, Nat.reduceEqDiff, not_false_eq_true, cc] at g24'
              try omega
              all_goals
               try simp only [one_ne, zero_eq, if_false, if_true, or_true, true_or, or_false, false_or]
               try simp only [zwr_rne, zwr_req, upd_ne, upd_eq, ne_eq, Nat.reduceEqDiff, not_false_eq_true, cc]
               refine m_isFirm (by first | omega | (simp only [zwr_rne, zwr_req, upd_ne, upd_eq, ne_eq, Nat.reduceEqDiff, not_false_eq_true, cc]; omega)) (fun g25 g25' => ?_) (fun g25 => ?_)
               · exfalso; (try simp only [zwr_rne, zwr_req, upd_ne, upd_eq, ne_eq, Nat.reduceEqDiff, not_false_eq_true, cc] at g25); (try simp only [zwr_rne, zwr_req, upd_ne, upd_eq, ne_eq, Nat.reduceEqDiff, not_false_eq_true, cc] at g25'); omega
               · try simp only [zwr_rne, zwr_req, upd_ne, upd_eq, ne_eq, Nat.reduceEqDiff, not_false_eq_true, cc] at g25
                 try omega
                 all_goals
                  try simp only [one_ne, zero_eq, if_false, if_true, or_true, true_or, or_false, false_or]
                  try simp only [zwr_rne, zwr_req, upd_ne, upd_eq, ne_eq, Nat.reduceEqDiff, not_false_eq_true, cc]
                  exact ⟨by first | rfl | trivial, hh⟩
            · exfalso; (try simp only [zwr_rne, zwr_req, upd_ne, upd_eq, ne_eq, Nat.reduceEqDiff, not_false_eq_true, cc] at g24); omega
      · try simp only [zwr_rne, zwr_req, upd_ne, upd_eq, ne_eq, Nat.reduceEqDiff, not_false_eq_true, cc] at g1
        try omega
        all_goals
         try simp only [one_ne, zero_eq, if_false, if_true, or_true, true_or, or_false, false_or]
         refine en_X12_guard ?_
         try simp only [zwr_rne, zwr_req, upd_ne, upd_eq, ne_eq, Nat.reduceEqDiff, not_false_eq_true, cc]
         refine m_isClaim (by first | omega | (simp only [zwr_rne, zwr_req, upd_ne, upd_eq, ne_eq, Nat.reduceEqDiff, not_false_eq_true, cc]; omega)) (fun g26 g26' => ?_) (fun g26 => ?_)
         · exfalso; (try simp only [zwr_rne, zwr_req, upd_ne, upd_eq, ne_eq, Nat.reduceEqDiff, not_false_eq_true, cc] at g26); (try simp only [zwr_rne, zwr_req, upd_ne, upd_eq, ne_eq, Nat.reduceEqDiff, not_false_eq_true, cc] at g26'); omega
         · try simp only [zwr_rne, zwr_req, upd_ne, upd_eq, ne_eq, Nat.reduceEqDiff, not_false_eq_true, cc] at g26
           try omega
           all_goals
            try simp only [one_ne, zero_eq, if_false, if_true, or_true, true_or, or_false, false_or]
            try simp only [zwr_rne, zwr_req, upd_ne, upd_eq, ne_eq, Nat.reduceEqDiff, not_false_eq_true, cc]
            exact ⟨by first | rfl | trivial, hh⟩
    · have tf := tin hf2
      obtain ⟨b, hb, hb2, hb3⟩ := num_of (n := 63) q9 (by omega)
      by_cases ho : 0 ≤ v3.toInt ∧ v3.toInt ≤ 1
      · obtain ⟨on, rfl, ho2, ho3⟩ := num_of ho.1 ho.2
        have ton := tin ho3
        have q3b : σ 4 c = nI b := by rw [q3, hb]
        obtain ⟨ge1, ge2, ge3⟩ := guard_eq b (by omega) f (by omega) on (by omega)
        by_cases gw : ((nI b >>> (nI f &&& 31)) &&& 1) = nI on
        · rw [if_pos gw] at ge1 ge2 ge3
          have gwt : ((nI b >>> (nI f &&& 31)) &&& 1).toInt = (nI on).toInt := by rw [gw]
          refine en_X11_guard ?_
          try simp only [zwr_rne, zwr_req, upd_ne, upd_eq, ne_eq, Nat.reduceEqDiff, not_false_eq_true, cc, e4, hb, q3b, ge1]
          refine c_hasC (fun g1 g1' => ?_) (fun g1 => ?_)
          · try simp only [zwr_rne, zwr_req, upd_ne, upd_eq, ne_eq, Nat.reduceEqDiff, not_false_eq_true, cc, e4, hb, q3b, ge1] at g1
            try simp only [zwr_rne, zwr_req, upd_ne, upd_eq, ne_eq, Nat.reduceEqDiff, not_false_eq_true, cc, e4, hb, q3b, ge1] at g1'
            try omega
            all_goals
             try simp only [one_ne, zero_eq, if_false, if_true, or_true, true_or, or_false, false_or]
             refine c_isFirm (fun g2 g2' => ?_) (fun g2 => ?_)
             · try simp only [zwr_rne, zwr_req, upd_ne, upd_eq, ne_eq, Nat.reduceEqDiff, not_false_eq_true, cc, e4, hb, q3b, ge1] at g2
               try simp only [zwr_rne, zwr_req, upd_ne, upd_eq, ne_eq, Nat.reduceEqDiff, not_false_eq_true, cc, e4, hb, q3b, ge1] at g2'
               try omega
               all_goals
                try simp only [one_ne, zero_eq, if_false, if_true, or_true, true_or, or_false, false_or]
                refine c_isWithin (fun g3 g3' => ?_) (fun g3 => ?_)
                · try simp only [zwr_rne, zwr_req, upd_ne, upd_eq, ne_eq, Nat.reduceEqDiff, not_false_eq_true, cc, e4, hb, q3b, ge1] at g3
                  try simp only [zwr_rne, zwr_req, upd_ne, upd_eq, ne_eq, Nat.reduceEqDiff, not_false_eq_true, cc, e4, hb, q3b, ge1] at g3'
                  try omega
                  all_goals
                   try simp only [one_ne, zero_eq, if_false, if_true, or_true, true_or, or_false, false_or]
                   refine ⟨by first | assumption | exact vin (by omega) | exact vp_in_I.mpr (by omega), ?_⟩
                   refine zeq (fun g4 => ?_) (fun g4 => ?_)
                   · try simp only [zwr_rne, zwr_req, upd_ne, upd_eq, ne_eq, Nat.reduceEqDiff, not_false_eq_true, cc, e4, hb, q3b, ge1] at g4
                     try omega
                     all_goals
                      refine en_X12_guard ?_
                      try simp only [zwr_rne, zwr_req, upd_ne, upd_eq, ne_eq, Nat.reduceEqDiff, not_false_eq_true, cc, e4, hb, q3b, ge1]
                      refine m_isClaim (by first | omega | (simp only [zwr_rne, zwr_req, upd_ne, upd_eq, ne_eq, Nat.reduceEqDiff, not_false_eq_true, cc, e4, hb, q3b, ge1]; omega)) (fun g5 g5' => ?_) (fun g5 => ?_)
                      · try simp only [zwr_rne, zwr_req, upd_ne, upd_eq, ne_eq, Nat.reduceEqDiff, not_false_eq_true, cc, e4, hb, q3b, ge1] at g5
                        try simp only [zwr_rne, zwr_req, upd_ne, upd_eq, ne_eq, Nat.reduceEqDiff, not_false_eq_true, cc, e4, hb, q3b, ge1] at g5'
                        try omega
                        all_goals
                         try simp only [one_ne, zero_eq, if_false, if_true, or_true, true_or, or_false, false_or]
                         try simp only [zwr_rne, zwr_req, upd_ne, upd_eq, ne_eq, Nat.reduceEqDiff, not_false_eq_true, cc, e4, hb, q3b, ge1]
                         refine m_isFirm (by first | omega | (simp only [zwr_rne, zwr_req, upd_ne, upd_eq, ne_eq, Nat.reduceEqDiff, not_false_eq_true, cc, e4, hb, q3b, ge1]; omega)) (fun g6 g6' => ?_) (fun g6 => ?_)
                         · try simp only [zwr_rne, zwr_req, upd_ne, upd_eq, ne_eq, Nat.reduceEqDiff, not_false_eq_true, cc, e4, hb, q3b, ge1] at g6
                           try simp only [zwr_rne, zwr_req, upd_ne, upd_eq, ne_eq, Nat.reduceEqDiff, not_false_eq_true, cc, e4, hb, q3b, ge1] at g6'
                           try omega
                           all_goals
                            try simp only [one_ne, zero_eq, if_false, if_true, or_true, true_or, or_false, false_or]
                            try simp only [zwr_rne, zwr_req, upd_ne, upd_eq, ne_eq, Nat.reduceEqDiff, not_false_eq_true, cc, e4, hb, q3b, ge1]
                            refine m_isIn (fun g7 g7' => ?_) (fun g7 => ?_)
                            · try simp only [zwr_rne, zwr_req, upd_ne, upd_eq, ne_eq, Nat.reduceEqDiff, not_false_eq_true, cc, e4, hb, q3b, ge1] at g7
                              try simp only [zwr_rne, zwr_req, upd_ne, upd_eq, ne_eq, Nat.reduceEqDiff, not_false_eq_true, cc, e4, hb, q3b, ge1] at g7'
                              try omega
                              all_goals
                               try simp only [one_ne, zero_eq, if_false, if_true, or_true, true_or, or_false, false_or]
                               try simp only [zwr_rne, zwr_req, upd_ne, upd_eq, ne_eq, Nat.reduceEqDiff, not_false_eq_true, cc, e4, hb, q3b, ge1]
                               refine ⟨by first | assumption | exact vin (by omega) | exact vp_in_I.mpr (by omega), ?_⟩
                               refine zeq (fun g8 => ?_) (fun g8 => ?_)
                               · try simp only [zwr_rne, zwr_req, upd_ne, upd_eq, ne_eq, Nat.reduceEqDiff, not_false_eq_true, cc, e4, hb, q3b, ge1] at g8
                                 try omega
                                 all_goals
                                  try simp only [zwr_rne, zwr_req, upd_ne, upd_eq, ne_eq, Nat.reduceEqDiff, not_false_eq_true, cc, e4, hb, q3b, ge1]
                                  exact ⟨by first | rfl | trivial, hh⟩
                               · exfalso; (try simp only [zwr_rne, zwr_req, upd_ne, upd_eq, ne_eq, Nat.reduceEqDiff, not_false_eq_true, cc, e4, hb, q3b, ge1] at g8); omega
                            · exfalso; (try simp only [zwr_rne, zwr_req, upd_ne, upd_eq, ne_eq, Nat.reduceEqDiff, not_false_eq_true, cc, e4, hb, q3b, ge1] at g7); omega
                         · exfalso; (try simp only [zwr_rne, zwr_req, upd_ne, upd_eq, ne_eq, Nat.reduceEqDiff, not_false_eq_true, cc, e4, hb, q3b, ge1] at g6); omega
                      · exfalso; (try simp only [zwr_rne, zwr_req, upd_ne, upd_eq, ne_eq, Nat.reduceEqDiff, not_false_eq_true, cc, e4, hb, q3b, ge1] at g5); omega
                   · try simp only [zwr_rne, zwr_req, upd_ne, upd_eq, ne_eq, Nat.reduceEqDiff, not_false_eq_true, cc, e4, hb, q3b, ge1] at g4
                     try omega
                     all_goals
                      refine cr_holderOn kdh hc u3 ?_
                      try simp only [zwr_rne, zwr_req, upd_ne, upd_eq, ne_eq, Nat.reduceEqDiff, not_false_eq_true, cc, e4, hb, q3b, ge1]
                      refine zeq (fun g9 => ?_) (fun g9 => ?_)
                      · try simp only [zwr_rne, zwr_req, upd_ne, upd_eq, ne_eq, Nat.reduceEqDiff, not_false_eq_true, cc, e4, hb, q3b, ge1] at g9
                        try omega
                        all_goals
                         refine en_X12_guard ?_
                         try simp only [zwr_rne, zwr_req, upd_ne, upd_eq, ne_eq, Nat.reduceEqDiff, not_false_eq_true, cc, e4, hb, q3b, ge1]
                         refine m_isClaim (by first | omega | (simp only [zwr_rne, zwr_req, upd_ne, upd_eq, ne_eq, Nat.reduceEqDiff, not_false_eq_true, cc, e4, hb, q3b, ge1]; omega)) (fun g10 g10' => ?_) (fun g10 => ?_)
                         · try simp only [zwr_rne, zwr_req, upd_ne, upd_eq, ne_eq, Nat.reduceEqDiff, not_false_eq_true, cc, e4, hb, q3b, ge1] at g10
                           try simp only [zwr_rne, zwr_req, upd_ne, upd_eq, ne_eq, Nat.reduceEqDiff, not_false_eq_true, cc, e4, hb, q3b, ge1] at g10'
                           try omega
                           all_goals
                            try simp only [one_ne, zero_eq, if_false, if_true, or_true, true_or, or_false, false_or]
                            try simp only [zwr_rne, zwr_req, upd_ne, upd_eq, ne_eq, Nat.reduceEqDiff, not_false_eq_true, cc, e4, hb, q3b, ge1]
                            refine m_isFirm (by first | omega | (simp only [zwr_rne, zwr_req, upd_ne, upd_eq, ne_eq, Nat.reduceEqDiff, not_false_eq_true, cc, e4, hb, q3b, ge1]; omega)) (fun g11 g11' => ?_) (fun g11 => ?_)
                            · try simp only [zwr_rne, zwr_req, upd_ne, upd_eq, ne_eq, Nat.reduceEqDiff, not_false_eq_true, cc, e4, hb, q3b, ge1] at g11
                              try simp only [zwr_rne, zwr_req, upd_ne, upd_eq, ne_eq, Nat.reduceEqDiff, not_false_eq_true, cc, e4, hb, q3b, ge1] at g11'
                              try omega
                              all_goals
                               try simp only [one_ne, zero_eq, if_false, if_true, or_true, true_or, or_false, false_or]
                               try simp only [zwr_rne, zwr_req, upd_ne, upd_eq, ne_eq, Nat.reduceEqDiff, not_false_eq_true, cc, e4, hb, q3b, ge1]
                               refine m_isIn (fun g12 g12' => ?_) (fun g12 => ?_)
                               · try simp only [zwr_rne, zwr_req, upd_ne, upd_eq, ne_eq, Nat.reduceEqDiff, not_false_eq_true, cc, e4, hb, q3b, ge1] at g12
                                 try simp only [zwr_rne, zwr_req, upd_ne, upd_eq, ne_eq, Nat.reduceEqDiff, not_false_eq_true, cc, e4, hb, q3b, ge1] at g12'
                                 try omega
                                 all_goals
                                  try simp only [one_ne, zero_eq, if_false, if_true, or_true, true_or, or_false, false_or]
                                  try simp only [zwr_rne, zwr_req, upd_ne, upd_eq, ne_eq, Nat.reduceEqDiff, not_false_eq_true, cc, e4, hb, q3b, ge1]
                                  refine ⟨by first | assumption | exact vin (by omega) | exact vp_in_I.mpr (by omega), ?_⟩
                                  refine zeq (fun g13 => ?_) (fun g13 => ?_)
                                  · exfalso; (try simp only [zwr_rne, zwr_req, upd_ne, upd_eq, ne_eq, Nat.reduceEqDiff, not_false_eq_true, cc, e4, hb, q3b, ge1] at g13); omega
                                  · try simp only [zwr_rne, zwr_req, upd_ne, upd_eq, ne_eq, Nat.reduceEqDiff, not_false_eq_true, cc, e4, hb, q3b, ge1] at g13
                                    try omega
                                    all_goals
                                     try simp only [zwr_rne, zwr_req, upd_ne, upd_eq, ne_eq, Nat.reduceEqDiff, not_false_eq_true, cc, e4, hb, q3b, ge1]
                                     refine mr_holderOn hc u3 h2 h3 ?_
                                     try simp only [zwr_rne, zwr_req, upd_ne, upd_eq, ne_eq, Nat.reduceEqDiff, not_false_eq_true, cc, e4, hb, q3b, ge1]
                                     refine zeq (fun g14 => ?_) (fun g14 => ?_)
                                     · try simp only [zwr_rne, zwr_req, upd_ne, upd_eq, ne_eq, Nat.reduceEqDiff, not_false_eq_true, cc, e4, hb, q3b, ge1] at g14
                                       try omega
                                       all_goals
                                        try simp only [zwr_rne, zwr_req, upd_ne, upd_eq, ne_eq, Nat.reduceEqDiff, not_false_eq_true, cc, e4, hb, q3b, ge1]
                                        exact ⟨by first | rfl | trivial, hh⟩
                                     · exfalso; (try simp only [zwr_rne, zwr_req, upd_ne, upd_eq, ne_eq, Nat.reduceEqDiff, not_false_eq_true, cc, e4, hb, q3b, ge1] at g14); omega
                               · exfalso; (try simp only [zwr_rne, zwr_req, upd_ne, upd_eq, ne_eq, Nat.reduceEqDiff, not_false_eq_true, cc, e4, hb, q3b, ge1] at g12); omega
                            · exfalso; (try simp only [zwr_rne, zwr_req, upd_ne, upd_eq, ne_eq, Nat.reduceEqDiff, not_false_eq_true, cc, e4, hb, q3b, ge1] at g11); omega
                         · exfalso; (try simp only [zwr_rne, zwr_req, upd_ne, upd_eq, ne_eq, Nat.reduceEqDiff, not_false_eq_true, cc, e4, hb, q3b, ge1] at g10); omega
                      · try simp only [zwr_rne, zwr_req, upd_ne, upd_eq, ne_eq, Nat.reduceEqDiff, not_false_eq_true, cc, e4, hb, q3b, ge1] at g9
                        try omega
                        all_goals
                         refine ⟨by first | assumption | exact vin (by omega) | exact vp_in_I.mpr (by omega), ?_⟩
                         refine ⟨by first | assumption | exact vin (by omega) | exact vp_in_I.mpr (by omega), ?_⟩
                         refine ⟨by first | assumption | exact vin (by omega) | exact vp_in_I.mpr (by omega), ?_⟩
                         rintro _ rfl
                         try simp only [zwr_rne, zwr_req, upd_ne, upd_eq, ne_eq, Nat.reduceEqDiff, not_false_eq_true, cc, e4, hb, q3b, ge1]
                         refine c_changed ?_
                         try simp only [zwr_rne, zwr_req, upd_ne, upd_eq, ne_eq, Nat.reduceEqDiff, not_false_eq_true, cc, e4, hb, q3b, ge1]
                         refine en_X12_guard ?_
                         try simp only [zwr_rne, zwr_req, upd_ne, upd_eq, ne_eq, Nat.reduceEqDiff, not_false_eq_true, cc, e4, hb, q3b, ge1]
                         refine m_isClaim (by first | omega | (simp only [zwr_rne, zwr_req, upd_ne, upd_eq, ne_eq, Nat.reduceEqDiff, not_false_eq_true, cc, e4, hb, q3b, ge1]; omega)) (fun g15 g15' => ?_) (fun g15 => ?_)
                         · try simp only [zwr_rne, zwr_req, upd_ne, upd_eq, ne_eq, Nat.reduceEqDiff, not_false_eq_true, cc, e4, hb, q3b, ge1] at g15
                           try simp only [zwr_rne, zwr_req, upd_ne, upd_eq, ne_eq, Nat.reduceEqDiff, not_false_eq_true, cc, e4, hb, q3b, ge1] at g15'
                           try omega
                           all_goals
                            try simp only [one_ne, zero_eq, if_false, if_true, or_true, true_or, or_false, false_or]
                            try simp only [zwr_rne, zwr_req, upd_ne, upd_eq, ne_eq, Nat.reduceEqDiff, not_false_eq_true, cc, e4, hb, q3b, ge1]
                            refine m_isFirm (by first | omega | (simp only [zwr_rne, zwr_req, upd_ne, upd_eq, ne_eq, Nat.reduceEqDiff, not_false_eq_true, cc, e4, hb, q3b, ge1]; omega)) (fun g16 g16' => ?_) (fun g16 => ?_)
                            · try simp only [zwr_rne, zwr_req, upd_ne, upd_eq, ne_eq, Nat.reduceEqDiff, not_false_eq_true, cc, e4, hb, q3b, ge1] at g16
                              try simp only [zwr_rne, zwr_req, upd_ne, upd_eq, ne_eq, Nat.reduceEqDiff, not_false_eq_true, cc, e4, hb, q3b, ge1] at g16'
                              try omega
                              all_goals
                               try simp only [one_ne, zero_eq, if_false, if_true, or_true, true_or, or_false, false_or]
                               try simp only [zwr_rne, zwr_req, upd_ne, upd_eq, ne_eq, Nat.reduceEqDiff, not_false_eq_true, cc, e4, hb, q3b, ge1]
                               refine m_isIn (fun g17 g17' => ?_) (fun g17 => ?_)
                               · try simp only [zwr_rne, zwr_req, upd_ne, upd_eq, ne_eq, Nat.reduceEqDiff, not_false_eq_true, cc, e4, hb, q3b, ge1] at g17
                                 try simp only [zwr_rne, zwr_req, upd_ne, upd_eq, ne_eq, Nat.reduceEqDiff, not_false_eq_true, cc, e4, hb, q3b, ge1] at g17'
                                 try omega
                                 all_goals
                                  try simp only [one_ne, zero_eq, if_false, if_true, or_true, true_or, or_false, false_or]
                                  try simp only [zwr_rne, zwr_req, upd_ne, upd_eq, ne_eq, Nat.reduceEqDiff, not_false_eq_true, cc, e4, hb, q3b, ge1]
                                  refine ⟨by first | assumption | exact vin (by omega) | exact vp_in_I.mpr (by omega), ?_⟩
                                  refine zeq (fun g18 => ?_) (fun g18 => ?_)
                                  · exfalso; (try simp only [zwr_rne, zwr_req, upd_ne, upd_eq, ne_eq, Nat.reduceEqDiff, not_false_eq_true, cc, e4, hb, q3b, ge1] at g18); omega
                                  · try simp only [zwr_rne, zwr_req, upd_ne, upd_eq, ne_eq, Nat.reduceEqDiff, not_false_eq_true, cc, e4, hb, q3b, ge1] at g18
                                    try omega
                                    all_goals
                                     try simp only [zwr_rne, zwr_req, upd_ne, upd_eq, ne_eq, Nat.reduceEqDiff, not_false_eq_true, cc, e4, hb, q3b, ge1]
                                     refine mr_holderOn hc u3 h2 h3 ?_
                                     try simp only [zwr_rne, zwr_req, upd_ne, upd_eq, ne_eq, Nat.reduceEqDiff, not_false_eq_true, cc, e4, hb, q3b, ge1]
                                     refine zeq (fun g19 => ?_) (fun g19 => ?_)
                                     · exfalso; (try simp only [zwr_rne, zwr_req, upd_ne, upd_eq, ne_eq, Nat.reduceEqDiff, not_false_eq_true, cc, e4, hb, q3b, ge1] at g19); omega
                                     · try simp only [zwr_rne, zwr_req, upd_ne, upd_eq, ne_eq, Nat.reduceEqDiff, not_false_eq_true, cc, e4, hb, q3b, ge1] at g19
                                       try omega
                                       all_goals
                                        try simp only [zwr_rne, zwr_req, upd_ne, upd_eq, ne_eq, Nat.reduceEqDiff, not_false_eq_true, cc, e4, hb, q3b, ge1]
                                        refine ⟨by first | assumption | exact vin (by omega) | exact vp_in_I.mpr (by omega), ?_⟩
                                        refine zeq (fun g20 => ?_) (fun g20 => ?_)
                                        · try simp only [zwr_rne, zwr_req, upd_ne, upd_eq, ne_eq, Nat.reduceEqDiff, not_false_eq_true, cc, e4, hb, q3b, ge1] at g20
                                          try omega
                                          all_goals
                                           try simp only [zwr_rne, zwr_req, upd_ne, upd_eq, ne_eq, Nat.reduceEqDiff, not_false_eq_true, cc, e4, hb, q3b, ge1]
                                           refine ⟨by first | assumption | exact vin (by omega) | exact vp_in_I.mpr (by omega), ?_⟩
                                           refine ⟨by first | assumption | exact vin (by omega) | exact vp_in_I.mpr (by omega), ?_⟩
                                           rintro _ rfl
                                           try simp only [zwr_rne, zwr_req, upd_ne, upd_eq, ne_eq, Nat.reduceEqDiff, not_false_eq_true, cc, e4, hb, q3b, ge1]
                                           refine ⟨by first | rfl | trivial | assumption, ?_⟩
                                           unfold Rall
                                           simp only [zwr_rne, zwr_req, upd_ne, upd_eq, ne_eq, Nat.reduceEqDiff, not_false_eq_true]
                                           exact ⟨⟨k1, k2, k3, k4, k5, k6, k7, k8, k9⟩, kas, kcl.setG hc ge2 ge3, kda, kdh, kpl, kkp, ksh, kwt, ktp, klw, ksd, Rwx_stale, Rwx_stale⟩
                                        · try simp only [zwr_rne, zwr_req, upd_ne, upd_eq, ne_eq, Nat.reduceEqDiff, not_false_eq_true, cc, e4, hb, q3b, ge1] at g20
                                          try omega
                                          all_goals
                                           try simp only [zwr_rne, zwr_req, upd_ne, upd_eq, ne_eq, Nat.reduceEqDiff, not_false_eq_true, cc, e4, hb, q3b, ge1]
                                           refine ⟨by first | assumption | exact vin (by omega) | exact vp_in_I.mpr (by omega), ?_⟩
                                           refine ⟨by first | assumption | exact vin (by omega) | exact vp_in_I.mpr (by omega), ?_⟩
                                           rintro _ rfl
                                           try simp only [zwr_rne, zwr_req, upd_ne, upd_eq, ne_eq, Nat.reduceEqDiff, not_false_eq_true, cc, e4, hb, q3b, ge1]
                                           refine ⟨by first | rfl | trivial | assumption, ?_⟩
                                           unfold Rall
                                           simp only [zwr_rne, zwr_req, upd_ne, upd_eq, ne_eq, Nat.reduceEqDiff, not_false_eq_true]
                                           exact ⟨⟨k1, k2, k3, k4, k5, k6, k7, k8, k9⟩, kas, kcl.setG hc ge2 ge3, kda, kdh, kpl, kkp, ksh, kwt, ktp, klw, ksd, Rwx_stale, Rwx_stale⟩
                               · exfalso; (try simp only [zwr_rne, zwr_req, upd_ne, upd_eq, ne_eq, Nat.reduceEqDiff, not_false_eq_true, cc, e4, hb, q3b, ge1] at g17); omega
                            · exfalso; (try simp only [zwr_rne, zwr_req, upd_ne, upd_eq, ne_eq, Nat.reduceEqDiff, not_false_eq_true, cc, e4, hb, q3b, ge1] at g16); omega
                         · exfalso; (try simp only [zwr_rne, zwr_req, upd_ne, upd_eq, ne_eq, Nat.reduceEqDiff, not_false_eq_true, cc, e4, hb, q3b, ge1] at g15); omega
                · try simp only [zwr_rne, zwr_req, upd_ne, upd_eq, ne_eq, Nat.reduceEqDiff, not_false_eq_true, cc, e4, hb, q3b, ge1] at g3
                  try omega
                  all_goals
                   try simp only [one_ne, zero_eq, if_false, if_true, or_true, true_or, or_false, false_or]
                   refine en_X12_guard ?_
                   try simp only [zwr_rne, zwr_req, upd_ne, upd_eq, ne_eq, Nat.reduceEqDiff, not_false_eq_true, cc, e4, hb, q3b, ge1]
                   refine m_isClaim (by first | omega | (simp only [zwr_rne, zwr_req, upd_ne, upd_eq, ne_eq, Nat.reduceEqDiff, not_false_eq_true, cc, e4, hb, q3b, ge1]; omega)) (fun g21 g21' => ?_) (fun g21 => ?_)
                   · try simp only [zwr_rne, zwr_req, upd_ne, upd_eq, ne_eq, Nat.reduceEqDiff, not_false_eq_true, cc, e4, hb, q3b, ge1] at g21
                     try simp only [zwr_rne, zwr_req, upd_ne, upd_eq, ne_eq, Nat.reduceEqDiff, not_false_eq_true, cc, e4, hb, q3b, ge1] at g21'
                     try omega
                     all_goals
                      try simp only [one_ne, zero_eq, if_false, if_true, or_true, true_or, or_false, false_or]
                      try simp only [zwr_rne, zwr_req, upd_ne, upd_eq, ne_eq, Nat.reduceEqDiff, not_false_eq_true, cc, e4, hb, q3b, ge1]
                      refine m_isFirm (by first | omega | (simp only [zwr_rne, zwr_req, upd_ne, upd_eq, ne_eq, Nat.reduceEqDiff, not_false_eq_true, cc, e4, hb, q3b, ge1]; omega)) (fun g22 g22' => ?_) (fun g22 => ?_)
                      · try simp only [zwr_rne, zwr_req, upd_ne, upd_eq, ne_eq, Nat.reduceEqDiff, not_false_eq_true, cc, e4, hb, q3b, ge1] at g22
                        try simp only [zwr_rne, zwr_req, upd_ne, upd_eq, ne_eq, Nat.reduceEqDiff, not_false_eq_true, cc, e4, hb, q3b, ge1] at g22'
                        try omega
                        all_goals
                         try simp only [one_ne, zero_eq, if_false, if_true, or_true, true_or, or_false, false_or]
                         try simp only [zwr_rne, zwr_req, upd_ne, upd_eq, ne_eq, Nat.reduceEqDiff, not_false_eq_true, cc, e4, hb, q3b, ge1]
                         refine m_isIn (fun g23 g23' => ?_) (fun g23 => ?_)
                         · exfalso; (try simp only [zwr_rne, zwr_req, upd_ne, upd_eq, ne_eq, Nat.reduceEqDiff, not_false_eq_true, cc, e4, hb, q3b, ge1] at g23); (try simp only [zwr_rne, zwr_req, upd_ne, upd_eq, ne_eq, Nat.reduceEqDiff, not_false_eq_true, cc, e4, hb, q3b, ge1] at g23'); omega
                         · try simp only [zwr_rne, zwr_req, upd_ne, upd_eq, ne_eq, Nat.reduceEqDiff, not_false_eq_true, cc, e4, hb, q3b, ge1] at g23
                           try omega
                           all_goals
                            try simp only [one_ne, zero_eq, if_false, if_true, or_true, true_or, or_false, false_or]
                            try simp only [zwr_rne, zwr_req, upd_ne, upd_eq, ne_eq, Nat.reduceEqDiff, not_false_eq_true, cc, e4, hb, q3b, ge1]
                            exact ⟨by first | rfl | trivial, hh⟩
                      · exfalso; (try simp only [zwr_rne, zwr_req, upd_ne, upd_eq, ne_eq, Nat.reduceEqDiff, not_false_eq_true, cc, e4, hb, q3b, ge1] at g22); omega
                   · exfalso; (try simp only [zwr_rne, zwr_req, upd_ne, upd_eq, ne_eq, Nat.reduceEqDiff, not_false_eq_true, cc, e4, hb, q3b, ge1] at g21); omega
             · try simp only [zwr_rne, zwr_req, upd_ne, upd_eq, ne_eq, Nat.reduceEqDiff, not_false_eq_true, cc, e4, hb, q3b, ge1] at g2
               try omega
               all_goals
                try simp only [one_ne, zero_eq, if_false, if_true, or_true, true_or, or_false, false_or]
                refine en_X12_guard ?_
                try simp only [zwr_rne, zwr_req, upd_ne, upd_eq, ne_eq, Nat.reduceEqDiff, not_false_eq_true, cc, e4, hb, q3b, ge1]
                refine m_isClaim (by first | omega | (simp only [zwr_rne, zwr_req, upd_ne, upd_eq, ne_eq, Nat.reduceEqDiff, not_false_eq_true, cc, e4, hb, q3b, ge1]; omega)) (fun g24 g24' => ?_) (fun g24 => ?_)
                · try simp only [zwr_rne, zwr_req, upd_ne, upd_eq, ne_eq, Nat.reduceEqDiff, not_false_eq_true, cc, e4, hb, q3b, ge1] at g24
                  try simp only [zwr_rne, zwr_req, upd_ne, upd_eq, ne_eq, Nat.reduceEqDiff, not_false_eq_true, cc, e4, hb, q3b, ge1] at g24'
                  try omega
                  all_goals
                   try simp only [one_ne, zero_eq, if_false, if_true, or_true, true_or, or_false, false_or]
                   try simp only [zwr_rne, zwr_req, upd_ne, upd_eq, ne_eq, Nat.reduceEqDiff, not_false_eq_true, cc, e4, hb, q3b, ge1]
                   refine m_isFirm (by first | omega | (simp only [zwr_rne, zwr_req, upd_ne, upd_eq, ne_eq, Nat.reduceEqDiff, not_false_eq_true, cc, e4, hb, q3b, ge1]; omega)) (fun g25 g25' => ?_) (fun g25 => ?_)
                   · exfalso; (try simp only [zwr_rne, zwr_req, upd_ne, upd_eq, ne_eq, Nat.reduceEqDiff, not_false_eq_true, cc, e4, hb, q3b, ge1] at g25); (try simp only [zwr_rne, zwr_req, upd_ne, upd_eq, ne_eq, Nat.reduceEqDiff, not_false_eq_true, cc, e4, hb, q3b, ge1] at g25'); omega
                   · try simp only [zwr_rne, zwr_req, upd_ne, upd_eq, ne_eq, Nat.reduceEqDiff, not_false_eq_true, cc, e4, hb, q3b, ge1] at g25
                     try omega
                     all_goals
                      try simp only [one_ne, zero_eq, if_false, if_true, or_true, true_or, or_false, false_or]
                      try simp only [zwr_rne, zwr_req, upd_ne, upd_eq, ne_eq, Nat.reduceEqDiff, not_false_eq_true, cc, e4, hb, q3b, ge1]
                      exact ⟨by first | rfl | trivial, hh⟩
                · exfalso; (try simp only [zwr_rne, zwr_req, upd_ne, upd_eq, ne_eq, Nat.reduceEqDiff, not_false_eq_true, cc, e4, hb, q3b, ge1] at g24); omega
          · try simp only [zwr_rne, zwr_req, upd_ne, upd_eq, ne_eq, Nat.reduceEqDiff, not_false_eq_true, cc, e4, hb, q3b, ge1] at g1
            try omega
            all_goals
             try simp only [one_ne, zero_eq, if_false, if_true, or_true, true_or, or_false, false_or]
             refine en_X12_guard ?_
             try simp only [zwr_rne, zwr_req, upd_ne, upd_eq, ne_eq, Nat.reduceEqDiff, not_false_eq_true, cc, e4, hb, q3b, ge1]
             refine m_isClaim (by first | omega | (simp only [zwr_rne, zwr_req, upd_ne, upd_eq, ne_eq, Nat.reduceEqDiff, not_false_eq_true, cc, e4, hb, q3b, ge1]; omega)) (fun g26 g26' => ?_) (fun g26 => ?_)
             · exfalso; (try simp only [zwr_rne, zwr_req, upd_ne, upd_eq, ne_eq, Nat.reduceEqDiff, not_false_eq_true, cc, e4, hb, q3b, ge1] at g26); (try simp only [zwr_rne, zwr_req, upd_ne, upd_eq, ne_eq, Nat.reduceEqDiff, not_false_eq_true, cc, e4, hb, q3b, ge1] at g26'); omega
             · try simp only [zwr_rne, zwr_req, upd_ne, upd_eq, ne_eq, Nat.reduceEqDiff, not_false_eq_true, cc, e4, hb, q3b, ge1] at g26
               try omega
               all_goals
                try simp only [one_ne, zero_eq, if_false, if_true, or_true, true_or, or_false, false_or]
                try simp only [zwr_rne, zwr_req, upd_ne, upd_eq, ne_eq, Nat.reduceEqDiff, not_false_eq_true, cc, e4, hb, q3b, ge1]
                exact ⟨by first | rfl | trivial, hh⟩
        · rw [if_neg gw] at ge1 ge2 ge3
          have gwt : ¬ ((nI b >>> (nI f &&& 31)) &&& 1).toInt = (nI on).toInt := fun z => gw (Int32.toInt_inj.mp z)
          refine en_X11_guard ?_
          try simp only [zwr_rne, zwr_req, upd_ne, upd_eq, ne_eq, Nat.reduceEqDiff, not_false_eq_true, cc, e4, hb, q3b, ge1]
          refine c_hasC (fun g1 g1' => ?_) (fun g1 => ?_)
          · try simp only [zwr_rne, zwr_req, upd_ne, upd_eq, ne_eq, Nat.reduceEqDiff, not_false_eq_true, cc, e4, hb, q3b, ge1] at g1
            try simp only [zwr_rne, zwr_req, upd_ne, upd_eq, ne_eq, Nat.reduceEqDiff, not_false_eq_true, cc, e4, hb, q3b, ge1] at g1'
            try omega
            all_goals
             try simp only [one_ne, zero_eq, if_false, if_true, or_true, true_or, or_false, false_or]
             refine c_isFirm (fun g2 g2' => ?_) (fun g2 => ?_)
             · try simp only [zwr_rne, zwr_req, upd_ne, upd_eq, ne_eq, Nat.reduceEqDiff, not_false_eq_true, cc, e4, hb, q3b, ge1] at g2
               try simp only [zwr_rne, zwr_req, upd_ne, upd_eq, ne_eq, Nat.reduceEqDiff, not_false_eq_true, cc, e4, hb, q3b, ge1] at g2'
               try omega
               all_goals
                try simp only [one_ne, zero_eq, if_false, if_true, or_true, true_or, or_false, false_or]
                refine c_isWithin (fun g3 g3' => ?_) (fun g3 => ?_)
                · try simp only [zwr_rne, zwr_req, upd_ne, upd_eq, ne_eq, Nat.reduceEqDiff, not_false_eq_true, cc, e4, hb, q3b, ge1] at g3
                  try simp only [zwr_rne, zwr_req, upd_ne, upd_eq, ne_eq, Nat.reduceEqDiff, not_false_eq_true, cc, e4, hb, q3b, ge1] at g3'
                  try omega
                  all_goals
                   try simp only [one_ne, zero_eq, if_false, if_true, or_true, true_or, or_false, false_or]
                   refine ⟨by first | assumption | exact vin (by omega) | exact vp_in_I.mpr (by omega), ?_⟩
                   refine zeq (fun g4 => ?_) (fun g4 => ?_)
                   · try simp only [zwr_rne, zwr_req, upd_ne, upd_eq, ne_eq, Nat.reduceEqDiff, not_false_eq_true, cc, e4, hb, q3b, ge1] at g4
                     try omega
                     all_goals
                      refine en_X12_guard ?_
                      try simp only [zwr_rne, zwr_req, upd_ne, upd_eq, ne_eq, Nat.reduceEqDiff, not_false_eq_true, cc, e4, hb, q3b, ge1]
                      refine m_isClaim (by first | omega | (simp only [zwr_rne, zwr_req, upd_ne, upd_eq, ne_eq, Nat.reduceEqDiff, not_false_eq_true, cc, e4, hb, q3b, ge1]; omega)) (fun g5 g5' => ?_) (fun g5 => ?_)
                      · try simp only [zwr_rne, zwr_req, upd_ne, upd_eq, ne_eq, Nat.reduceEqDiff, not_false_eq_true, cc, e4, hb, q3b, ge1] at g5
                        try simp only [zwr_rne, zwr_req, upd_ne, upd_eq, ne_eq, Nat.reduceEqDiff, not_false_eq_true, cc, e4, hb, q3b, ge1] at g5'
                        try omega
                        all_goals
                         try simp only [one_ne, zero_eq, if_false, if_true, or_true, true_or, or_false, false_or]
                         try simp only [zwr_rne, zwr_req, upd_ne, upd_eq, ne_eq, Nat.reduceEqDiff, not_false_eq_true, cc, e4, hb, q3b, ge1]
                         refine m_isFirm (by first | omega | (simp only [zwr_rne, zwr_req, upd_ne, upd_eq, ne_eq, Nat.reduceEqDiff, not_false_eq_true, cc, e4, hb, q3b, ge1]; omega)) (fun g6 g6' => ?_) (fun g6 => ?_)
                         · try simp only [zwr_rne, zwr_req, upd_ne, upd_eq, ne_eq, Nat.reduceEqDiff, not_false_eq_true, cc, e4, hb, q3b, ge1] at g6
                           try simp only [zwr_rne, zwr_req, upd_ne, upd_eq, ne_eq, Nat.reduceEqDiff, not_false_eq_true, cc, e4, hb, q3b, ge1] at g6'
                           try omega
                           all_goals
                            try simp only [one_ne, zero_eq, if_false, if_true, or_true, true_or, or_false, false_or]
                            try simp only [zwr_rne, zwr_req, upd_ne, upd_eq, ne_eq, Nat.reduceEqDiff, not_false_eq_true, cc, e4, hb, q3b, ge1]
                            refine m_isIn (fun g7 g7' => ?_) (fun g7 => ?_)
                            · try simp only [zwr_rne, zwr_req, upd_ne, upd_eq, ne_eq, Nat.reduceEqDiff, not_false_eq_true, cc, e4, hb, q3b, ge1] at g7
                              try simp only [zwr_rne, zwr_req, upd_ne, upd_eq, ne_eq, Nat.reduceEqDiff, not_false_eq_true, cc, e4, hb, q3b, ge1] at g7'
                              try omega
                              all_goals
                               try simp only [one_ne, zero_eq, if_false, if_true, or_true, true_or, or_false, false_or]
                               try simp only [zwr_rne, zwr_req, upd_ne, upd_eq, ne_eq, Nat.reduceEqDiff, not_false_eq_true, cc, e4, hb, q3b, ge1]
                               refine ⟨by first | assumption | exact vin (by omega) | exact vp_in_I.mpr (by omega), ?_⟩
                               refine zeq (fun g8 => ?_) (fun g8 => ?_)
                               · try simp only [zwr_rne, zwr_req, upd_ne, upd_eq, ne_eq, Nat.reduceEqDiff, not_false_eq_true, cc, e4, hb, q3b, ge1] at g8
                                 try omega
                                 all_goals
                                  try simp only [zwr_rne, zwr_req, upd_ne, upd_eq, ne_eq, Nat.reduceEqDiff, not_false_eq_true, cc, e4, hb, q3b, ge1]
                                  exact ⟨by first | rfl | trivial, hh⟩
                               · exfalso; (try simp only [zwr_rne, zwr_req, upd_ne, upd_eq, ne_eq, Nat.reduceEqDiff, not_false_eq_true, cc, e4, hb, q3b, ge1] at g8); omega
                            · exfalso; (try simp only [zwr_rne, zwr_req, upd_ne, upd_eq, ne_eq, Nat.reduceEqDiff, not_false_eq_true, cc, e4, hb, q3b, ge1] at g7); omega
                         · exfalso; (try simp only [zwr_rne, zwr_req, upd_ne, upd_eq, ne_eq, Nat.reduceEqDiff, not_false_eq_true, cc, e4, hb, q3b, ge1] at g6); omega
                      · exfalso; (try simp only [zwr_rne, zwr_req, upd_ne, upd_eq, ne_eq, Nat.reduceEqDiff, not_false_eq_true, cc, e4, hb, q3b, ge1] at g5); omega
                   · try simp only [zwr_rne, zwr_req, upd_ne, upd_eq, ne_eq, Nat.reduceEqDiff, not_false_eq_true, cc, e4, hb, q3b, ge1] at g4
                     try omega
                     all_goals
                      refine cr_holderOn kdh hc u3 ?_
                      try simp only [zwr_rne, zwr_req, upd_ne, upd_eq, ne_eq, Nat.reduceEqDiff, not_false_eq_true, cc, e4, hb, q3b, ge1]
                      refine zeq (fun g9 => ?_) (fun g9 => ?_)
                      · try simp only [zwr_rne, zwr_req, upd_ne, upd_eq, ne_eq, Nat.reduceEqDiff, not_false_eq_true, cc, e4, hb, q3b, ge1] at g9
                        try omega
                        all_goals
                         refine en_X12_guard ?_
                         try simp only [zwr_rne, zwr_req, upd_ne, upd_eq, ne_eq, Nat.reduceEqDiff, not_false_eq_true, cc, e4, hb, q3b, ge1]
                         refine m_isClaim (by first | omega | (simp only [zwr_rne, zwr_req, upd_ne, upd_eq, ne_eq, Nat.reduceEqDiff, not_false_eq_true, cc, e4, hb, q3b, ge1]; omega)) (fun g10 g10' => ?_) (fun g10 => ?_)
                         · try simp only [zwr_rne, zwr_req, upd_ne, upd_eq, ne_eq, Nat.reduceEqDiff, not_false_eq_true, cc, e4, hb, q3b, ge1] at g10
                           try simp only [zwr_rne, zwr_req, upd_ne, upd_eq, ne_eq, Nat.reduceEqDiff, not_false_eq_true, cc, e4, hb, q3b, ge1] at g10'
                           try omega
                           all_goals
                            try simp only [one_ne, zero_eq, if_false, if_true, or_true, true_or, or_false, false_or]
                            try simp only [zwr_rne, zwr_req, upd_ne, upd_eq, ne_eq, Nat.reduceEqDiff, not_false_eq_true, cc, e4, hb, q3b, ge1]
                            refine m_isFirm (by first | omega | (simp only [zwr_rne, zwr_req, upd_ne, upd_eq, ne_eq, Nat.reduceEqDiff, not_false_eq_true, cc, e4, hb, q3b, ge1]; omega)) (fun g11 g11' => ?_) (fun g11 => ?_)
                            · try simp only [zwr_rne, zwr_req, upd_ne, upd_eq, ne_eq, Nat.reduceEqDiff, not_false_eq_true, cc, e4, hb, q3b, ge1] at g11
                              try simp only [zwr_rne, zwr_req, upd_ne, upd_eq, ne_eq, Nat.reduceEqDiff, not_false_eq_true, cc, e4, hb, q3b, ge1] at g11'
                              try omega
                              all_goals
                               try simp only [one_ne, zero_eq, if_false, if_true, or_true, true_or, or_false, false_or]
                               try simp only [zwr_rne, zwr_req, upd_ne, upd_eq, ne_eq, Nat.reduceEqDiff, not_false_eq_true, cc, e4, hb, q3b, ge1]
                               refine m_isIn (fun g12 g12' => ?_) (fun g12 => ?_)
                               · try simp only [zwr_rne, zwr_req, upd_ne, upd_eq, ne_eq, Nat.reduceEqDiff, not_false_eq_true, cc, e4, hb, q3b, ge1] at g12
                                 try simp only [zwr_rne, zwr_req, upd_ne, upd_eq, ne_eq, Nat.reduceEqDiff, not_false_eq_true, cc, e4, hb, q3b, ge1] at g12'
                                 try omega
                                 all_goals
                                  try simp only [one_ne, zero_eq, if_false, if_true, or_true, true_or, or_false, false_or]
                                  try simp only [zwr_rne, zwr_req, upd_ne, upd_eq, ne_eq, Nat.reduceEqDiff, not_false_eq_true, cc, e4, hb, q3b, ge1]
                                  refine ⟨by first | assumption | exact vin (by omega) | exact vp_in_I.mpr (by omega), ?_⟩
                                  refine zeq (fun g13 => ?_) (fun g13 => ?_)
                                  · exfalso; (try simp only [zwr_rne, zwr_req, upd_ne, upd_eq, ne_eq, Nat.reduceEqDiff, not_false_eq_true, cc, e4, hb, q3b, ge1] at g13); omega
                                  · try simp only [zwr_rne, zwr_req, upd_ne, upd_eq, ne_eq, Nat.reduceEqDiff, not_false_eq_true, cc, e4, hb, q3b, ge1] at g13
                                    try omega
                                    all_goals
                                     try simp only [zwr_rne, zwr_req, upd_ne, upd_eq, ne_eq, Nat.reduceEqDiff, not_false_eq_true, cc, e4, hb, q3b, ge1]
                                     refine mr_holderOn hc u3 h2 h3 ?_
                                     try simp only [zwr_rne, zwr_req, upd_ne, upd_eq, ne_eq, Nat.reduceEqDiff, not_false_eq_true, cc, e4, hb, q3b, ge1]
                                     refine zeq (fun g14 => ?_) (fun g14 => ?_)
                                     · try simp only [zwr_rne, zwr_req, upd_ne, upd_eq, ne_eq, Nat.reduceEqDiff, not_false_eq_true, cc, e4, hb, q3b, ge1] at g14
                                       try omega
                                       all_goals
                                        try simp only [zwr_rne, zwr_req, upd_ne, upd_eq, ne_eq, Nat.reduceEqDiff, not_false_eq_true, cc, e4, hb, q3b, ge1]
                                        exact ⟨by first | rfl | trivial, hh⟩
                                     · exfalso; (try simp only [zwr_rne, zwr_req, upd_ne, upd_eq, ne_eq, Nat.reduceEqDiff, not_false_eq_true, cc, e4, hb, q3b, ge1] at g14); omega
                               · exfalso; (try simp only [zwr_rne, zwr_req, upd_ne, upd_eq, ne_eq, Nat.reduceEqDiff, not_false_eq_true, cc, e4, hb, q3b, ge1] at g12); omega
                            · exfalso; (try simp only [zwr_rne, zwr_req, upd_ne, upd_eq, ne_eq, Nat.reduceEqDiff, not_false_eq_true, cc, e4, hb, q3b, ge1] at g11); omega
                         · exfalso; (try simp only [zwr_rne, zwr_req, upd_ne, upd_eq, ne_eq, Nat.reduceEqDiff, not_false_eq_true, cc, e4, hb, q3b, ge1] at g10); omega
                      · try simp only [zwr_rne, zwr_req, upd_ne, upd_eq, ne_eq, Nat.reduceEqDiff, not_false_eq_true, cc, e4, hb, q3b, ge1] at g9
                        try omega
                        all_goals
                         refine ⟨by first | assumption | exact vin (by omega) | exact vp_in_I.mpr (by omega), ?_⟩
                         refine ⟨by first | assumption | exact vin (by omega) | exact vp_in_I.mpr (by omega), ?_⟩
                         refine ⟨by first | assumption | exact vin (by omega) | exact vp_in_I.mpr (by omega), ?_⟩
                         rintro _ rfl
                         try simp only [zwr_rne, zwr_req, upd_ne, upd_eq, ne_eq, Nat.reduceEqDiff, not_false_eq_true, cc, e4, hb, q3b, ge1]
                         refine c_changed ?_
                         try simp only [zwr_rne, zwr_req, upd_ne, upd_eq, ne_eq, Nat.reduceEqDiff, not_false_eq_true, cc, e4, hb, q3b, ge1]
                         refine en_X12_guard ?_
                         try simp only [zwr_rne, zwr_req, upd_ne, upd_eq, ne_eq, Nat.reduceEqDiff, not_false_eq_true, cc, e4, hb, q3b, ge1]
                         refine m_isClaim (by first | omega | (simp only [zwr_rne, zwr_req, upd_ne, upd_eq, ne_eq, Nat.reduceEqDiff, not_false_eq_true, cc, e4, hb, q3b, ge1]; omega)) (fun g15 g15' => ?_) (fun g15 => ?_)
                         · try simp only [zwr_rne, zwr_req, upd_ne, upd_eq, ne_eq, Nat.reduceEqDiff, not_false_eq_true, cc, e4, hb, q3b, ge1] at g15
                           try simp only [zwr_rne, zwr_req, upd_ne, upd_eq, ne_eq, Nat.reduceEqDiff, not_false_eq_true, cc, e4, hb, q3b, ge1] at g15'
                           try omega
                           all_goals
                            try simp only [one_ne, zero_eq, if_false, if_true, or_true, true_or, or_false, false_or]
                            try simp only [zwr_rne, zwr_req, upd_ne, upd_eq, ne_eq, Nat.reduceEqDiff, not_false_eq_true, cc, e4, hb, q3b, ge1]
                            refine m_isFirm (by first | omega | (simp only [zwr_rne, zwr_req, upd_ne, upd_eq, ne_eq, Nat.reduceEqDiff, not_false_eq_true, cc, e4, hb, q3b, ge1]; omega)) (fun g16 g16' => ?_) (fun g16 => ?_)
                            · try simp only [zwr_rne, zwr_req, upd_ne, upd_eq, ne_eq, Nat.reduceEqDiff, not_false_eq_true, cc, e4, hb, q3b, ge1] at g16
                              try simp only [zwr_rne, zwr_req, upd_ne, upd_eq, ne_eq, Nat.reduceEqDiff, not_false_eq_true, cc, e4, hb, q3b, ge1] at g16'
                              try omega
                              all_goals
                               try simp only [one_ne, zero_eq, if_false, if_true, or_true, true_or, or_false, false_or]
                               try simp only [zwr_rne, zwr_req, upd_ne, upd_eq, ne_eq, Nat.reduceEqDiff, not_false_eq_true, cc, e4, hb, q3b, ge1]
                               refine m_isIn (fun g17 g17' => ?_) (fun g17 => ?_)
                               · try simp only [zwr_rne, zwr_req, upd_ne, upd_eq, ne_eq, Nat.reduceEqDiff, not_false_eq_true, cc, e4, hb, q3b, ge1] at g17
                                 try simp only [zwr_rne, zwr_req, upd_ne, upd_eq, ne_eq, Nat.reduceEqDiff, not_false_eq_true, cc, e4, hb, q3b, ge1] at g17'
                                 try omega
                                 all_goals
                                  try simp only [one_ne, zero_eq, if_false, if_true, or_true, true_or, or_false, false_or]
                                  try simp only [zwr_rne, zwr_req, upd_ne, upd_eq, ne_eq, Nat.reduceEqDiff, not_false_eq_true, cc, e4, hb, q3b, ge1]
                                  refine ⟨by first | assumption | exact vin (by omega) | exact vp_in_I.mpr (by omega), ?_⟩
                                  refine zeq (fun g18 => ?_) (fun g18 => ?_)
                                  · exfalso; (try simp only [zwr_rne, zwr_req, upd_ne, upd_eq, ne_eq, Nat.reduceEqDiff, not_false_eq_true, cc, e4, hb, q3b, ge1] at g18); omega
                                  · try simp only [zwr_rne, zwr_req, upd_ne, upd_eq, ne_eq, Nat.reduceEqDiff, not_false_eq_true, cc, e4, hb, q3b, ge1] at g18
                                    try omega
                                    all_goals
                                     try simp only [zwr_rne, zwr_req, upd_ne, upd_eq, ne_eq, Nat.reduceEqDiff, not_false_eq_true, cc, e4, hb, q3b, ge1]
                                     refine mr_holderOn hc u3 h2 h3 ?_
                                     try simp only [zwr_rne, zwr_req, upd_ne, upd_eq, ne_eq, Nat.reduceEqDiff, not_false_eq_true, cc, e4, hb, q3b, ge1]
                                     refine zeq (fun g19 => ?_) (fun g19 => ?_)
                                     · exfalso; (try simp only [zwr_rne, zwr_req, upd_ne, upd_eq, ne_eq, Nat.reduceEqDiff, not_false_eq_true, cc, e4, hb, q3b, ge1] at g19); omega
                                     · try simp only [zwr_rne, zwr_req, upd_ne, upd_eq, ne_eq, Nat.reduceEqDiff, not_false_eq_true, cc, e4, hb, q3b, ge1] at g19
                                       try omega
                                       all_goals
                                        try simp only [zwr_rne, zwr_req, upd_ne, upd_eq, ne_eq, Nat.reduceEqDiff, not_false_eq_true, cc, e4, hb, q3b, ge1]
                                        refine ⟨by first | assumption | exact vin (by omega) | exact vp_in_I.mpr (by omega), ?_⟩
                                        refine zeq (fun g20 => ?_) (fun g20 => ?_)
                                        · try simp only [zwr_rne, zwr_req, upd_ne, upd_eq, ne_eq, Nat.reduceEqDiff, not_false_eq_true, cc, e4, hb, q3b, ge1] at g20
                                          try omega
                                          all_goals
                                           try simp only [zwr_rne, zwr_req, upd_ne, upd_eq, ne_eq, Nat.reduceEqDiff, not_false_eq_true, cc, e4, hb, q3b, ge1]
                                           refine ⟨by first | assumption | exact vin (by omega) | exact vp_in_I.mpr (by omega), ?_⟩
                                           refine ⟨by first | assumption | exact vin (by omega) | exact vp_in_I.mpr (by omega), ?_⟩
                                           rintro _ rfl
                                           try simp only [zwr_rne, zwr_req, upd_ne, upd_eq, ne_eq, Nat.reduceEqDiff, not_false_eq_true, cc, e4, hb, q3b, ge1]
                                           refine ⟨by first | rfl | trivial | assumption, ?_⟩
                                           unfold Rall
                                           simp only [zwr_rne, zwr_req, upd_ne, upd_eq, ne_eq, Nat.reduceEqDiff, not_false_eq_true]
                                           exact ⟨⟨k1, k2, k3, k4, k5, k6, k7, k8, k9⟩, kas, kcl.setG hc ge2 ge3, kda, kdh, kpl, kkp, ksh, kwt, ktp, klw, ksd, Rwx_stale, Rwx_stale⟩
                                        · try simp only [zwr_rne, zwr_req, upd_ne, upd_eq, ne_eq, Nat.reduceEqDiff, not_false_eq_true, cc, e4, hb, q3b, ge1] at g20
                                          try omega
                                          all_goals
                                           try simp only [zwr_rne, zwr_req, upd_ne, upd_eq, ne_eq, Nat.reduceEqDiff, not_false_eq_true, cc, e4, hb, q3b, ge1]
                                           refine ⟨by first | assumption | exact vin (by omega) | exact vp_in_I.mpr (by omega), ?_⟩
                                           refine ⟨by first | assumption | exact vin (by omega) | exact vp_in_I.mpr (by omega), ?_⟩
                                           rintro _ rfl
                                           try simp only [zwr_rne, zwr_req, upd_ne, upd_eq, ne_eq, Nat.reduceEqDiff, not_false_eq_true, cc, e4, hb, q3b, ge1]
                                           refine ⟨by first | rfl | trivial | assumption, ?_⟩
                                           unfold Rall
                                           simp only [zwr_rne, zwr_req, upd_ne, upd_eq, ne_eq, Nat.reduceEqDiff, not_false_eq_true]
                                           exact ⟨⟨k1, k2, k3, k4, k5, k6, k7, k8, k9⟩, kas, kcl.setG hc ge2 ge3, kda, kdh, kpl, kkp, ksh, kwt, ktp, klw, ksd, Rwx_stale, Rwx_stale⟩
                               · exfalso; (try simp only [zwr_rne, zwr_req, upd_ne, upd_eq, ne_eq, Nat.reduceEqDiff, not_false_eq_true, cc, e4, hb, q3b, ge1] at g17); omega
                            · exfalso; (try simp only [zwr_rne, zwr_req, upd_ne, upd_eq, ne_eq, Nat.reduceEqDiff, not_false_eq_true, cc, e4, hb, q3b, ge1] at g16); omega
                         · exfalso; (try simp only [zwr_rne, zwr_req, upd_ne, upd_eq, ne_eq, Nat.reduceEqDiff, not_false_eq_true, cc, e4, hb, q3b, ge1] at g15); omega
                · try simp only [zwr_rne, zwr_req, upd_ne, upd_eq, ne_eq, Nat.reduceEqDiff, not_false_eq_true, cc, e4, hb, q3b, ge1] at g3
                  try omega
                  all_goals
                   try simp only [one_ne, zero_eq, if_false, if_true, or_true, true_or, or_false, false_or]
                   refine en_X12_guard ?_
                   try simp only [zwr_rne, zwr_req, upd_ne, upd_eq, ne_eq, Nat.reduceEqDiff, not_false_eq_true, cc, e4, hb, q3b, ge1]
                   refine m_isClaim (by first | omega | (simp only [zwr_rne, zwr_req, upd_ne, upd_eq, ne_eq, Nat.reduceEqDiff, not_false_eq_true, cc, e4, hb, q3b, ge1]; omega)) (fun g21 g21' => ?_) (fun g21 => ?_)
                   · try simp only [zwr_rne, zwr_req, upd_ne, upd_eq, ne_eq, Nat.reduceEqDiff, not_false_eq_true, cc, e4, hb, q3b, ge1] at g21
                     try simp only [zwr_rne, zwr_req, upd_ne, upd_eq, ne_eq, Nat.reduceEqDiff, not_false_eq_true, cc, e4, hb, q3b, ge1] at g21'
                     try omega
                     all_goals
                      try simp only [one_ne, zero_eq, if_false, if_true, or_true, true_or, or_false, false_or]
                      try simp only [zwr_rne, zwr_req, upd_ne, upd_eq, ne_eq, Nat.reduceEqDiff, not_false_eq_true, cc, e4, hb, q3b, ge1]
                      refine m_isFirm (by first | omega | (simp only [zwr_rne, zwr_req, upd_ne, upd_eq, ne_eq, Nat.reduceEqDiff, not_false_eq_true, cc, e4, hb, q3b, ge1]; omega)) (fun g22 g22' => ?_) (fun g22 => ?_)
                      · try simp only [zwr_rne, zwr_req, upd_ne, upd_eq, ne_eq, Nat.reduceEqDiff, not_false_eq_true, cc, e4, hb, q3b, ge1] at g22
                        try simp only [zwr_rne, zwr_req, upd_ne, upd_eq, ne_eq, Nat.reduceEqDiff, not_false_eq_true, cc, e4, hb, q3b, ge1] at g22'
                        try omega
                        all_goals
                         try simp only [one_ne, zero_eq, if_false, if_true, or_true, true_or, or_false, false_or]
                         try simp only [zwr_rne, zwr_req, upd_ne, upd_eq, ne_eq, Nat.reduceEqDiff, not_false_eq_true, cc, e4, hb, q3b, ge1]
                         refine m_isIn (fun g23 g23' => ?_) (fun g23 => ?_)
                         · exfalso; (try simp only [zwr_rne, zwr_req, upd_ne, upd_eq, ne_eq, Nat.reduceEqDiff, not_false_eq_true, cc, e4, hb, q3b, ge1] at g23); (try simp only [zwr_rne, zwr_req, upd_ne, upd_eq, ne_eq, Nat.reduceEqDiff, not_false_eq_true, cc, e4, hb, q3b, ge1] at g23'); omega
                         · try simp only [zwr_rne, zwr_req, upd_ne, upd_eq, ne_eq, Nat.reduceEqDiff, not_false_eq_true, cc, e4, hb, q3b, ge1] at g23
                           try omega
                           all_goals
                            try simp only [one_ne, zero_eq, if_false, if_true, or_true, true_or, or_false, false_or]
                            try simp only [zwr_rne, zwr_req, upd_ne, upd_eq, ne_eq, Nat.reduceEqDiff, not_false_eq_true, cc, e4, hb, q3b, ge1]
                            exact ⟨by first | rfl | trivial, hh⟩
                      · exfalso; (try simp only [zwr_rne, zwr_req, upd_ne, upd_eq, ne_eq, Nat.reduceEqDiff, not_false_eq_true, cc, e4, hb, q3b, ge1] at g22); omega
                   · exfalso; (try simp only [zwr_rne, zwr_req, upd_ne, upd_eq, ne_eq, Nat.reduceEqDiff, not_false_eq_true, cc, e4, hb, q3b, ge1] at g21); omega
             · try simp only [zwr_rne, zwr_req, upd_ne, upd_eq, ne_eq, Nat.reduceEqDiff, not_false_eq_true, cc, e4, hb, q3b, ge1] at g2
               try omega
               all_goals
                try simp only [one_ne, zero_eq, if_false, if_true, or_true, true_or, or_false, false_or]
                refine en_X12_guard ?_
                try simp only [zwr_rne, zwr_req, upd_ne, upd_eq, ne_eq, Nat.reduceEqDiff, not_false_eq_true, cc, e4, hb, q3b, ge1]
                refine m_isClaim (by first | omega | (simp only [zwr_rne, zwr_req, upd_ne, upd_eq, ne_eq, Nat.reduceEqDiff, not_false_eq_true, cc, e4, hb, q3b, ge1]; omega)) (fun g24 g24' => ?_) (fun g24 => ?_)
                · try simp only [zwr_rne, zwr_req, upd_ne, upd_eq, ne_eq, Nat.reduceEqDiff, not_false_eq_true, cc, e4, hb, q3b, ge1] at g24
                  try simp only [zwr_rne, zwr_req, upd_ne, upd_eq, ne_eq, Nat.reduceEqDiff, not_false_eq_true, cc, e4, hb, q3b, ge1] at g24'
                  try omega
                  all_goals
                   try simp only [one_ne, zero_eq, if_false, if_true, or_true, true_or, or_false, false_or]
                   try simp only [zwr_rne, zwr_req, upd_ne, upd_eq, ne_eq, Nat.reduceEqDiff, not_false_eq_true, cc, e4, hb, q3b, ge1]
                   refine m_isFirm (by first | omega | (simp only [zwr_rne, zwr_req, upd_ne, upd_eq, ne_eq, Nat.reduceEqDiff, not_false_eq_true, cc, e4, hb, q3b, ge1]; omega)) (fun g25 g25' => ?_) (fun g25 => ?_)
                   · exfalso; (try simp only [zwr_rne, zwr_req, upd_ne, upd_eq, ne_eq, Nat.reduceEqDiff, not_false_eq_true, cc, e4, hb, q3b, ge1] at g25); (try simp only [zwr_rne, zwr_req, upd_ne, upd_eq, ne_eq, Nat.reduceEqDiff, not_false_eq_true, cc, e4, hb, q3b, ge1] at g25'); omega
                   · try simp only [zwr_rne, zwr_req, upd_ne, upd_eq, ne_eq, Nat.reduceEqDiff, not_false_eq_true, cc, e4, hb, q3b, ge1] at g25
                     try omega
                     all_goals
                      try simp only [one_ne, zero_eq, if_false, if_true, or_true, true_or, or_false, false_or]
                      try simp only [zwr_rne, zwr_req, upd_ne, upd_eq, ne_eq, Nat.reduceEqDiff, not_false_eq_true, cc, e4, hb, q3b, ge1]
                      exact ⟨by first | rfl | trivial, hh⟩
                · exfalso; (try simp only [zwr_rne, zwr_req, upd_ne, upd_eq, ne_eq, Nat.reduceEqDiff, not_false_eq_true, cc, e4, hb, q3b, ge1] at g24); omega
          · try simp only [zwr_rne, zwr_req, upd_ne, upd_eq, ne_eq, Nat.reduceEqDiff, not_false_eq_true, cc, e4, hb, q3b, ge1] at g1
            try omega
            all_goals
             try simp only [one_ne, zero_eq, if_false, if_true, or_true, true_or, or_false, false_or]
             refine en_X12_guard ?_
             try simp only [zwr_rne, zwr_req, upd_ne, upd_eq, ne_eq, Nat.reduceEqDiff, not_false_eq_true, cc, e4, hb, q3b, ge1]
             refine m_isClaim (by first | omega | (simp only [zwr_rne, zwr_req, upd_ne, upd_eq, ne_eq, Nat.reduceEqDiff, not_false_eq_true, cc, e4, hb, q3b, ge1]; omega)) (fun g26 g26' => ?_) (fun g26 => ?_)
             · exfalso; (try simp only [zwr_rne, zwr_req, upd_ne, upd_eq, ne_eq, Nat.reduceEqDiff, not_false_eq_true, cc, e4, hb, q3b, ge1] at g26); (try simp only [zwr_rne, zwr_req, upd_ne, upd_eq, ne_eq, Nat.reduceEqDiff, not_false_eq_true, cc, e4, hb, q3b, ge1] at g26'); omega
             · try simp only [zwr_rne, zwr_req, upd_ne, upd_eq, ne_eq, Nat.reduceEqDiff, not_false_eq_true, cc, e4, hb, q3b, ge1] at g26
               try omega
               all_goals
                try simp only [one_ne, zero_eq, if_false, if_true, or_true, true_or, or_false, false_or]
                try simp only [zwr_rne, zwr_req, upd_ne, upd_eq, ne_eq, Nat.reduceEqDiff, not_false_eq_true, cc, e4, hb, q3b, ge1]
                exact ⟨by first | rfl | trivial, hh⟩
      · refine en_X11_guard ?_
        try simp only [zwr_rne, zwr_req, upd_ne, upd_eq, ne_eq, Nat.reduceEqDiff, not_false_eq_true, cc]
        refine c_hasC (fun g1 g1' => ?_) (fun g1 => ?_)
        · try simp only [zwr_rne, zwr_req, upd_ne, upd_eq, ne_eq, Nat.reduceEqDiff, not_false_eq_true, cc] at g1
          try simp only [zwr_rne, zwr_req, upd_ne, upd_eq, ne_eq, Nat.reduceEqDiff, not_false_eq_true, cc] at g1'
          try omega
          all_goals
           try simp only [one_ne, zero_eq, if_false, if_true, or_true, true_or, or_false, false_or]
           refine c_isFirm (fun g2 g2' => ?_) (fun g2 => ?_)
           · try simp only [zwr_rne, zwr_req, upd_ne, upd_eq, ne_eq, Nat.reduceEqDiff, not_false_eq_true, cc] at g2
             try simp only [zwr_rne, zwr_req, upd_ne, upd_eq, ne_eq, Nat.reduceEqDiff, not_false_eq_true, cc] at g2'
             try omega
             all_goals
              try simp only [one_ne, zero_eq, if_false, if_true, or_true, true_or, or_false, false_or]
              refine c_isWithin (fun g3 g3' => ?_) (fun g3 => ?_)
              · try simp only [zwr_rne, zwr_req, upd_ne, upd_eq, ne_eq, Nat.reduceEqDiff, not_false_eq_true, cc] at g3
                try simp only [zwr_rne, zwr_req, upd_ne, upd_eq, ne_eq, Nat.reduceEqDiff, not_false_eq_true, cc] at g3'
                try omega
                all_goals
                 try simp only [one_ne, zero_eq, if_false, if_true, or_true, true_or, or_false, false_or]
                 refine ⟨by first | assumption | exact vin (by omega) | exact vp_in_I.mpr (by omega), ?_⟩
                 refine zeq (fun g4 => ?_) (fun g4 => ?_)
                 · try simp only [zwr_rne, zwr_req, upd_ne, upd_eq, ne_eq, Nat.reduceEqDiff, not_false_eq_true, cc] at g4
                   try omega
                   all_goals
                    refine en_X12_guard ?_
                    try simp only [zwr_rne, zwr_req, upd_ne, upd_eq, ne_eq, Nat.reduceEqDiff, not_false_eq_true, cc]
                    refine m_isClaim (by first | omega | (simp only [zwr_rne, zwr_req, upd_ne, upd_eq, ne_eq, Nat.reduceEqDiff, not_false_eq_true, cc]; omega)) (fun g5 g5' => ?_) (fun g5 => ?_)
                    · try simp only [zwr_rne, zwr_req, upd_ne, upd_eq, ne_eq, Nat.reduceEqDiff, not_false_eq_true, cc] at g5
                      try simp only [zwr_rne, zwr_req, upd_ne, upd_eq, ne_eq, Nat.reduceEqDiff, not_false_eq_true, cc] at g5'
                      try omega
                      all_goals
                       try simp only [one_ne, zero_eq, if_false, if_true, or_true, true_or, or_false, false_or]
                       try simp only [zwr_rne, zwr_req, upd_ne, upd_eq, ne_eq, Nat.reduceEqDiff, not_false_eq_true, cc]
                       refine m_isFirm (by first | omega | (simp only [zwr_rne, zwr_req, upd_ne, upd_eq, ne_eq, Nat.reduceEqDiff, not_false_eq_true, cc]; omega)) (fun g6 g6' => ?_) (fun g6 => ?_)
                       · try simp only [zwr_rne, zwr_req, upd_ne, upd_eq, ne_eq, Nat.reduceEqDiff, not_false_eq_true, cc] at g6
                         try simp only [zwr_rne, zwr_req, upd_ne, upd_eq, ne_eq, Nat.reduceEqDiff, not_false_eq_true, cc] at g6'
                         try omega
                         all_goals
                          try simp only [one_ne, zero_eq, if_false, if_true, or_true, true_or, or_false, false_or]
                          try simp only [zwr_rne, zwr_req, upd_ne, upd_eq, ne_eq, Nat.reduceEqDiff, not_false_eq_true, cc]
                          refine m_isIn (fun g7 g7' => ?_) (fun g7 => ?_)
                          · try simp only [zwr_rne, zwr_req, upd_ne, upd_eq, ne_eq, Nat.reduceEqDiff, not_false_eq_true, cc] at g7
                            try simp only [zwr_rne, zwr_req, upd_ne, upd_eq, ne_eq, Nat.reduceEqDiff, not_false_eq_true, cc] at g7'
                            try omega
                            all_goals
                             try simp only [one_ne, zero_eq, if_false, if_true, or_true, true_or, or_false, false_or]
                             try simp only [zwr_rne, zwr_req, upd_ne, upd_eq, ne_eq, Nat.reduceEqDiff, not_false_eq_true, cc]
                             refine ⟨by first | assumption | exact vin (by omega) | exact vp_in_I.mpr (by omega), ?_⟩
                             refine zeq (fun g8 => ?_) (fun g8 => ?_)
                             · try simp only [zwr_rne, zwr_req, upd_ne, upd_eq, ne_eq, Nat.reduceEqDiff, not_false_eq_true, cc] at g8
                               try omega
                               all_goals
                                try simp only [zwr_rne, zwr_req, upd_ne, upd_eq, ne_eq, Nat.reduceEqDiff, not_false_eq_true, cc]
                                exact ⟨by first | rfl | trivial, hh⟩
                             · exfalso; (try simp only [zwr_rne, zwr_req, upd_ne, upd_eq, ne_eq, Nat.reduceEqDiff, not_false_eq_true, cc] at g8); omega
                          · exfalso; (try simp only [zwr_rne, zwr_req, upd_ne, upd_eq, ne_eq, Nat.reduceEqDiff, not_false_eq_true, cc] at g7); omega
                       · exfalso; (try simp only [zwr_rne, zwr_req, upd_ne, upd_eq, ne_eq, Nat.reduceEqDiff, not_false_eq_true, cc] at g6); omega
                    · exfalso; (try simp only [zwr_rne, zwr_req, upd_ne, upd_eq, ne_eq, Nat.reduceEqDiff, not_false_eq_true, cc] at g5); omega
                 · try simp only [zwr_rne, zwr_req, upd_ne, upd_eq, ne_eq, Nat.reduceEqDiff, not_false_eq_true, cc] at g4
                   try omega
                   all_goals
                    exfalso; omega
                    try simp only [zwr_rne, zwr_req, upd_ne, upd_eq, ne_eq, Nat.reduceEqDiff, not_false_eq_true, cc]
                    refine zeq (fun g9 => ?_) (fun g9 => ?_)
                    · try simp only [zwr_rne, zwr_req, upd_ne, upd_eq, ne_eq, Nat.reduceEqDiff, not_false_eq_true, cc] at g9
                      try omega
                      all_goals
                       refine en_X12_guard ?_
                       try simp only [zwr_rne, zwr_req, upd_ne, upd_eq, ne_eq, Nat.reduceEqDiff, not_false_eq_true, cc]
                       refine m_isClaim (by first | omega | (simp only [zwr_rne, zwr_req, upd_ne, upd_eq, ne_eq, Nat.reduceEqDiff, not_false_eq_true, cc]; omega)) (fun g10 g10' => ?_) (fun g10 => ?_)
                       · try simp only [zwr_rne, zwr_req, upd_ne, upd_eq, ne_eq, Nat.reduceEqDiff, not_false_eq_true, cc] at g10
                         try simp only [zwr_rne, zwr_req, upd_ne, upd_eq, ne_eq, Nat.reduceEqDiff, not_false_eq_true, cc] at g10'
                         try omega
                         all_goals
                          try simp only [one_ne, zero_eq, if_false, if_true, or_true, true_or, or_false, false_or]
                          try simp only [zwr_rne, zwr_req, upd_ne, upd_eq, ne_eq, Nat.reduceEqDiff, not_false_eq_true, cc]
                          refine m_isFirm (by first | omega | (simp only [zwr_rne, zwr_req, upd_ne, upd_eq, ne_eq, Nat.reduceEqDiff, not_false_eq_true, cc]; omega)) (fun g11 g11' => ?_) (fun g11 => ?_)
                          · try simp only [zwr_rne, zwr_req, upd_ne, upd_eq, ne_eq, Nat.reduceEqDiff, not_false_eq_true, cc] at g11
                            try simp only [zwr_rne, zwr_req, upd_ne, upd_eq, ne_eq, Nat.reduceEqDiff, not_false_eq_true, cc] at g11'
                            try omega
                            all_goals
                             try simp only [one_ne, zero_eq, if_false, if_true, or_true, true_or, or_false, false_or]
                             try simp only [zwr_rne, zwr_req, upd_ne, upd_eq, ne_eq, Nat.reduceEqDiff, not_false_eq_true, cc]
                             refine m_isIn (fun g12 g12' => ?_) (fun g12 => ?_)
                             · try simp only [zwr_rne, zwr_req, upd_ne, upd_eq, ne_eq, Nat.reduceEqDiff, not_false_eq_true, cc] at g12
                               try simp only [zwr_rne, zwr_req, upd_ne, upd_eq, ne_eq, Nat.reduceEqDiff, not_false_eq_true, cc] at g12'
                               try omega
                               all_goals
                                try simp only [one_ne, zero_eq, if_false, if_true, or_true, true_or, or_false, false_or]
                                try simp only [zwr_rne, zwr_req, upd_ne, upd_eq, ne_eq, Nat.reduceEqDiff, not_false_eq_true, cc]
                                refine ⟨by first | assumption | exact vin (by omega) | exact vp_in_I.mpr (by omega), ?_⟩
                                refine zeq (fun g13 => ?_) (fun g13 => ?_)
                                · exfalso; (try simp only [zwr_rne, zwr_req, upd_ne, upd_eq, ne_eq, Nat.reduceEqDiff, not_false_eq_true, cc] at g13); omega
                                · try simp only [zwr_rne, zwr_req, upd_ne, upd_eq, ne_eq, Nat.reduceEqDiff, not_false_eq_true, cc] at g13
                                  try omega
                                  all_goals
                                   try simp only [zwr_rne, zwr_req, upd_ne, upd_eq, ne_eq, Nat.reduceEqDiff, not_false_eq_true, cc]
                                   exfalso; omega
                                   try simp only [zwr_rne, zwr_req, upd_ne, upd_eq, ne_eq, Nat.reduceEqDiff, not_false_eq_true, cc]
                                   refine zeq (fun g14 => ?_) (fun g14 => ?_)
                                   · try simp only [zwr_rne, zwr_req, upd_ne, upd_eq, ne_eq, Nat.reduceEqDiff, not_false_eq_true, cc] at g14
                                     try omega
                                     all_goals
                                      try simp only [zwr_rne, zwr_req, upd_ne, upd_eq, ne_eq, Nat.reduceEqDiff, not_false_eq_true, cc]
                                      exact ⟨by first | rfl | trivial, hh⟩
                                   · exfalso; (try simp only [zwr_rne, zwr_req, upd_ne, upd_eq, ne_eq, Nat.reduceEqDiff, not_false_eq_true, cc] at g14); omega
                             · exfalso; (try simp only [zwr_rne, zwr_req, upd_ne, upd_eq, ne_eq, Nat.reduceEqDiff, not_false_eq_true, cc] at g12); omega
                          · exfalso; (try simp only [zwr_rne, zwr_req, upd_ne, upd_eq, ne_eq, Nat.reduceEqDiff, not_false_eq_true, cc] at g11); omega
                       · exfalso; (try simp only [zwr_rne, zwr_req, upd_ne, upd_eq, ne_eq, Nat.reduceEqDiff, not_false_eq_true, cc] at g10); omega
                    · try simp only [zwr_rne, zwr_req, upd_ne, upd_eq, ne_eq, Nat.reduceEqDiff, not_false_eq_true, cc] at g9
                      try omega
                      all_goals
                       refine ⟨by first | assumption | exact vin (by omega) | exact vp_in_I.mpr (by omega), ?_⟩
                       refine ⟨by first | assumption | exact vin (by omega) | exact vp_in_I.mpr (by omega), ?_⟩
                       refine ⟨by first | assumption | exact vin (by omega) | exact vp_in_I.mpr (by omega), ?_⟩
                       rintro _ rfl
                       try simp only [zwr_rne, zwr_req, upd_ne, upd_eq, ne_eq, Nat.reduceEqDiff, not_false_eq_true, cc]
                       refine c_changed ?_
                       try simp only [zwr_rne, zwr_req, upd_ne, upd_eq, ne_eq, Nat.reduceEqDiff, not_false_eq_true, cc]
                       refine en_X12_guard ?_
                       try simp only [zwr_rne, zwr_req, upd_ne, upd_eq, ne_eq, Nat.reduceEqDiff, not_false_eq_true, cc]
                       refine m_isClaim (by first | omega | (simp only [zwr_rne, zwr_req, upd_ne, upd_eq, ne_eq, Nat.reduceEqDiff, not_false_eq_true, cc]; omega)) (fun g15 g15' => ?_) (fun g15 => ?_)
                       · try simp only [zwr_rne, zwr_req, upd_ne, upd_eq, ne_eq, Nat.reduceEqDiff, not_false_eq_true, cc] at g15
                         try simp only [zwr_rne, zwr_req, upd_ne, upd_eq, ne_eq, Nat.reduceEqDiff, not_false_eq_true, cc] at g15'
                         try omega
                         all_goals
                          try simp only [one_ne, zero_eq, if_false, if_true, or_true, true_or, or_false, false_or]
                          try simp only [zwr_rne, zwr_req, upd_ne, upd_eq, ne_eq, Nat.reduceEqDiff, not_false_eq_true, cc]
                          refine m_isFirm (by first | omega | (simp only [zwr_rne, zwr_req, upd_ne, upd_eq, ne_eq, Nat.reduceEqDiff, not_false_eq_true, cc]; omega)) (fun g16 g16' => ?_) (fun g16 => ?_)
                          · try simp only [zwr_rne, zwr_req, upd_ne, upd_eq, ne_eq, Nat.reduceEqDiff, not_false_eq_true, cc] at g16
                            try simp only [zwr_rne, zwr_req, upd_ne, upd_eq, ne_eq, Nat.reduceEqDiff, not_false_eq_true, cc] at g16'
                            try omega
                            all_goals
                             try simp only [one_ne, zero_eq, if_false, if_true, or_true, true_or, or_false, false_or]
                             try simp only [zwr_rne, zwr_req, upd_ne, upd_eq, ne_eq, Nat.reduceEqDiff, not_false_eq_true, cc]
                             refine m_isIn (fun g17 g17' => ?_) (fun g17 => ?_)
                             · try simp only [zwr_rne, zwr_req, upd_ne, upd_eq, ne_eq, Nat.reduceEqDiff, not_false_eq_true, cc] at g17
                               try simp only [zwr_rne, zwr_req, upd_ne, upd_eq, ne_eq, Nat.reduceEqDiff, not_false_eq_true, cc] at g17'
                               try omega
                               all_goals
                                try simp only [one_ne, zero_eq, if_false, if_true, or_true, true_or, or_false, false_or]
                                try simp only [zwr_rne, zwr_req, upd_ne, upd_eq, ne_eq, Nat.reduceEqDiff, not_false_eq_true, cc]
                                refine ⟨by first | assumption | exact vin (by omega) | exact vp_in_I.mpr (by omega), ?_⟩
                                refine zeq (fun g18 => ?_) (fun g18 => ?_)
                                · exfalso; (try simp only [zwr_rne, zwr_req, upd_ne, upd_eq, ne_eq, Nat.reduceEqDiff, not_false_eq_true, cc] at g18); omega
                                · try simp only [zwr_rne, zwr_req, upd_ne, upd_eq, ne_eq, Nat.reduceEqDiff, not_false_eq_true, cc] at g18
                                  try omega
                                  all_goals
                                   try simp only [zwr_rne, zwr_req, upd_ne, upd_eq, ne_eq, Nat.reduceEqDiff, not_false_eq_true, cc]
                                   exfalso; omega
                                   try simp only [zwr_rne, zwr_req, upd_ne, upd_eq, ne_eq, Nat.reduceEqDiff, not_false_eq_true, cc]
                                   refine zeq (fun g19 => ?_) (fun g19 => ?_)
                                   · exfalso; (try simp only [zwr_rne, zwr_req, upd_ne, upd_eq, ne_eq, Nat.reduceEqDiff, not_false_eq_true, cc] at g19); omega
                                   · try simp only [zwr_rne, zwr_req, upd_ne, upd_eq, ne_eq, Nat.reduceEqDiff, not_false_eq_true, cc] at g19
                                     try omega
                                     all_goals
                                      try simp only [zwr_rne, zwr_req, upd_ne, upd_eq, ne_eq, Nat.reduceEqDiff, not_false_eq_true, cc]
                                      refine ⟨by first | assumption | exact vin (by omega) | exact vp_in_I.mpr (by omega), ?_⟩
                                      refine zeq (fun g20 => ?_) (fun g20 => ?_)
                                      · try simp only [zwr_rne, zwr_req, upd_ne, upd_eq, ne_eq, Nat.reduceEqDiff, not_false_eq_true, cc] at g20
                                        try omega
                                        all_goals
                                         try simp only [zwr_rne, zwr_req, upd_ne, upd_eq, ne_eq, Nat.reduceEqDiff, not_false_eq_true, cc]
                                         refine ⟨by first | assumption | exact vin (by omega) | exact vp_in_I.mpr (by omega), ?_⟩
                                         refine ⟨by first | assumption | exact vin (by omega) | exact vp_in_I.mpr (by omega), ?_⟩
                                         rintro _ rfl
                                         try simp only [zwr_rne, zwr_req, upd_ne, upd_eq, ne_eq, Nat.reduceEqDiff, not_false_eq_true, cc]
                                         exact ⟨by first | rfl | trivial, hh⟩
                                      · try simp only [zwr_rne, zwr_req, upd_ne, upd_eq, ne_eq, Nat.reduceEqDiff, not_false_eq_true, cc] at g20
                                        try omega
                                        all_goals
                                         try simp only [zwr_rne, zwr_req, upd_ne, upd_eq, ne_eq, Nat.reduceEqDiff, not_false_eq_true, cc]
                                         refine ⟨by first | assumption | exact vin (by omega) | exact vp_in_I.mpr (by omega), ?_⟩
                                         refine ⟨by first | assumption | exact vin (by omega) | exact vp_in_I.mpr (by omega), ?_⟩
                                         rintro _ rfl
                                         try simp only [zwr_rne, zwr_req, upd_ne, upd_eq, ne_eq, Nat.reduceEqDiff, not_false_eq_true, cc]
                                         exact ⟨by first | rfl | trivial, hh⟩
                             · exfalso; (try simp only [zwr_rne, zwr_req, upd_ne, upd_eq, ne_eq, Nat.reduceEqDiff, not_false_eq_true, cc] at g17); omega
                          · exfalso; (try simp only [zwr_rne, zwr_req, upd_ne, upd_eq, ne_eq, Nat.reduceEqDiff, not_false_eq_true, cc] at g16); omega
                       · exfalso; (try simp only [zwr_rne, zwr_req, upd_ne, upd_eq, ne_eq, Nat.reduceEqDiff, not_false_eq_true, cc] at g15); omega
              · try simp only [zwr_rne, zwr_req, upd_ne, upd_eq, ne_eq, Nat.reduceEqDiff, not_false_eq_true, cc] at g3
                try omega
                all_goals
                 try simp only [one_ne, zero_eq, if_false, if_true, or_true, true_or, or_false, false_or]
                 refine en_X12_guard ?_
                 try simp only [zwr_rne, zwr_req, upd_ne, upd_eq, ne_eq, Nat.reduceEqDiff, not_false_eq_true, cc]
                 refine m_isClaim (by first | omega | (simp only [zwr_rne, zwr_req, upd_ne, upd_eq, ne_eq, Nat.reduceEqDiff, not_false_eq_true, cc]; omega)) (fun g21 g21' => ?_) (fun g21 => ?_)
                 · try simp only [zwr_rne, zwr_req, upd_ne, upd_eq, ne_eq, Nat.reduceEqDiff, not_false_eq_true, cc] at g21
                   try simp only [zwr_rne, zwr_req, upd_ne, upd_eq, ne_eq, Nat.reduceEqDiff, not_false_eq_true, cc] at g21'
                   try omega
                   all_goals
                    try simp only [one_ne, zero_eq, if_false, if_true, or_true, true_or, or_false, false_or]
                    try simp only [zwr_rne, zwr_req, upd_ne, upd_eq, ne_eq, Nat.reduceEqDiff, not_false_eq_true, cc]
                    refine m_isFirm (by first | omega | (simp only [zwr_rne, zwr_req, upd_ne, upd_eq, ne_eq, Nat.reduceEqDiff, not_false_eq_true, cc]; omega)) (fun g22 g22' => ?_) (fun g22 => ?_)
                    · try simp only [zwr_rne, zwr_req, upd_ne, upd_eq, ne_eq, Nat.reduceEqDiff, not_false_eq_true, cc] at g22
                      try simp only [zwr_rne, zwr_req, upd_ne, upd_eq, ne_eq, Nat.reduceEqDiff, not_false_eq_true, cc] at g22'
                      try omega
                      all_goals
                       try simp only [one_ne, zero_eq, if_false, if_true, or_true, true_or, or_false, false_or]
                       try simp only [zwr_rne, zwr_req, upd_ne, upd_eq, ne_eq, Nat.reduceEqDiff, not_false_eq_true, cc]
                       refine m_isIn (fun g23 g23' => ?_) (fun g23 => ?_)
                       · exfalso; (try simp only [zwr_rne, zwr_req, upd_ne, upd_eq, ne_eq, Nat.reduceEqDiff, not_false_eq_true, cc] at g23); (try simp only [zwr_rne, zwr_req, upd_ne, upd_eq, ne_eq, Nat.reduceEqDiff, not_false_eq_true, cc] at g23'); omega
                       · try simp only [zwr_rne, zwr_req, upd_ne, upd_eq, ne_eq, Nat.reduceEqDiff, not_false_eq_true, cc] at g23
                         try omega
                         all_goals
                          try simp only [one_ne, zero_eq, if_false, if_true, or_true, true_or, or_false, false_or]
                          try simp only [zwr_rne, zwr_req, upd_ne, upd_eq, ne_eq, Nat.reduceEqDiff, not_false_eq_true, cc]
                          exact ⟨by first | rfl | trivial, hh⟩
                    · exfalso; (try simp only [zwr_rne, zwr_req, upd_ne, upd_eq, ne_eq, Nat.reduceEqDiff, not_false_eq_true, cc] at g22); omega
                 · exfalso; (try simp only [zwr_rne, zwr_req, upd_ne, upd_eq, ne_eq, Nat.reduceEqDiff, not_false_eq_true, cc] at g21); omega
           · try simp only [zwr_rne, zwr_req, upd_ne, upd_eq, ne_eq, Nat.reduceEqDiff, not_false_eq_true, cc] at g2
             try omega
             all_goals
              try simp only [one_ne, zero_eq, if_false, if_true, or_true, true_or, or_false, false_or]
              refine en_X12_guard ?_
              try simp only [zwr_rne, zwr_req, upd_ne, upd_eq, ne_eq, Nat.reduceEqDiff, not_false_eq_true, cc]
              refine m_isClaim (by first | omega | (simp only [zwr_rne, zwr_req, upd_ne, upd_eq, ne_eq, Nat.reduceEqDiff, not_false_eq_true, cc]; omega)) (fun g24 g24' => ?_) (fun g24 => ?_)
              · try simp only [zwr_rne, zwr_req, upd_ne, upd_eq, ne_eq, Nat.reduceEqDiff, not_false_eq_true, cc] at g24
                try simp only [zwr_rne, zwr_req, upd_ne, upd_eq, ne_eq, Nat.reduceEqDiff, not_false_eq_true, cc] at g24'
                try omega
                all_goals
                 try simp only [one_ne, zero_eq, if_false, if_true, or_true, true_or, or_false, false_or]
                 try simp only [zwr_rne, zwr_req, upd_ne, upd_eq, ne_eq, Nat.reduceEqDiff, not_false_eq_true, cc]
                 refine m_isFirm (by first | omega | (simp only [zwr_rne, zwr_req, upd_ne, upd_eq, ne_eq, Nat.reduceEqDiff, not_false_eq_true, cc]; omega)) (fun g25 g25' => ?_) (fun g25 => ?_)
                 · exfalso; (try simp only [zwr_rne, zwr_req, upd_ne, upd_eq, ne_eq, Nat.reduceEqDiff, not_false_eq_true, cc] at g25); (try simp only [zwr_rne, zwr_req, upd_ne, upd_eq, ne_eq, Nat.reduceEqDiff, not_false_eq_true, cc] at g25'); omega
                 · try simp only [zwr_rne, zwr_req, upd_ne, upd_eq, ne_eq, Nat.reduceEqDiff, not_false_eq_true, cc] at g25
                   try omega
                   all_goals
                    try simp only [one_ne, zero_eq, if_false, if_true, or_true, true_or, or_false, false_or]
                    try simp only [zwr_rne, zwr_req, upd_ne, upd_eq, ne_eq, Nat.reduceEqDiff, not_false_eq_true, cc]
                    exact ⟨by first | rfl | trivial, hh⟩
              · exfalso; (try simp only [zwr_rne, zwr_req, upd_ne, upd_eq, ne_eq, Nat.reduceEqDiff, not_false_eq_true, cc] at g24); omega
        · try simp only [zwr_rne, zwr_req, upd_ne, upd_eq, ne_eq, Nat.reduceEqDiff, not_false_eq_true, cc] at g1
          try omega
          all_goals
           try simp only [one_ne, zero_eq, if_false, if_true, or_true, true_or, or_false, false_or]
           refine en_X12_guard ?_
           try simp only [zwr_rne, zwr_req, upd_ne, upd_eq, ne_eq, Nat.reduceEqDiff, not_false_eq_true, cc]
           refine m_isClaim (by first | omega | (simp only [zwr_rne, zwr_req, upd_ne, upd_eq, ne_eq, Nat.reduceEqDiff, not_false_eq_true, cc]; omega)) (fun g26 g26' => ?_) (fun g26 => ?_)
           · exfalso; (try simp only [zwr_rne, zwr_req, upd_ne, upd_eq, ne_eq, Nat.reduceEqDiff, not_false_eq_true, cc] at g26); (try simp only [zwr_rne, zwr_req, upd_ne, upd_eq, ne_eq, Nat.reduceEqDiff, not_false_eq_true, cc] at g26'); omega
           · try simp only [zwr_rne, zwr_req, upd_ne, upd_eq, ne_eq, Nat.reduceEqDiff, not_false_eq_true, cc] at g26
             try omega
             all_goals
              try simp only [one_ne, zero_eq, if_false, if_true, or_true, true_or, or_false, false_or]
              try simp only [zwr_rne, zwr_req, upd_ne, upd_eq, ne_eq, Nat.reduceEqDiff, not_false_eq_true, cc]
              exact ⟨by first | rfl | trivial, hh⟩
