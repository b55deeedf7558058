theorem zwr_self {σ : zMem} {k j : Nat} : zwr σ k j (σ k j) = σ := by
  funext a b
  simp only [zwr]
  split
  · rename_i h; rw [h.1, h.2]
  · rfl
theorem zwr_zwr {σ : zMem} {k j : Nat} {x y : Int32} : zwr (zwr σ k j x) k j y = zwr σ k j y := by
  funext a b
  simp only [zwr]
  split <;> rfl
theorem zwr_com {σ : zMem} {k j k' j' : Nat} {x y : Int32} (h : k ≠ k') : zwr (zwr σ k j x) k' j' y = zwr (zwr σ k' j' y) k j x := by
  funext a b
  simp only [zwr]
  by_cases h1 : a = k
  · have h2 : ¬ (a = k' ∧ b = j') := by omega
    simp only [if_neg h2]
  · have h2 : ¬ (a = k ∧ b = j) := by omega
    simp only [if_neg h2]
theorem and255 (y : Int32) : (y &&& 255).toInt = y.toInt % 256 := by
  have e : (y &&& 255).toInt = (y.toBitVec &&& 255#32).toInt := rfl
  have e2 : y.toInt = y.toBitVec.toInt := rfl
  have n1 : (y.toBitVec &&& 255#32).toNat = y.toBitVec.toNat % 256 := by
    rw [BitVec.toNat_and]
    exact Nat.and_two_pow_sub_one_eq_mod _ 8
  have hlt := y.toBitVec.isLt
  rw [e, e2, BitVec.toInt_eq_toNat_cond, BitVec.toInt_eq_toNat_cond, n1, if_pos (by omega)]
  split <;> omega
theorem byte_and (y : Int32) : y.toInt8.toInt32.toInt8.toInt32 &&& 255 = y &&& 255 ∧ 0 ≤ (y &&& 255).toInt ∧ (y &&& 255).toInt ≤ 255 := by
  have e1 := and255 y
  refine ⟨?_, by omega, by omega⟩
  obtain ⟨r1, r2⟩ := fb_byte_rng y
  rw [fb_byte r1 r2]
  have e2 := and255 y.toInt8.toInt32
  apply Int32.toInt_inj.1
  rw [e1, e2, Int8.toInt_toInt32, Int32.toInt_toInt8]
  exact Int.bmod_emod
def shf (v : Int32) (j : Nat) : Int32 := v >>> ((nI (24 - 8 * j)) &&& 31)
def fwx (v : Int32) (n : Nat) : Nat → Int32 := fun c => (shf v (c - n)).toInt8.toInt32.toInt8.toInt32
def fwm (v : Int32) (n : Nat) : Nat → Int32 := fun c => shf v (c - n) &&& 255
theorem x_w1 {G : zGT} {d : Nat} {Φ : zMem → Prop} {σ : zMem} {v s : Int32} {n i : Nat} (hn : n + 4 ≤ 96) (hi : i < 4) (hs : s = nI (24 - 8 * i))
    (h : WJ G M_X9_write (d + 1) (RV Φ) 3 [some (.inr (.inr 46)), some (.inl v), some (.inl (s + (-8)))] [] (zwr (zst σ 47 n (fwx v n) (i + 1)) 46 1 (nI (n + (i + 1))))) :
    WJ G M_X9_write (d + 1) (RV Φ) 3 [some (.inr (.inr 46)), some (.inl v), some (.inl s)] [] (zwr (zst σ 47 n (fwx v n) i) 46 1 (nI (n + i))) := by
  refine rg_X9_write_3 ?_
  rw [if_neg (by rw [fa_lt, ti0, hs, tin (by omega)]; omega)]
  have q96 : ¬ (nI 96 ≤ nI (n + i)) := nI_ge (by omega) (by omega)
  have e : zwr (zst σ 47 n (fwx v n) i) 46 1 (nI (n + i)) 46 1 = nI (n + i) := zwr_same _ _ _ _
  rw [e, if_neg (show ¬ ((96 : Int32) ≤ nI (n + i)) from q96), cln (by omega)]
  refine ⟨vin (by omega), ?_⟩
  rintro _ rfl
  rintro _ rfl
  rw [zwr_com (k := 46) (k' := 47) (by decide)]
  have e2 : (v >>> (s &&& 31)).toInt8.toInt32.toInt8.toInt32 = fwx v n (n + i) := by
    unfold fwx shf
    rw [hs, Nat.add_sub_cancel_left]
  rw [e2, zst_s, zwr_same, zwr_zwr, nI_1]
  exact h
theorem c_write {G : zGT} {d : Nat} {Φ : zMem → Prop} {σ : zMem} {v : Int32} {n : Nat} (hn : n + 4 ≤ 96) (e : σ 46 1 = nI n) (h : Φ (zwr (zst σ 47 n (fwx v n) 4) 46 1 (nI (n + 4)))) : CTV G (d + 1) Y_X9_write [.inr (.inr 46), .inl v] σ Φ := by
  refine en_X9_write ?_
  have X0 : WJ G M_X9_write (d + 1) (RV Φ) 3 [some (.inr (.inr 46)), some (.inl v), some (.inl 24)] [] (zwr (zst σ 47 n (fwx v n) 0) 46 1 (nI (n + 0))) := by
    refine x_w1 hn (by decide) (by decide) ?_
    refine x_w1 hn (by decide) (by decide) ?_
    refine x_w1 hn (by decide) (by decide) ?_
    refine x_w1 hn (by decide) (by decide) ?_
    refine rg_X9_write_3 ?_
    rw [if_pos (by decide)]
    exact h
  rw [zst_0, show nI (n + 0) = σ 46 1 from e.symm, zwr_self] at X0
  exact X0
theorem m_w1 {G : zGT} {d : Nat} {Φ : zMem → Prop} {σ : zMem} {v s : Int32} {n i : Nat} (hn : n + 4 ≤ 96) (hi : i < 4) (hs : s = nI (24 - 8 * i))
    (h : WJ G M_X12_four (d + 1) (RV Φ) 3 [some (.inr (.inr 72)), some (.inl v), some (.inl (s + (-8)))] [] (zwr (zst σ 92 n (fwm v n) (i + 1)) 72 28 (nI (n + (i + 1))))) :
    WJ G M_X12_four (d + 1) (RV Φ) 3 [some (.inr (.inr 72)), some (.inl v), some (.inl s)] [] (zwr (zst σ 92 n (fwm v n) i) 72 28 (nI (n + i))) := by
  refine rg_X12_four_3 ?_
  rw [if_neg (by rw [fa_lt, ti0, hs, tin (by omega)]; omega)]
  have e : zwr (zst σ 92 n (fwm v n) i) 72 28 (nI (n + i)) 72 28 = nI (n + i) := zwr_same _ _ _ _
  rw [e, cln (by omega)]
  refine ⟨vin (by omega), ?_⟩
  rintro _ rfl
  rintro _ rfl
  rw [zwr_com (k := 72) (k' := 92) (by decide)]
  have e2 : (v >>> (s &&& 31)) &&& 255 = fwm v n (n + i) := by
    unfold fwm shf
    rw [hs, Nat.add_sub_cancel_left]
  rw [e2, zst_s, zwr_same, zwr_zwr, nI_1]
  exact h
theorem m_four {G : zGT} {d : Nat} {Φ : zMem → Prop} {σ : zMem} {v : Int32} {n : Nat} (hn : n + 4 ≤ 96) (e : σ 72 28 = nI n) (h : Φ (zwr (zst σ 92 n (fwm v n) 4) 72 28 (nI (n + 4)))) : CTV G (d + 1) Y_X12_four [.inr (.inr 72), .inl v] σ Φ := by
  refine en_X12_four ?_
  have X0 : WJ G M_X12_four (d + 1) (RV Φ) 3 [some (.inr (.inr 72)), some (.inl v), some (.inl 24)] [] (zwr (zst σ 92 n (fwm v n) 0) 72 28 (nI (n + 0))) := by
    refine m_w1 hn (by decide) (by decide) ?_
    refine m_w1 hn (by decide) (by decide) ?_
    refine m_w1 hn (by decide) (by decide) ?_
    refine m_w1 hn (by decide) (by decide) ?_
    refine rg_X12_four_3 ?_
    rw [if_pos (by decide)]
    exact h
  rw [zst_0, show nI (n + 0) = σ 72 28 from e.symm, zwr_self] at X0
  exact X0
theorem Rtp.write {n : Nat} {v : Int32} {xb mt : Nat → Int32} (h : Rtp (nI n) xb mt) (hn : n + 4 ≤ 96) : Rtp (nI (n + 4)) (fst xb n (fwx v n) 4) (fst mt n (fwm v n) 4) := by
  intro i hi
  rw [tin (by omega)] at hi
  by_cases g : i < n
  · rw [fst_out (by omega), fst_out (by omega)]
    exact h i (by rw [tin (by omega)]; omega)
  · rw [fst_in (by omega) (by omega), fst_in (by omega) (by omega)]
    exact byte_and _
theorem P_feed {G : zGT} {d : Nat} {v1 v2 v3 : Int32} : Pair G (d + 2) Y_X11_feed Y_X12_feed [.inl v1, .inl v2, .inl v3] := by
  intro σ h
  have hh := h
  obtain ⟨⟨k1, k2, k3, k4, k5, k6, k7, k8, k9⟩, kas, kcl, kda, kdh, kpl, kkp, ksh, kwt, ktp, klw, ksd, kw0, kw1⟩ := h
  obtain ⟨e1, b1, u1⟩ := id k1
  obtain ⟨e2, b2, u2⟩ := id k2
  obtain ⟨e3, b3, u3⟩ := id k3
  obtain ⟨e4, b4, u4⟩ := id k4
  obtain ⟨e5, b5, u5⟩ := id k5
  obtain ⟨e6, b6, u6⟩ := id k6
  obtain ⟨e7, b7, u7⟩ := id k7
  obtain ⟨e8, b8, u8⟩ := id k8
  obtain ⟨e9, b9, u9⟩ := id k9
  obtain ⟨n, hn, hn2, hn3⟩ := num_of b9 u9
  have tn : (σ 72 28).toInt = (n : Int) := by rw [hn, tin hn3]
  have t12 : (12 : Int32).toInt = 12 := rfl
  have ta : (σ 72 28 + 12).toInt = (n : Int) + 12 := by rw [fb_addI (by rw [t12]; omega) (by rw [t12]; omega), t12]; omega
  refine en_X11_feed ?_
  rw [e9]
  by_cases g : n + 12 ≤ 96
  · have g1 : σ 72 28 + 12 ≤ 96 := by rw [fa_le, ta, ti96]; omega
    rw [if_pos g1]
    refine c_write (n := n) (by omega) (by rw [e9, hn]) ?_
    refine c_write (n := n + 4) (by omega) (zwr_same _ _ _ _) ?_
    refine c_write (n := n + 4 + 4) (by omega) (zwr_same _ _ _ _) ?_
    refine en_X12_feed ?_
    simp only [zwr_rne, zwr_req, upd_ne, upd_eq, ne_eq, Nat.reduceEqDiff, not_false_eq_true, zst_rne]
    rw [if_pos g1]
    refine m_four (n := n) (by omega) (by simp only [zwr_rne, zwr_req, upd_ne, upd_eq, ne_eq, Nat.reduceEqDiff, not_false_eq_true, zst_rne]; exact hn) ?_
    refine m_four (n := n + 4) (by omega) (zwr_same _ _ _ _) ?_
    refine m_four (n := n + 4 + 4) (by omega) (zwr_same _ _ _ _) ?_
    have ktp' := ktp
    rw [hn] at ktp'
    unfold Rall
    simp only [zwr_rne, zwr_req, upd_ne, upd_eq, ne_eq, Nat.reduceEqDiff, not_false_eq_true, zst_rne, zst_req]
    refine ⟨trivial, ⟨k1, k2, k3, k4, k5, k6, k7, k8, ?_⟩, kas, kcl, kda, kdh, kpl, kkp, ksh, kwt, ?_, klw, ksd, kw0, kw1⟩
    · refine ⟨rfl, ?_, ?_⟩
      · rw [tin (by omega)]; omega
      · rw [tin (by omega)]; omega
    · exact ((ktp'.write (by omega)).write (by omega)).write (by omega)
  · have g1 : ¬ (σ 72 28 + 12 ≤ 96) := by rw [fa_le, ta, ti96]; omega
    rw [if_neg g1]
    refine en_X12_feed ?_
    rw [if_neg g1]
    exact ⟨rfl, hh⟩
