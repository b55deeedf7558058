-- the class's texts
theorem c_check {G : zGT} {d : Nat} {Φ : zMem → Prop} {σ : zMem} {i n : Nat} (hi : i < n) (hn : n < 1000) (h : Φ σ) : CTV G (d + 1) Y_J0_checkIndex_df160 [.inl (nI i), .inl (Int32.ofNat n)] σ Φ := by
  have e : Int32.ofNat n = nI n := rfl
  exact c_chk (by rw [fa_lt, ti0, tin (by omega)]; omega) (by rw [e, fa_lt, tin (by omega), tin (by omega)]; omega) h
theorem c_len1000 {G : zGT} {d : Nat} {Φ : Int32 → zMem → Prop} {σ : zMem} (h : Φ (nI 5) σ) : CTI G (d + 1) Y_J0_length_8abf5 [.inr (.inr 1000)] σ Φ := by
  refine en_J0_length_8abf5_i1000 ?_
  refine en_J0_coder_7d493_i1000 ?_
  refine ⟨rfl, ?_⟩
  rw [show (Int32.ofNat 5) >>> ((0 : Int32) &&& 31) = nI 5 from by decide]
  exact h
def lt1000 (i : Nat) : Int32 := if i = 0 then 118 else if i = 1 then 110 else if i = 2 then 116 else if i = 3 then 107 else 109
theorem c_chr1000 {G : zGT} {d : Nat} {Φ : Int32 → zMem → Prop} {σ : zMem} {i : Nat} (hi : i < 5) (h : Φ (lt1000 i) σ) : CTI G (d + 3) Y_J0_charAt_5068e [.inr (.inr 1000), .inl (nI i)] σ Φ := by
  refine en_J0_charAt_5068e_i1000 ?_
  refine en_J0_isLatin1_aae02_i1000 ?_
  rw [if_neg (by decide)]
  refine en_J1_charAt_3b067_i1100 ?_
  refine c_check hi (by decide) ?_
  refine ⟨vin hi, ?_⟩
  rw [cln (by omega)]
  have i4 : i = 0 ∨ i = 1 ∨ i = 2 ∨ i = 3 ∨ i = 4 := by omega
  rcases i4 with rfl | rfl | rfl | rfl | rfl
  · rw [show ((((ztx.getD 0 []).getD 0 0) &&& 255).toUInt32 % 65536).toInt32 = 118 from by decide +kernel]
    exact ⟨rfl, rfl, h⟩
  · rw [show ((((ztx.getD 0 []).getD 1 0) &&& 255).toUInt32 % 65536).toInt32 = 110 from by decide +kernel]
    exact ⟨rfl, rfl, h⟩
  · rw [show ((((ztx.getD 0 []).getD 2 0) &&& 255).toUInt32 % 65536).toInt32 = 116 from by decide +kernel]
    exact ⟨rfl, rfl, h⟩
  · rw [show ((((ztx.getD 0 []).getD 3 0) &&& 255).toUInt32 % 65536).toInt32 = 107 from by decide +kernel]
    exact ⟨rfl, rfl, h⟩
  · rw [show ((((ztx.getD 0 []).getD 4 0) &&& 255).toUInt32 % 65536).toInt32 = 109 from by decide +kernel]
    exact ⟨rfl, rfl, h⟩
theorem c_len1001 {G : zGT} {d : Nat} {Φ : Int32 → zMem → Prop} {σ : zMem} (h : Φ (nI 6) σ) : CTI G (d + 1) Y_J0_length_8abf5 [.inr (.inr 1001)] σ Φ := by
  refine en_J0_length_8abf5_i1001 ?_
  refine en_J0_coder_7d493_i1001 ?_
  refine ⟨rfl, ?_⟩
  rw [show (Int32.ofNat 6) >>> ((0 : Int32) &&& 31) = nI 6 from by decide]
  exact h
def lt1001 (i : Nat) : Int32 := if i = 0 then 121 else if i = 1 then 99 else if i = 2 then 119 else if i = 3 then 117 else if i = 4 then 115 else 113
theorem c_chr1001 {G : zGT} {d : Nat} {Φ : Int32 → zMem → Prop} {σ : zMem} {i : Nat} (hi : i < 6) (h : Φ (lt1001 i) σ) : CTI G (d + 3) Y_J0_charAt_5068e [.inr (.inr 1001), .inl (nI i)] σ Φ := by
  refine en_J0_charAt_5068e_i1001 ?_
  refine en_J0_isLatin1_aae02_i1001 ?_
  rw [if_neg (by decide)]
  refine en_J1_charAt_3b067_i1101 ?_
  refine c_check hi (by decide) ?_
  refine ⟨vin hi, ?_⟩
  rw [cln (by omega)]
  have i4 : i = 0 ∨ i = 1 ∨ i = 2 ∨ i = 3 ∨ i = 4 ∨ i = 5 := by omega
  rcases i4 with rfl | rfl | rfl | rfl | rfl | rfl
  · rw [show ((((ztx.getD 1 []).getD 0 0) &&& 255).toUInt32 % 65536).toInt32 = 121 from by decide +kernel]
    exact ⟨rfl, rfl, h⟩
  · rw [show ((((ztx.getD 1 []).getD 1 0) &&& 255).toUInt32 % 65536).toInt32 = 99 from by decide +kernel]
    exact ⟨rfl, rfl, h⟩
  · rw [show ((((ztx.getD 1 []).getD 2 0) &&& 255).toUInt32 % 65536).toInt32 = 119 from by decide +kernel]
    exact ⟨rfl, rfl, h⟩
  · rw [show ((((ztx.getD 1 []).getD 3 0) &&& 255).toUInt32 % 65536).toInt32 = 117 from by decide +kernel]
    exact ⟨rfl, rfl, h⟩
  · rw [show ((((ztx.getD 1 []).getD 4 0) &&& 255).toUInt32 % 65536).toInt32 = 115 from by decide +kernel]
    exact ⟨rfl, rfl, h⟩
  · rw [show ((((ztx.getD 1 []).getD 5 0) &&& 255).toUInt32 % 65536).toInt32 = 113 from by decide +kernel]
    exact ⟨rfl, rfl, h⟩
theorem c_len1002 {G : zGT} {d : Nat} {Φ : Int32 → zMem → Prop} {σ : zMem} (h : Φ (nI 4) σ) : CTI G (d + 1) Y_J0_length_8abf5 [.inr (.inr 1002)] σ Φ := by
  refine en_J0_length_8abf5_i1002 ?_
  refine en_J0_coder_7d493_i1002 ?_
  refine ⟨rfl, ?_⟩
  rw [show (Int32.ofNat 4) >>> ((0 : Int32) &&& 31) = nI 4 from by decide]
  exact h
def lt1002 (i : Nat) : Int32 := if i = 0 then 112 else if i = 1 then 97 else if i = 2 then 115 else 115
theorem c_chr1002 {G : zGT} {d : Nat} {Φ : Int32 → zMem → Prop} {σ : zMem} {i : Nat} (hi : i < 4) (h : Φ (lt1002 i) σ) : CTI G (d + 3) Y_J0_charAt_5068e [.inr (.inr 1002), .inl (nI i)] σ Φ := by
  refine en_J0_charAt_5068e_i1002 ?_
  refine en_J0_isLatin1_aae02_i1002 ?_
  rw [if_neg (by decide)]
  refine en_J1_charAt_3b067_i1102 ?_
  refine c_check hi (by decide) ?_
  refine ⟨vin hi, ?_⟩
  rw [cln (by omega)]
  have i4 : i = 0 ∨ i = 1 ∨ i = 2 ∨ i = 3 := by omega
  rcases i4 with rfl | rfl | rfl | rfl
  · rw [show ((((ztx.getD 2 []).getD 0 0) &&& 255).toUInt32 % 65536).toInt32 = 112 from by decide +kernel]
    exact ⟨rfl, rfl, h⟩
  · rw [show ((((ztx.getD 2 []).getD 1 0) &&& 255).toUInt32 % 65536).toInt32 = 97 from by decide +kernel]
    exact ⟨rfl, rfl, h⟩
  · rw [show ((((ztx.getD 2 []).getD 2 0) &&& 255).toUInt32 % 65536).toInt32 = 115 from by decide +kernel]
    exact ⟨rfl, rfl, h⟩
  · rw [show ((((ztx.getD 2 []).getD 3 0) &&& 255).toUInt32 % 65536).toInt32 = 115 from by decide +kernel]
    exact ⟨rfl, rfl, h⟩
theorem c_len1003 {G : zGT} {d : Nat} {Φ : Int32 → zMem → Prop} {σ : zMem} (h : Φ (nI 4) σ) : CTI G (d + 1) Y_J0_length_8abf5 [.inr (.inr 1003)] σ Φ := by
  refine en_J0_length_8abf5_i1003 ?_
  refine en_J0_coder_7d493_i1003 ?_
  refine ⟨rfl, ?_⟩
  rw [show (Int32.ofNat 4) >>> ((0 : Int32) &&& 31) = nI 4 from by decide]
  exact h
def lt1003 (i : Nat) : Int32 := if i = 0 then 98 else if i = 1 then 105 else if i = 2 then 110 else 100
theorem c_chr1003 {G : zGT} {d : Nat} {Φ : Int32 → zMem → Prop} {σ : zMem} {i : Nat} (hi : i < 4) (h : Φ (lt1003 i) σ) : CTI G (d + 3) Y_J0_charAt_5068e [.inr (.inr 1003), .inl (nI i)] σ Φ := by
  refine en_J0_charAt_5068e_i1003 ?_
  refine en_J0_isLatin1_aae02_i1003 ?_
  rw [if_neg (by decide)]
  refine en_J1_charAt_3b067_i1103 ?_
  refine c_check hi (by decide) ?_
  refine ⟨vin hi, ?_⟩
  rw [cln (by omega)]
  have i4 : i = 0 ∨ i = 1 ∨ i = 2 ∨ i = 3 := by omega
  rcases i4 with rfl | rfl | rfl | rfl
  · rw [show ((((ztx.getD 3 []).getD 0 0) &&& 255).toUInt32 % 65536).toInt32 = 98 from by decide +kernel]
    exact ⟨rfl, rfl, h⟩
  · rw [show ((((ztx.getD 3 []).getD 1 0) &&& 255).toUInt32 % 65536).toInt32 = 105 from by decide +kernel]
    exact ⟨rfl, rfl, h⟩
  · rw [show ((((ztx.getD 3 []).getD 2 0) &&& 255).toUInt32 % 65536).toInt32 = 110 from by decide +kernel]
    exact ⟨rfl, rfl, h⟩
  · rw [show ((((ztx.getD 3 []).getD 3 0) &&& 255).toUInt32 % 65536).toInt32 = 100 from by decide +kernel]
    exact ⟨rfl, rfl, h⟩
theorem c_isAmong1000 {G : zGT} {d : Nat} {Φ : Int32 → zMem → Prop} {σ : zMem} {v : Int32} (h1 : isPn v → Φ 1 σ) (h0 : ¬ isPn v → Φ 0 σ) : CTI G (d + 4) Y_X11_isAmong [.inr (.inr 1000), .inl v] σ Φ := by
  refine en_X11_isAmong_i1000 ?_
  have st : ∀ i : Nat, i < 5 → (lt1000 i = v → Φ 1 σ) → (¬ lt1000 i = v → WJ G M_X11_isAmong (d + 4) (RI Φ) 2 [some (.inr (.inr 1000)), some (.inl v), some (.inl (nI (i + 1)))] [] σ) → WJ G M_X11_isAmong (d + 4) (RI Φ) 2 [some (.inr (.inr 1000)), some (.inl v), some (.inl (nI i))] [] σ := by
    intro i hi q1 q0
    refine rg_X11_isAmong_i1000_2 ?_
    refine c_len1000 ?_
    rw [if_neg (nI_ge (by omega) (by omega)), nI_1]
    refine c_chr1000 hi ?_
    by_cases g : lt1000 i = v
    · rw [if_pos g]; exact q1 g
    · rw [if_neg g]; exact q0 g
  refine st 0 (by decide) (fun g => h1 (by rw [← g]; unfold isPn; decide)) (fun g0 => ?_)
  refine st 1 (by decide) (fun g => h1 (by rw [← g]; unfold isPn; decide)) (fun g1 => ?_)
  refine st 2 (by decide) (fun g => h1 (by rw [← g]; unfold isPn; decide)) (fun g2 => ?_)
  refine st 3 (by decide) (fun g => h1 (by rw [← g]; unfold isPn; decide)) (fun g3 => ?_)
  refine st 4 (by decide) (fun g => h1 (by rw [← g]; unfold isPn; decide)) (fun g4 => ?_)
  refine rg_X11_isAmong_i1000_2 ?_
  refine c_len1000 ?_
  rw [if_pos (by decide)]
  refine h0 (fun q => ?_)
  unfold isPn at q
  rcases q with q | q | q | q | q
  · exact g0 q.symm
  · exact g1 q.symm
  · exact g2 q.symm
  · exact g3 q.symm
  · exact g4 q.symm
theorem c_isAmong1001 {G : zGT} {d : Nat} {Φ : Int32 → zMem → Prop} {σ : zMem} {v : Int32} (h1 : isBn v → Φ 1 σ) (h0 : ¬ isBn v → Φ 0 σ) : CTI G (d + 4) Y_X11_isAmong [.inr (.inr 1001), .inl v] σ Φ := by
  refine en_X11_isAmong_i1001 ?_
  have st : ∀ i : Nat, i < 6 → (lt1001 i = v → Φ 1 σ) → (¬ lt1001 i = v → WJ G M_X11_isAmong (d + 4) (RI Φ) 2 [some (.inr (.inr 1001)), some (.inl v), some (.inl (nI (i + 1)))] [] σ) → WJ G M_X11_isAmong (d + 4) (RI Φ) 2 [some (.inr (.inr 1001)), some (.inl v), some (.inl (nI i))] [] σ := by
    intro i hi q1 q0
    refine rg_X11_isAmong_i1001_2 ?_
    refine c_len1001 ?_
    rw [if_neg (nI_ge (by omega) (by omega)), nI_1]
    refine c_chr1001 hi ?_
    by_cases g : lt1001 i = v
    · rw [if_pos g]; exact q1 g
    · rw [if_neg g]; exact q0 g
  refine st 0 (by decide) (fun g => h1 (by rw [← g]; unfold isBn; decide)) (fun g0 => ?_)
  refine st 1 (by decide) (fun g => h1 (by rw [← g]; unfold isBn; decide)) (fun g1 => ?_)
  refine st 2 (by decide) (fun g => h1 (by rw [← g]; unfold isBn; decide)) (fun g2 => ?_)
  refine st 3 (by decide) (fun g => h1 (by rw [← g]; unfold isBn; decide)) (fun g3 => ?_)
  refine st 4 (by decide) (fun g => h1 (by rw [← g]; unfold isBn; decide)) (fun g4 => ?_)
  refine st 5 (by decide) (fun g => h1 (by rw [← g]; unfold isBn; decide)) (fun g5 => ?_)
  refine rg_X11_isAmong_i1001_2 ?_
  refine c_len1001 ?_
  rw [if_pos (by decide)]
  refine h0 (fun q => ?_)
  unfold isBn at q
  rcases q with q | q | q | q | q | q
  · exact g0 q.symm
  · exact g1 q.symm
  · exact g2 q.symm
  · exact g3 q.symm
  · exact g4 q.symm
  · exact g5 q.symm
