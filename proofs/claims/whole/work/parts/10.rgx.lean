def sp_X0_has : List (Nat × List Bool) := []
set_option maxRecDepth 100000 in
theorem en_X0_has {G : zGT} {d : Nat} {Φ : Int32 → zMem → Prop} {σ : zMem} {v1 : Int32}
  (h : if v1 < 0 then (Φ (0 : Int32) σ) else (if (σ 14 5) ≤ v1 then (Φ (0 : Int32) σ) else (Φ (1 : Int32) σ))) :
  CTI G d Y_X0_has [.inr (.inr 14), .inl v1] σ Φ :=
  CT_of (M := M_X0_has) rfl (Nat.le_of_ble_eq_true rfl) (Or.inr (Or.inr (Or.inl rfl))) (ZP_ok ok_X0_has 13 0 _ _ _ (show ZP G M_X0_has d (RI Φ) sp_X0_has 13 0 [some (.inr (.inr 14)), some (.inl v1)] [] σ from h))
def sp_X0_add : List (Nat × List Bool) := []
set_option maxRecDepth 100000 in
theorem en_X0_add {G : zGT} {d : Nat} {Φ : Int32 → zMem → Prop} {σ : zMem} {v1 v2 v3 v4 : Int32}
  (h : vp_in (σ 14 5) 16 ∧ ∀ s1 : zMem, s1 = zwr σ 15 (σ 14 5).toNatClampNeg v1 → (vp_in (σ 14 5) 16 ∧ ∀ s2 : zMem, s2 = zwr s1 16 (σ 14 5).toNatClampNeg v2 → (vp_in (σ 14 5) 16 ∧ ∀ s3 : zMem, s3 = zwr s2 17 (σ 14 5).toNatClampNeg v3 → (vp_in (σ 14 5) 16 ∧ ∀ s4 : zMem, s4 = zwr s3 18 (σ 14 5).toNatClampNeg v4 → (vp_in (σ 14 5) 16 ∧ ∀ s5 : zMem, s5 = zwr s4 19 (σ 14 5).toNatClampNeg (-1000000005 : Int32) → (∀ s6 : zMem, s6 = zwr s5 14 5 ((s5 14 5) + (1 : Int32)) → (Φ (σ 14 5) s6))))))) :
  CTI G d Y_X0_add [.inr (.inr 14), .inl v1, .inl v2, .inl v3, .inl v4] σ Φ :=
  CT_of (M := M_X0_add) rfl (Nat.le_of_ble_eq_true rfl) (Or.inr (Or.inl rfl)) (ZP_ok ok_X0_add 40 0 _ _ _ (show ZP G M_X0_add d (RI Φ) sp_X0_add 40 0 [some (.inr (.inr 14)), some (.inl v1), some (.inl v2), some (.inl v3), some (.inl v4), none] [] σ from h))
def sp_X0_proceeds : List (Nat × List Bool) := []
set_option maxRecDepth 100000 in
theorem en_X0_proceeds {G : zGT} {d : Nat} {Φ : Int32 → zMem → Prop} {σ : zMem} {v1 v2 : Int32}
  (h : if v2 = 0 then (vp_in v1 16 ∧ (vp_in v1 16 ∧ (¬ (100 : Int32) = 0 ∧ (Φ ((σ 16 v1.toNatClampNeg) - ((((σ 16 v1.toNatClampNeg) * (σ 14 6)) * (σ 18 v1.toNatClampNeg)) / (100 : Int32))) σ)))) else (vp_in v1 16 ∧ (vp_in v1 16 ∧ (¬ (100 : Int32) = 0 ∧ (Φ ((σ 17 v1.toNatClampNeg) - ((((σ 17 v1.toNatClampNeg) * (σ 14 6)) * (σ 18 v1.toNatClampNeg)) / (100 : Int32))) σ))))) :
  CTI G d Y_X0_proceeds [.inr (.inr 14), .inl v1, .inl v2] σ Φ :=
  CT_of (M := M_X0_proceeds) rfl (Nat.le_of_ble_eq_true rfl) (Or.inr (Or.inl rfl)) (ZP_ok ok_X0_proceeds 26 0 _ _ _ (show ZP G M_X0_proceeds d (RI Φ) sp_X0_proceeds 26 0 [some (.inr (.inr 14)), some (.inl v1), some (.inl v2), none] [] σ from h))
def sp_X0_haveSameCharged : List (Nat × List Bool) := [(2, [true, true, true, true])]
set_option maxRecDepth 100000 in
theorem en_X0_haveSameCharged {G : zGT} {d : Nat} {Φ : Int32 → zMem → Prop} {σ : zMem} {v1 v2 : Int32}
  (h : WJ G M_X0_haveSameCharged d (RI Φ) 2 [some (.inr (.inr 14)), some (.inl v1), some (.inl v2), some (.inl (0 : Int32))] [] σ) :
  CTI G d Y_X0_haveSameCharged [.inr (.inr 14), .inl v1, .inl v2] σ Φ :=
  CT_of (M := M_X0_haveSameCharged) rfl (Nat.le_of_ble_eq_true rfl) (Or.inr (Or.inr (Or.inl rfl))) (ZP_ok ok_X0_haveSameCharged 6 0 _ _ _ (show ZP G M_X0_haveSameCharged d (RI Φ) sp_X0_haveSameCharged 6 0 [some (.inr (.inr 14)), some (.inl v1), some (.inl v2), none] [] σ from h))
set_option maxRecDepth 100000 in
theorem rg_X0_haveSameCharged_2 {G : zGT} {d : Nat} {Φ : Int32 → zMem → Prop} {σ : zMem} {v1 v2 v3 : Int32}
  (h : if (σ 14 5) ≤ v3 then (Φ (1 : Int32) σ) else (vp_in v3 16 ∧ (if (σ 19 v3.toNatClampNeg) = v1 then (Φ (0 : Int32) σ) else (vp_in v3 16 ∧ (if (σ 19 v3.toNatClampNeg) = v2 then (Φ (0 : Int32) σ) else (WJ G M_X0_haveSameCharged d (RI Φ) 2 [some (.inr (.inr 14)), some (.inl v1), some (.inl v2), some (.inl (v3 + 1))] [] σ)))))) :
  WJ G M_X0_haveSameCharged d (RI Φ) 2 [some (.inr (.inr 14)), some (.inl v1), some (.inl v2), some (.inl v3)] [] σ :=
  ZP_ok ok_X0_haveSameCharged 22 2 _ _ _ (show ZP G M_X0_haveSameCharged d (RI Φ) sp_X0_haveSameCharged 22 2 [some (.inr (.inr 14)), some (.inl v1), some (.inl v2), some (.inl v3)] [] σ from h)
def sp_X1_has : List (Nat × List Bool) := []
set_option maxRecDepth 100000 in
theorem en_X1_has {G : zGT} {d : Nat} {Φ : Int32 → zMem → Prop} {σ : zMem} {v1 : Int32}
  (h : if v1 < 0 then (Φ (0 : Int32) σ) else (if (σ 1 6) ≤ v1 then (Φ (0 : Int32) σ) else (Φ (1 : Int32) σ))) :
  CTI G d Y_X1_has [.inr (.inr 1), .inl v1] σ Φ :=
  CT_of (M := M_X1_has) rfl (Nat.le_of_ble_eq_true rfl) (Or.inr (Or.inr (Or.inl rfl))) (ZP_ok ok_X1_has 13 0 _ _ _ (show ZP G M_X1_has d (RI Φ) sp_X1_has 13 0 [some (.inr (.inr 1)), some (.inl v1)] [] σ from h))
def sp_X1_add : List (Nat × List Bool) := []
set_option maxRecDepth 100000 in
theorem en_X1_add {G : zGT} {d : Nat} {Φ : Int32 → zMem → Prop} {σ : zMem} {v1 v2 v3 v4 v5 : Int32}
  (h : vp_in (σ 1 6) 24 ∧ ∀ s1 : zMem, s1 = zwr σ 2 (σ 1 6).toNatClampNeg v1 → (vp_in (σ 1 6) 24 ∧ ∀ s2 : zMem, s2 = zwr s1 3 (σ 1 6).toNatClampNeg v2 → (vp_in (σ 1 6) 24 ∧ ∀ s3 : zMem, s3 = zwr s2 5 (σ 1 6).toNatClampNeg (-1000000005 : Int32) → (CTV G d Y_X3_write [.inr (.inr 6), .inl (σ 1 6), .inl v5, .inl v4] s3 (fun (s4 : zMem) => CTV G d Y_X3_write [.inr (.inr 10), .inl (σ 1 6), .inl v5, .inl v3] s4 (fun (s5 : zMem) => ∀ s6 : zMem, s6 = zwr s5 1 6 ((s5 1 6) + (1 : Int32)) → (Φ (σ 1 6) s6))))))) :
  CTI G (d + 1) Y_X1_add [.inr (.inr 1), .inl v1, .inl v2, .inl v3, .inl v4, .inl v5] σ Φ :=
  CT_of (M := M_X1_add) rfl (Nat.le_of_ble_eq_true rfl) (Or.inr (Or.inl rfl)) (ZP_ok ok_X1_add 42 0 _ _ _ (show ZP G M_X1_add (d + 1) (RI Φ) sp_X1_add 42 0 [some (.inr (.inr 1)), some (.inl v1), some (.inl v2), some (.inl v3), some (.inl v4), some (.inl v5), none] [] σ from h))
def sp_X1_amountOn : List (Nat × List Bool) := []
set_option maxRecDepth 100000 in
theorem en_X1_amountOn {G : zGT} {d : Nat} {Φ : Int32 → zMem → Prop} {σ : zMem} {v1 v2 : Int32}
  (h : CTI G d Y_X3_asOf [.inr (.inr 6), .inl v1, .inl v2, .inl (0 : Int32)] σ (fun (r2 : Int32) (s1 : zMem) => Φ r2 s1)) :
  CTI G (d + 1) Y_X1_amountOn [.inr (.inr 1), .inl v1, .inl v2] σ Φ :=
  CT_of (M := M_X1_amountOn) rfl (Nat.le_of_ble_eq_true rfl) (Or.inr (Or.inl rfl)) (ZP_ok ok_X1_amountOn 11 0 _ _ _ (show ZP G M_X1_amountOn (d + 1) (RI Φ) sp_X1_amountOn 11 0 [some (.inr (.inr 1)), some (.inl v1), some (.inl v2)] [] σ from h))
def sp_X1_holderOn : List (Nat × List Bool) := []
set_option maxRecDepth 100000 in
theorem en_X1_holderOn {G : zGT} {d : Nat} {Φ : Int32 → zMem → Prop} {σ : zMem} {v1 v2 : Int32}
  (h : CTI G d Y_X3_first [.inr (.inr 10), .inl v1] σ (fun (r2 : Int32) (s1 : zMem) => CTI G d Y_X3_asOf [.inr (.inr 10), .inl v1, .inl v2, .inl r2] s1 (fun (r4 : Int32) (s3 : zMem) => Φ r4 s3))) :
  CTI G (d + 1) Y_X1_holderOn [.inr (.inr 1), .inl v1, .inl v2] σ Φ :=
  CT_of (M := M_X1_holderOn) rfl (Nat.le_of_ble_eq_true rfl) (Or.inr (Or.inl rfl)) (ZP_ok ok_X1_holderOn 14 0 _ _ _ (show ZP G M_X1_holderOn (d + 1) (RI Φ) sp_X1_holderOn 14 0 [some (.inr (.inr 1)), some (.inl v1), some (.inl v2)] [] σ from h))
def sp_X2_hasLaw : List (Nat × List Bool) := []
set_option maxRecDepth 100000 in
theorem en_X2_hasLaw {G : zGT} {d : Nat} {Φ : Int32 → zMem → Prop} {σ : zMem}
  (h : if (σ 55 6) ≤ 0 then (Φ (0 : Int32) σ) else (Φ (1 : Int32) σ)) :
  CTI G d Y_X2_hasLaw [.inr (.inr 55)] σ Φ :=
  CT_of (M := M_X2_hasLaw) rfl (Nat.le_of_ble_eq_true rfl) (Or.inr (Or.inr (Or.inl rfl))) (ZP_ok ok_X2_hasLaw 10 0 _ _ _ (show ZP G M_X2_hasLaw d (RI Φ) sp_X2_hasLaw 10 0 [some (.inr (.inr 55))] [] σ from h))
def sp_X2_valueOf : List (Nat × List Bool) := []
set_option maxRecDepth 100000 in
theorem en_X2_valueOf {G : zGT} {d : Nat} {Φ : Int32 → zMem → Prop} {σ : zMem} {v1 : Int32}
  (h : vp_in v1 24 ∧ (if (σ 5 v1.toNatClampNeg) = (-1000000005 : Int32) then (CTI G d Y_X1_amountOn [.inr (.inr 1), .inl v1, .inl (σ 55 7)] σ (fun (r2 : Int32) (s1 : zMem) => Φ r2 s1)) else (Φ (σ 5 v1.toNatClampNeg) σ))) :
  CTI G (d + 1) Y_X2_valueOf [.inr (.inr 55), .inl v1] σ Φ :=
  CT_of (M := M_X2_valueOf) rfl (Nat.le_of_ble_eq_true rfl) (Or.inr (Or.inl rfl)) (ZP_ok ok_X2_valueOf 21 0 _ _ _ (show ZP G M_X2_valueOf (d + 1) (RI Φ) sp_X2_valueOf 21 0 [some (.inr (.inr 55)), some (.inl v1), none] [] σ from h))
def sp_X2_firstOf : List (Nat × List Bool) := [(2, [true, true, true])]
set_option maxRecDepth 100000 in
theorem en_X2_firstOf {G : zGT} {d : Nat} {Φ : Int32 → zMem → Prop} {σ : zMem} {v1 : Int32}
  (h : WJ G M_X2_firstOf d (RI Φ) 2 [some (.inr (.inr 55)), some (.inl v1), some (.inl (0 : Int32))] [] σ) :
  CTI G d Y_X2_firstOf [.inr (.inr 55), .inl v1] σ Φ :=
  CT_of (M := M_X2_firstOf) rfl (Nat.le_of_ble_eq_true rfl) (Or.inr (Or.inl rfl)) (ZP_ok ok_X2_firstOf 6 0 _ _ _ (show ZP G M_X2_firstOf d (RI Φ) sp_X2_firstOf 6 0 [some (.inr (.inr 55)), some (.inl v1), none] [] σ from h))
set_option maxRecDepth 100000 in
theorem rg_X2_firstOf_2 {G : zGT} {d : Nat} {Φ : Int32 → zMem → Prop} {σ : zMem} {v1 v2 : Int32}
  (h : if (σ 1 6) ≤ v2 then (Φ (-1000000005 : Int32) σ) else (vp_in v2 24 ∧ (if (σ 35 v2.toNatClampNeg) = v1 then (Φ v2 σ) else (WJ G M_X2_firstOf d (RI Φ) 2 [some (.inr (.inr 55)), some (.inl v1), some (.inl (v2 + 1))] [] σ)))) :
  WJ G M_X2_firstOf d (RI Φ) 2 [some (.inr (.inr 55)), some (.inl v1), some (.inl v2)] [] σ :=
  ZP_ok ok_X2_firstOf 18 2 _ _ _ (show ZP G M_X2_firstOf d (RI Φ) sp_X2_firstOf 18 2 [some (.inr (.inr 55)), some (.inl v1), some (.inl v2)] [] σ from h)
def sp_X2_hasClaims : List (Nat × List Bool) := []
set_option maxRecDepth 100000 in
theorem en_X2_hasClaims {G : zGT} {d : Nat} {Φ : Int32 → zMem → Prop} {σ : zMem} {v1 : Int32}
  (h : CTI G d Y_X2_firstOf [.inr (.inr 55), .inl v1] σ (fun (r2 : Int32) (s1 : zMem) => if r2 = (-1000000005 : Int32) then (Φ (0 : Int32) s1) else (Φ (1 : Int32) s1))) :
  CTI G (d + 1) Y_X2_hasClaims [.inr (.inr 55), .inl v1] σ Φ :=
  CT_of (M := M_X2_hasClaims) rfl (Nat.le_of_ble_eq_true rfl) (Or.inr (Or.inr (Or.inl rfl))) (ZP_ok ok_X2_hasClaims 12 0 _ _ _ (show ZP G M_X2_hasClaims (d + 1) (RI Φ) sp_X2_hasClaims 12 0 [some (.inr (.inr 55)), some (.inl v1)] [] σ from h))
def sp_X2_isSecuredAtFirst : List (Nat × List Bool) := []
set_option maxRecDepth 100000 in
theorem en_X2_isSecuredAtFirst {G : zGT} {d : Nat} {Φ : Int32 → zMem → Prop} {σ : zMem} {v1 : Int32}
  (h : CTI G d Y_X2_firstOf [.inr (.inr 55), .inl v1] σ (fun (r2 : Int32) (s1 : zMem) => if r2 < 0 then (Φ (0 : Int32) s1) else (vp_in r2 24 ∧ (if (s1 2 r2.toNatClampNeg) = (1 : Int32) then (Φ (1 : Int32) s1) else (Φ (0 : Int32) s1))))) :
  CTI G (d + 1) Y_X2_isSecuredAtFirst [.inr (.inr 55), .inl v1] σ Φ :=
  CT_of (M := M_X2_isSecuredAtFirst) rfl (Nat.le_of_ble_eq_true rfl) (Or.inr (Or.inr (Or.inl rfl))) (ZP_ok ok_X2_isSecuredAtFirst 20 0 _ _ _ (show ZP G M_X2_isSecuredAtFirst (d + 1) (RI Φ) sp_X2_isSecuredAtFirst 20 0 [some (.inr (.inr 55)), some (.inl v1), none] [] σ from h))
def sp_X2_tallyClass : List (Nat × List Bool) := [(6, [true, true, true, true])]
set_option maxRecDepth 100000 in
theorem en_X2_tallyClass_i55_62 {G : zGT} {d : Nat} {Φ : zMem → Prop} {σ : zMem} {v2 : Int32}
  (h : CTV G d Y_X8_clear [.inr (.inr 62)] σ (fun (s1 : zMem) => WJ G M_X2_tallyClass (d + 1) (RV Φ) 6 [some (.inr (.inr 55)), some (.inr (.inr 62)), some (.inl v2), some (.inl (0 : Int32))] [] s1)) :
  CTV G (d + 1) Y_X2_tallyClass [.inr (.inr 55), .inr (.inr 62), .inl v2] σ Φ :=
  CT_of (M := M_X2_tallyClass) rfl (Nat.le_of_ble_eq_true rfl) (Or.inl rfl) (ZP_ok ok_X2_tallyClass 8 0 _ _ _ (show ZP G M_X2_tallyClass (d + 1) (RV Φ) sp_X2_tallyClass 8 0 [some (.inr (.inr 55)), some (.inr (.inr 62)), some (.inl v2), none] [] σ from h))
set_option maxRecDepth 100000 in
theorem rg_X2_tallyClass_i55_62_6 {G : zGT} {d : Nat} {Φ : zMem → Prop} {σ : zMem} {v2 v3 : Int32}
  (h : if (σ 1 6) ≤ v3 then (Φ σ) else (vp_in v3 24 ∧ (if (σ 35 v3.toNatClampNeg) = v2 then (vp_in v3 24 ∧ (CTI G d Y_X2_valueOf [.inr (.inr 55), .inl v3] σ (fun (r2 : Int32) (s1 : zMem) => vp_in v3 24 ∧ (CTV G d Y_X8_add [.inr (.inr 62), .inl (σ 2 v3.toNatClampNeg), .inl r2, .inl (s1 36 v3.toNatClampNeg)] s1 (fun (s3 : zMem) => WJ G M_X2_tallyClass (d + 1) (RV Φ) 6 [some (.inr (.inr 55)), some (.inr (.inr 62)), some (.inl v2), some (.inl (v3 + 1))] [] s3))))) else (WJ G M_X2_tallyClass (d + 1) (RV Φ) 6 [some (.inr (.inr 55)), some (.inr (.inr 62)), some (.inl v2), some (.inl (v3 + 1))] [] σ)))) :
  WJ G M_X2_tallyClass (d + 1) (RV Φ) 6 [some (.inr (.inr 55)), some (.inr (.inr 62)), some (.inl v2), some (.inl v3)] [] σ :=
  ZP_ok ok_X2_tallyClass 33 6 _ _ _ (show ZP G M_X2_tallyClass (d + 1) (RV Φ) sp_X2_tallyClass 33 6 [some (.inr (.inr 55)), some (.inr (.inr 62)), some (.inl v2), some (.inl v3)] [] σ from h)
set_option maxRecDepth 100000 in
theorem en_X2_tallyClass_i55_67 {G : zGT} {d : Nat} {Φ : zMem → Prop} {σ : zMem} {v2 : Int32}
  (h : CTV G d Y_X8_clear [.inr (.inr 67)] σ (fun (s1 : zMem) => WJ G M_X2_tallyClass (d + 1) (RV Φ) 6 [some (.inr (.inr 55)), some (.inr (.inr 67)), some (.inl v2), some (.inl (0 : Int32))] [] s1)) :
  CTV G (d + 1) Y_X2_tallyClass [.inr (.inr 55), .inr (.inr 67), .inl v2] σ Φ :=
  CT_of (M := M_X2_tallyClass) rfl (Nat.le_of_ble_eq_true rfl) (Or.inl rfl) (ZP_ok ok_X2_tallyClass 8 0 _ _ _ (show ZP G M_X2_tallyClass (d + 1) (RV Φ) sp_X2_tallyClass 8 0 [some (.inr (.inr 55)), some (.inr (.inr 67)), some (.inl v2), none] [] σ from h))
set_option maxRecDepth 100000 in
theorem rg_X2_tallyClass_i55_67_6 {G : zGT} {d : Nat} {Φ : zMem → Prop} {σ : zMem} {v2 v3 : Int32}
  (h : if (σ 1 6) ≤ v3 then (Φ σ) else (vp_in v3 24 ∧ (if (σ 35 v3.toNatClampNeg) = v2 then (vp_in v3 24 ∧ (CTI G d Y_X2_valueOf [.inr (.inr 55), .inl v3] σ (fun (r2 : Int32) (s1 : zMem) => vp_in v3 24 ∧ (CTV G d Y_X8_add [.inr (.inr 67), .inl (σ 2 v3.toNatClampNeg), .inl r2, .inl (s1 36 v3.toNatClampNeg)] s1 (fun (s3 : zMem) => WJ G M_X2_tallyClass (d + 1) (RV Φ) 6 [some (.inr (.inr 55)), some (.inr (.inr 67)), some (.inl v2), some (.inl (v3 + 1))] [] s3))))) else (WJ G M_X2_tallyClass (d + 1) (RV Φ) 6 [some (.inr (.inr 55)), some (.inr (.inr 67)), some (.inl v2), some (.inl (v3 + 1))] [] σ)))) :
  WJ G M_X2_tallyClass (d + 1) (RV Φ) 6 [some (.inr (.inr 55)), some (.inr (.inr 67)), some (.inl v2), some (.inl v3)] [] σ :=
  ZP_ok ok_X2_tallyClass 33 6 _ _ _ (show ZP G M_X2_tallyClass (d + 1) (RV Φ) sp_X2_tallyClass 33 6 [some (.inr (.inr 55)), some (.inr (.inr 67)), some (.inl v2), some (.inl v3)] [] σ from h)
def sp_X2_setName : List (Nat × List Bool) := []
set_option maxRecDepth 100000 in
theorem en_X2_setName {G : zGT} {d : Nat} {Φ : zMem → Prop} {σ : zMem} {v1 v2 : Int32}
  (h : if (v1 - (97 : Int32)) < 0 then (Φ σ) else (if (Int32.ofNat 26) ≤ (v1 - (97 : Int32)) then (Φ σ) else (vp_in (v1 - (97 : Int32)) 26 ∧ ∀ s1 : zMem, s1 = zwr σ 63 (v1 - (97 : Int32)).toNatClampNeg v2 → (Φ s1)))) :
  CTV G d Y_X2_setName [.inr (.inr 55), .inl v1, .inl v2] σ Φ :=
  CT_of (M := M_X2_setName) rfl (Nat.le_of_ble_eq_true rfl) (Or.inl rfl) (ZP_ok ok_X2_setName 21 0 _ _ _ (show ZP G M_X2_setName d (RV Φ) sp_X2_setName 21 0 [some (.inr (.inr 55)), some (.inl v1), some (.inl v2), none] [] σ from h))
def sp_X2_passGives : List (Nat × List Bool) := [(2, [true, true, true, false])]
set_option maxRecDepth 100000 in
theorem en_X2_passGives_i55_62 {G : zGT} {d : Nat} {Φ : Int32 → zMem → Prop} {σ : zMem}
  (h : WJ G M_X2_passGives (d + 1) (RI Φ) 2 [some (.inr (.inr 55)), some (.inr (.inr 62)), some (.inl (0 : Int32)), none] [] σ) :
  CTI G (d + 1) Y_X2_passGives [.inr (.inr 55), .inr (.inr 62)] σ Φ :=
  CT_of (M := M_X2_passGives) rfl (Nat.le_of_ble_eq_true rfl) (Or.inr (Or.inl rfl)) (ZP_ok ok_X2_passGives 6 0 _ _ _ (show ZP G M_X2_passGives (d + 1) (RI Φ) sp_X2_passGives 6 0 [some (.inr (.inr 55)), some (.inr (.inr 62)), none, none] [] σ from h))
set_option maxRecDepth 100000 in
theorem rg_X2_passGives_i55_62_2 {G : zGT} {d : Nat} {Φ : Int32 → zMem → Prop} {σ : zMem} {v2 : Int32}
  (h : CTI G d Y_J0_length_8abf5 [.inr (.inr 1000)] σ (fun (r2 : Int32) (s1 : zMem) => if r2 ≤ v2 then (CTI G d Y_X4_work [.inr (.inr 56), .inr (.inr 63)] s1 (fun (r4 : Int32) (s3 : zMem) => Φ r4 s3)) else (CTI G d Y_J0_charAt_5068e [.inr (.inr 1000), .inl v2] s1 (fun (r6 : Int32) (s5 : zMem) => CTI G d Y_X8_nameValue [.inr (.inr 62), .inl r6] s5 (fun (r8 : Int32) (s7 : zMem) => CTV G d Y_X2_setName [.inr (.inr 55), .inl r6, .inl r8] s7 (fun (s9 : zMem) => WJ G M_X2_passGives (d + 1) (RI Φ) 2 [some (.inr (.inr 55)), some (.inr (.inr 62)), some (.inl (v2 + 1)), none] [] s9)))))) :
  WJ G M_X2_passGives (d + 1) (RI Φ) 2 [some (.inr (.inr 55)), some (.inr (.inr 62)), some (.inl v2), none] [] σ :=
  ZP_ok ok_X2_passGives 20 2 _ _ _ (show ZP G M_X2_passGives (d + 1) (RI Φ) sp_X2_passGives 20 2 [some (.inr (.inr 55)), some (.inr (.inr 62)), some (.inl v2), none] [] σ from h)
set_option maxRecDepth 100000 in
theorem en_X2_passGives_i55_68 {G : zGT} {d : Nat} {Φ : Int32 → zMem → Prop} {σ : zMem}
  (h : WJ G M_X2_passGives (d + 1) (RI Φ) 2 [some (.inr (.inr 55)), some (.inr (.inr 68)), some (.inl (0 : Int32)), none] [] σ) :
  CTI G (d + 1) Y_X2_passGives [.inr (.inr 55), .inr (.inr 68)] σ Φ :=
  CT_of (M := M_X2_passGives) rfl (Nat.le_of_ble_eq_true rfl) (Or.inr (Or.inl rfl)) (ZP_ok ok_X2_passGives 6 0 _ _ _ (show ZP G M_X2_passGives (d + 1) (RI Φ) sp_X2_passGives 6 0 [some (.inr (.inr 55)), some (.inr (.inr 68)), none, none] [] σ from h))
set_option maxRecDepth 100000 in
theorem rg_X2_passGives_i55_68_2 {G : zGT} {d : Nat} {Φ : Int32 → zMem → Prop} {σ : zMem} {v2 : Int32}
  (h : CTI G d Y_J0_length_8abf5 [.inr (.inr 1000)] σ (fun (r2 : Int32) (s1 : zMem) => if r2 ≤ v2 then (CTI G d Y_X4_work [.inr (.inr 56), .inr (.inr 63)] s1 (fun (r4 : Int32) (s3 : zMem) => Φ r4 s3)) else (CTI G d Y_J0_charAt_5068e [.inr (.inr 1000), .inl v2] s1 (fun (r6 : Int32) (s5 : zMem) => CTI G d Y_X8_nameValue [.inr (.inr 68), .inl r6] s5 (fun (r8 : Int32) (s7 : zMem) => CTV G d Y_X2_setName [.inr (.inr 55), .inl r6, .inl r8] s7 (fun (s9 : zMem) => WJ G M_X2_passGives (d + 1) (RI Φ) 2 [some (.inr (.inr 55)), some (.inr (.inr 68)), some (.inl (v2 + 1)), none] [] s9)))))) :
  WJ G M_X2_passGives (d + 1) (RI Φ) 2 [some (.inr (.inr 55)), some (.inr (.inr 68)), some (.inl v2), none] [] σ :=
  ZP_ok ok_X2_passGives 20 2 _ _ _ (show ZP G M_X2_passGives (d + 1) (RI Φ) sp_X2_passGives 20 2 [some (.inr (.inr 55)), some (.inr (.inr 68)), some (.inl v2), none] [] σ from h)
def sp_X2_passesBy : List (Nat × List Bool) := []
set_option maxRecDepth 100000 in
theorem en_X2_passesBy_i55_62 {G : zGT} {d : Nat} {Φ : Int32 → zMem → Prop} {σ : zMem}
  (h : CTI G d Y_X2_hasLaw [.inr (.inr 55)] σ (fun (r2 : Int32) (s1 : zMem) => if r2 = 0 then (Φ (0 : Int32) s1) else (if (s1 62 5) ≤ 0 then (Φ (0 : Int32) s1) else (CTI G d Y_X2_passGives [.inr (.inr 55), .inr (.inr 62)] s1 (fun (r4 : Int32) (s3 : zMem) => if r4 = 0 then (Φ (0 : Int32) s3) else (Φ (1 : Int32) s3)))))) :
  CTI G (d + 1) Y_X2_passesBy [.inr (.inr 55), .inr (.inr 62)] σ Φ :=
  CT_of (M := M_X2_passesBy) rfl (Nat.le_of_ble_eq_true rfl) (Or.inr (Or.inr (Or.inl rfl))) (ZP_ok ok_X2_passesBy 17 0 _ _ _ (show ZP G M_X2_passesBy (d + 1) (RI Φ) sp_X2_passesBy 17 0 [some (.inr (.inr 55)), some (.inr (.inr 62))] [] σ from h))
set_option maxRecDepth 100000 in
theorem en_X2_passesBy_i55_68 {G : zGT} {d : Nat} {Φ : Int32 → zMem → Prop} {σ : zMem}
  (h : CTI G d Y_X2_hasLaw [.inr (.inr 55)] σ (fun (r2 : Int32) (s1 : zMem) => if r2 = 0 then (Φ (0 : Int32) s1) else (if (s1 68 5) ≤ 0 then (Φ (0 : Int32) s1) else (CTI G d Y_X2_passGives [.inr (.inr 55), .inr (.inr 68)] s1 (fun (r4 : Int32) (s3 : zMem) => if r4 = 0 then (Φ (0 : Int32) s3) else (Φ (1 : Int32) s3)))))) :
  CTI G (d + 1) Y_X2_passesBy [.inr (.inr 55), .inr (.inr 68)] σ Φ :=
  CT_of (M := M_X2_passesBy) rfl (Nat.le_of_ble_eq_true rfl) (Or.inr (Or.inr (Or.inl rfl))) (ZP_ok ok_X2_passesBy 17 0 _ _ _ (show ZP G M_X2_passesBy (d + 1) (RI Φ) sp_X2_passesBy 17 0 [some (.inr (.inr 55)), some (.inr (.inr 68))] [] σ from h))
def sp_X2_classPasses : List (Nat × List Bool) := []
set_option maxRecDepth 100000 in
theorem en_X2_classPasses {G : zGT} {d : Nat} {Φ : Int32 → zMem → Prop} {σ : zMem} {v1 : Int32}
  (h : CTV G d Y_X2_tallyClass [.inr (.inr 55), .inr (.inr 62), .inl v1] σ (fun (s1 : zMem) => CTI G d Y_X2_passesBy [.inr (.inr 55), .inr (.inr 62)] s1 (fun (r3 : Int32) (s2 : zMem) => if r3 = 0 ∨ r3 = 1 then (Φ r3 s2) else False))) :
  CTI G (d + 1) Y_X2_classPasses [.inr (.inr 55), .inl v1] σ Φ :=
  CT_of (M := M_X2_classPasses) rfl (Nat.le_of_ble_eq_true rfl) (Or.inr (Or.inr (Or.inl rfl))) (ZP_ok ok_X2_classPasses 14 0 _ _ _ (show ZP G M_X2_classPasses (d + 1) (RI Φ) sp_X2_classPasses 14 0 [some (.inr (.inr 55)), some (.inl v1)] [] σ from h))
def sp_X3_isFull : List (Nat × List Bool) := []
set_option maxRecDepth 100000 in
theorem en_X3_isFull_i6 {G : zGT} {d : Nat} {Φ : Int32 → zMem → Prop} {σ : zMem} {v1 : Int32}
  (h : vp_in v1 24 ∧ (if (σ 9 v1.toNatClampNeg) < (9 : Int32) then (Φ (0 : Int32) σ) else (Φ (1 : Int32) σ))) :
  CTI G d Y_X3_isFull [.inr (.inr 6), .inl v1] σ Φ :=
  CT_of (M := M_X3_isFull) rfl (Nat.le_of_ble_eq_true rfl) (Or.inr (Or.inr (Or.inl rfl))) (ZP_ok ok_X3_isFull 13 0 _ _ _ (show ZP G M_X3_isFull d (RI Φ) sp_X3_isFull 13 0 [some (.inr (.inr 6)), some (.inl v1)] [] σ from h))
set_option maxRecDepth 100000 in
theorem en_X3_isFull_i10 {G : zGT} {d : Nat} {Φ : Int32 → zMem → Prop} {σ : zMem} {v1 : Int32}
  (h : vp_in v1 24 ∧ (if (σ 13 v1.toNatClampNeg) < (9 : Int32) then (Φ (0 : Int32) σ) else (Φ (1 : Int32) σ))) :
  CTI G d Y_X3_isFull [.inr (.inr 10), .inl v1] σ Φ :=
  CT_of (M := M_X3_isFull) rfl (Nat.le_of_ble_eq_true rfl) (Or.inr (Or.inr (Or.inl rfl))) (ZP_ok ok_X3_isFull 13 0 _ _ _ (show ZP G M_X3_isFull d (RI Φ) sp_X3_isFull 13 0 [some (.inr (.inr 10)), some (.inl v1)] [] σ from h))
def sp_X3_write : List (Nat × List Bool) := []
set_option maxRecDepth 100000 in
theorem en_X3_write_i6 {G : zGT} {d : Nat} {Φ : zMem → Prop} {σ : zMem} {v1 v2 v3 : Int32}
  (h : CTI G d Y_X3_isFull [.inr (.inr 6), .inl v1] σ (fun (r2 : Int32) (s1 : zMem) => if r2 = 0 then (vp_in v1 24 ∧ (vp_in ((v1 * (9 : Int32)) + (s1 9 v1.toNatClampNeg)) 216 ∧ ∀ s3 : zMem, s3 = zwr s1 7 ((v1 * (9 : Int32)) + (s1 9 v1.toNatClampNeg)).toNatClampNeg v2 → (vp_in ((v1 * (9 : Int32)) + (s1 9 v1.toNatClampNeg)) 216 ∧ ∀ s4 : zMem, s4 = zwr s3 8 ((v1 * (9 : Int32)) + (s1 9 v1.toNatClampNeg)).toNatClampNeg v3 → (vp_in v1 24 ∧ (vp_in v1 24 ∧ ∀ s5 : zMem, s5 = zwr s4 9 v1.toNatClampNeg ((s4 9 v1.toNatClampNeg) + (1 : Int32)) → (Φ s5)))))) else (Φ s1))) :
  CTV G (d + 1) Y_X3_write [.inr (.inr 6), .inl v1, .inl v2, .inl v3] σ Φ :=
  CT_of (M := M_X3_write) rfl (Nat.le_of_ble_eq_true rfl) (Or.inl rfl) (ZP_ok ok_X3_write 36 0 _ _ _ (show ZP G M_X3_write (d + 1) (RV Φ) sp_X3_write 36 0 [some (.inr (.inr 6)), some (.inl v1), some (.inl v2), some (.inl v3), none] [] σ from h))
set_option maxRecDepth 100000 in
theorem en_X3_write_i10 {G : zGT} {d : Nat} {Φ : zMem → Prop} {σ : zMem} {v1 v2 v3 : Int32}
  (h : CTI G d Y_X3_isFull [.inr (.inr 10), .inl v1] σ (fun (r2 : Int32) (s1 : zMem) => if r2 = 0 then (vp_in v1 24 ∧ (vp_in ((v1 * (9 : Int32)) + (s1 13 v1.toNatClampNeg)) 216 ∧ ∀ s3 : zMem, s3 = zwr s1 11 ((v1 * (9 : Int32)) + (s1 13 v1.toNatClampNeg)).toNatClampNeg v2 → (vp_in ((v1 * (9 : Int32)) + (s1 13 v1.toNatClampNeg)) 216 ∧ ∀ s4 : zMem, s4 = zwr s3 12 ((v1 * (9 : Int32)) + (s1 13 v1.toNatClampNeg)).toNatClampNeg v3 → (vp_in v1 24 ∧ (vp_in v1 24 ∧ ∀ s5 : zMem, s5 = zwr s4 13 v1.toNatClampNeg ((s4 13 v1.toNatClampNeg) + (1 : Int32)) → (Φ s5)))))) else (Φ s1))) :
  CTV G (d + 1) Y_X3_write [.inr (.inr 10), .inl v1, .inl v2, .inl v3] σ Φ :=
  CT_of (M := M_X3_write) rfl (Nat.le_of_ble_eq_true rfl) (Or.inl rfl) (ZP_ok ok_X3_write 36 0 _ _ _ (show ZP G M_X3_write (d + 1) (RV Φ) sp_X3_write 36 0 [some (.inr (.inr 10)), some (.inl v1), some (.inl v2), some (.inl v3), none] [] σ from h))
def sp_X3_asOf : List (Nat × List Bool) := [(10, [true, true, true, true, true])]
set_option maxRecDepth 100000 in
theorem en_X3_asOf_i6 {G : zGT} {d : Nat} {Φ : Int32 → zMem → Prop} {σ : zMem} {v1 v2 v3 : Int32}
  (h : vp_in v1 24 ∧ (WJ G M_X3_asOf d (RI Φ) 10 [some (.inr (.inr 6)), some (.inl v1), some (.inl v2), some (.inl v3), some (.inl ((σ 9 v1.toNatClampNeg) - (1 : Int32)))] [] σ)) :
  CTI G d Y_X3_asOf [.inr (.inr 6), .inl v1, .inl v2, .inl v3] σ Φ :=
  CT_of (M := M_X3_asOf) rfl (Nat.le_of_ble_eq_true rfl) (Or.inr (Or.inl rfl)) (ZP_ok ok_X3_asOf 11 0 _ _ _ (show ZP G M_X3_asOf d (RI Φ) sp_X3_asOf 11 0 [some (.inr (.inr 6)), some (.inl v1), some (.inl v2), some (.inl v3), none] [] σ from h))
set_option maxRecDepth 100000 in
theorem rg_X3_asOf_i6_10 {G : zGT} {d : Nat} {Φ : Int32 → zMem → Prop} {σ : zMem} {v1 v2 v3 v4 : Int32}
  (h : if v4 < 0 then (Φ v3 σ) else (vp_in ((v1 * (9 : Int32)) + v4) 216 ∧ (if v2 < (σ 7 ((v1 * (9 : Int32)) + v4).toNatClampNeg) then (WJ G M_X3_asOf d (RI Φ) 10 [some (.inr (.inr 6)), some (.inl v1), some (.inl v2), some (.inl v3), some (.inl (v4 + (-1)))] [] σ) else (vp_in ((v1 * (9 : Int32)) + v4) 216 ∧ (Φ (σ 8 ((v1 * (9 : Int32)) + v4).toNatClampNeg) σ))))) :
  WJ G M_X3_asOf d (RI Φ) 10 [some (.inr (.inr 6)), some (.inl v1), some (.inl v2), some (.inl v3), some (.inl v4)] [] σ :=
  ZP_ok ok_X3_asOf 25 10 _ _ _ (show ZP G M_X3_asOf d (RI Φ) sp_X3_asOf 25 10 [some (.inr (.inr 6)), some (.inl v1), some (.inl v2), some (.inl v3), some (.inl v4)] [] σ from h)
set_option maxRecDepth 100000 in
theorem en_X3_asOf_i10 {G : zGT} {d : Nat} {Φ : Int32 → zMem → Prop} {σ : zMem} {v1 v2 v3 : Int32}
  (h : vp_in v1 24 ∧ (WJ G M_X3_asOf d (RI Φ) 10 [some (.inr (.inr 10)), some (.inl v1), some (.inl v2), some (.inl v3), some (.inl ((σ 13 v1.toNatClampNeg) - (1 : Int32)))] [] σ)) :
  CTI G d Y_X3_asOf [.inr (.inr 10), .inl v1, .inl v2, .inl v3] σ Φ :=
  CT_of (M := M_X3_asOf) rfl (Nat.le_of_ble_eq_true rfl) (Or.inr (Or.inl rfl)) (ZP_ok ok_X3_asOf 11 0 _ _ _ (show ZP G M_X3_asOf d (RI Φ) sp_X3_asOf 11 0 [some (.inr (.inr 10)), some (.inl v1), some (.inl v2), some (.inl v3), none] [] σ from h))
set_option maxRecDepth 100000 in
theorem rg_X3_asOf_i10_10 {G : zGT} {d : Nat} {Φ : Int32 → zMem → Prop} {σ : zMem} {v1 v2 v3 v4 : Int32}
  (h : if v4 < 0 then (Φ v3 σ) else (vp_in ((v1 * (9 : Int32)) + v4) 216 ∧ (if v2 < (σ 11 ((v1 * (9 : Int32)) + v4).toNatClampNeg) then (WJ G M_X3_asOf d (RI Φ) 10 [some (.inr (.inr 10)), some (.inl v1), some (.inl v2), some (.inl v3), some (.inl (v4 + (-1)))] [] σ) else (vp_in ((v1 * (9 : Int32)) + v4) 216 ∧ (Φ (σ 12 ((v1 * (9 : Int32)) + v4).toNatClampNeg) σ))))) :
  WJ G M_X3_asOf d (RI Φ) 10 [some (.inr (.inr 10)), some (.inl v1), some (.inl v2), some (.inl v3), some (.inl v4)] [] σ :=
  ZP_ok ok_X3_asOf 25 10 _ _ _ (show ZP G M_X3_asOf d (RI Φ) sp_X3_asOf 25 10 [some (.inr (.inr 10)), some (.inl v1), some (.inl v2), some (.inl v3), some (.inl v4)] [] σ from h)
def sp_X3_first : List (Nat × List Bool) := []
set_option maxRecDepth 100000 in
theorem en_X3_first_i6 {G : zGT} {d : Nat} {Φ : Int32 → zMem → Prop} {σ : zMem} {v1 : Int32}
  (h : vp_in (v1 * (9 : Int32)) 216 ∧ (Φ (σ 8 (v1 * (9 : Int32)).toNatClampNeg) σ)) :
  CTI G d Y_X3_first [.inr (.inr 6), .inl v1] σ Φ :=
  CT_of (M := M_X3_first) rfl (Nat.le_of_ble_eq_true rfl) (Or.inr (Or.inl rfl)) (ZP_ok ok_X3_first 11 0 _ _ _ (show ZP G M_X3_first d (RI Φ) sp_X3_first 11 0 [some (.inr (.inr 6)), some (.inl v1)] [] σ from h))
set_option maxRecDepth 100000 in
theorem en_X3_first_i10 {G : zGT} {d : Nat} {Φ : Int32 → zMem → Prop} {σ : zMem} {v1 : Int32}
  (h : vp_in (v1 * (9 : Int32)) 216 ∧ (Φ (σ 12 (v1 * (9 : Int32)).toNatClampNeg) σ)) :
  CTI G d Y_X3_first [.inr (.inr 10), .inl v1] σ Φ :=
  CT_of (M := M_X3_first) rfl (Nat.le_of_ble_eq_true rfl) (Or.inr (Or.inl rfl)) (ZP_ok ok_X3_first 11 0 _ _ _ (show ZP G M_X3_first d (RI Φ) sp_X3_first 11 0 [some (.inr (.inr 10)), some (.inl v1)] [] σ from h))
def sp_X4_add : List (Nat × List Bool) := []
set_option maxRecDepth 100000 in
theorem en_X4_add_i49 {G : zGT} {d : Nat} {Φ : zMem → Prop} {σ : zMem} {v1 : Int32}
  (h : if (Int32.ofNat 96) ≤ (σ 49 2) then (Φ σ) else (vp_in (σ 49 2) 96 ∧ ∀ s1 : zMem, s1 = zwr σ 50 (σ 49 2).toNatClampNeg v1 → (∀ s2 : zMem, s2 = zwr s1 49 2 ((s1 49 2) + (1 : Int32)) → (Φ s2)))) :
  CTV G d Y_X4_add [.inr (.inr 49), .inl v1] σ Φ :=
  CT_of (M := M_X4_add) rfl (Nat.le_of_ble_eq_true rfl) (Or.inl rfl) (ZP_ok ok_X4_add 23 0 _ _ _ (show ZP G M_X4_add d (RV Φ) sp_X4_add 23 0 [some (.inr (.inr 49)), some (.inl v1)] [] σ from h))
set_option maxRecDepth 100000 in
theorem en_X4_add_i52 {G : zGT} {d : Nat} {Φ : zMem → Prop} {σ : zMem} {v1 : Int32}
  (h : if (Int32.ofNat 96) ≤ (σ 52 2) then (Φ σ) else (vp_in (σ 52 2) 96 ∧ ∀ s1 : zMem, s1 = zwr σ 53 (σ 52 2).toNatClampNeg v1 → (∀ s2 : zMem, s2 = zwr s1 52 2 ((s1 52 2) + (1 : Int32)) → (Φ s2)))) :
  CTV G d Y_X4_add [.inr (.inr 52), .inl v1] σ Φ :=
  CT_of (M := M_X4_add) rfl (Nat.le_of_ble_eq_true rfl) (Or.inl rfl) (ZP_ok ok_X4_add 23 0 _ _ _ (show ZP G M_X4_add d (RV Φ) sp_X4_add 23 0 [some (.inr (.inr 52)), some (.inl v1)] [] σ from h))
set_option maxRecDepth 100000 in
theorem en_X4_add_i56 {G : zGT} {d : Nat} {Φ : zMem → Prop} {σ : zMem} {v1 : Int32}
  (h : if (Int32.ofNat 96) ≤ (σ 56 2) then (Φ σ) else (vp_in (σ 56 2) 96 ∧ ∀ s1 : zMem, s1 = zwr σ 57 (σ 56 2).toNatClampNeg v1 → (∀ s2 : zMem, s2 = zwr s1 56 2 ((s1 56 2) + (1 : Int32)) → (Φ s2)))) :
  CTV G d Y_X4_add [.inr (.inr 56), .inl v1] σ Φ :=
  CT_of (M := M_X4_add) rfl (Nat.le_of_ble_eq_true rfl) (Or.inl rfl) (ZP_ok ok_X4_add 23 0 _ _ _ (show ZP G M_X4_add d (RV Φ) sp_X4_add 23 0 [some (.inr (.inr 56)), some (.inl v1)] [] σ from h))
set_option maxRecDepth 100000 in
theorem en_X4_add_i59 {G : zGT} {d : Nat} {Φ : zMem → Prop} {σ : zMem} {v1 : Int32}
  (h : if (Int32.ofNat 96) ≤ (σ 59 2) then (Φ σ) else (vp_in (σ 59 2) 96 ∧ ∀ s1 : zMem, s1 = zwr σ 60 (σ 59 2).toNatClampNeg v1 → (∀ s2 : zMem, s2 = zwr s1 59 2 ((s1 59 2) + (1 : Int32)) → (Φ s2)))) :
  CTV G d Y_X4_add [.inr (.inr 59), .inl v1] σ Φ :=
  CT_of (M := M_X4_add) rfl (Nat.le_of_ble_eq_true rfl) (Or.inl rfl) (ZP_ok ok_X4_add 23 0 _ _ _ (show ZP G M_X4_add d (RV Φ) sp_X4_add 23 0 [some (.inr (.inr 59)), some (.inl v1)] [] σ from h))
def sp_X4_take : List (Nat × List Bool) := [(7, [true, true, true])]
set_option maxRecDepth 100000 in
theorem en_X4_take_i56_49 {G : zGT} {d : Nat} {Φ : zMem → Prop} {σ : zMem}
  (h : ∀ s1 : zMem, s1 = zwr σ 56 2 (0 : Int32) → (WJ G M_X4_take (d + 1) (RV Φ) 7 [some (.inr (.inr 56)), some (.inr (.inr 49)), some (.inl (0 : Int32))] [] s1)) :
  CTV G (d + 1) Y_X4_take [.inr (.inr 56), .inr (.inr 49)] σ Φ :=
  CT_of (M := M_X4_take) rfl (Nat.le_of_ble_eq_true rfl) (Or.inl rfl) (ZP_ok ok_X4_take 9 0 _ _ _ (show ZP G M_X4_take (d + 1) (RV Φ) sp_X4_take 9 0 [some (.inr (.inr 56)), some (.inr (.inr 49)), none] [] σ from h))
set_option maxRecDepth 100000 in
theorem rg_X4_take_i56_49_7 {G : zGT} {d : Nat} {Φ : zMem → Prop} {σ : zMem} {v2 : Int32}
  (h : if (σ 49 2) ≤ v2 then (Φ σ) else (vp_in v2 96 ∧ (CTV G d Y_X4_add [.inr (.inr 56), .inl (σ 50 v2.toNatClampNeg)] σ (fun (s1 : zMem) => WJ G M_X4_take (d + 1) (RV Φ) 7 [some (.inr (.inr 56)), some (.inr (.inr 49)), some (.inl (v2 + 1))] [] s1)))) :
  WJ G M_X4_take (d + 1) (RV Φ) 7 [some (.inr (.inr 56)), some (.inr (.inr 49)), some (.inl v2)] [] σ :=
  ZP_ok ok_X4_take 16 7 _ _ _ (show ZP G M_X4_take (d + 1) (RV Φ) sp_X4_take 16 7 [some (.inr (.inr 56)), some (.inr (.inr 49)), some (.inl v2)] [] σ from h)
set_option maxRecDepth 100000 in
theorem en_X4_take_i59_52 {G : zGT} {d : Nat} {Φ : zMem → Prop} {σ : zMem}
  (h : ∀ s1 : zMem, s1 = zwr σ 59 2 (0 : Int32) → (WJ G M_X4_take (d + 1) (RV Φ) 7 [some (.inr (.inr 59)), some (.inr (.inr 52)), some (.inl (0 : Int32))] [] s1)) :
  CTV G (d + 1) Y_X4_take [.inr (.inr 59), .inr (.inr 52)] σ Φ :=
  CT_of (M := M_X4_take) rfl (Nat.le_of_ble_eq_true rfl) (Or.inl rfl) (ZP_ok ok_X4_take 9 0 _ _ _ (show ZP G M_X4_take (d + 1) (RV Φ) sp_X4_take 9 0 [some (.inr (.inr 59)), some (.inr (.inr 52)), none] [] σ from h))
set_option maxRecDepth 100000 in
theorem rg_X4_take_i59_52_7 {G : zGT} {d : Nat} {Φ : zMem → Prop} {σ : zMem} {v2 : Int32}
  (h : if (σ 52 2) ≤ v2 then (Φ σ) else (vp_in v2 96 ∧ (CTV G d Y_X4_add [.inr (.inr 59), .inl (σ 53 v2.toNatClampNeg)] σ (fun (s1 : zMem) => WJ G M_X4_take (d + 1) (RV Φ) 7 [some (.inr (.inr 59)), some (.inr (.inr 52)), some (.inl (v2 + 1))] [] s1)))) :
  WJ G M_X4_take (d + 1) (RV Φ) 7 [some (.inr (.inr 59)), some (.inr (.inr 52)), some (.inl v2)] [] σ :=
  ZP_ok ok_X4_take 16 7 _ _ _ (show ZP G M_X4_take (d + 1) (RV Φ) sp_X4_take 16 7 [some (.inr (.inr 59)), some (.inr (.inr 52)), some (.inl v2)] [] σ from h)
def sp_X4_uses : List (Nat × List Bool) := [(2, [true, true, true])]
set_option maxRecDepth 100000 in
theorem en_X4_uses {G : zGT} {d : Nat} {Φ : Int32 → zMem → Prop} {σ : zMem} {v1 : Int32}
  (h : WJ G M_X4_uses d (RI Φ) 2 [some (.inr (.inr 59)), some (.inl v1), some (.inl (0 : Int32))] [] σ) :
  CTI G d Y_X4_uses [.inr (.inr 59), .inl v1] σ Φ :=
  CT_of (M := M_X4_uses) rfl (Nat.le_of_ble_eq_true rfl) (Or.inr (Or.inr (Or.inl rfl))) (ZP_ok ok_X4_uses 6 0 _ _ _ (show ZP G M_X4_uses d (RI Φ) sp_X4_uses 6 0 [some (.inr (.inr 59)), some (.inl v1), none] [] σ from h))
set_option maxRecDepth 100000 in
theorem rg_X4_uses_2 {G : zGT} {d : Nat} {Φ : Int32 → zMem → Prop} {σ : zMem} {v1 v2 : Int32}
  (h : if (σ 59 2) ≤ v2 then (Φ (0 : Int32) σ) else (vp_in v2 96 ∧ (if (σ 60 v2.toNatClampNeg) = (-v1) then (Φ (1 : Int32) σ) else (WJ G M_X4_uses d (RI Φ) 2 [some (.inr (.inr 59)), some (.inl v1), some (.inl (v2 + 1))] [] σ)))) :
  WJ G M_X4_uses d (RI Φ) 2 [some (.inr (.inr 59)), some (.inl v1), some (.inl v2)] [] σ :=
  ZP_ok ok_X4_uses 17 2 _ _ _ (show ZP G M_X4_uses d (RI Φ) sp_X4_uses 17 2 [some (.inr (.inr 59)), some (.inl v1), some (.inl v2)] [] σ from h)
def sp_X4_work : List (Nat × List Bool) := [(4, [true, true, true, true, false, false, false]), (47, [true, true, true, true, true, true, true])]
set_option maxRecDepth 100000 in
theorem en_X4_work_i56_63 {G : zGT} {d : Nat} {Φ : Int32 → zMem → Prop} {σ : zMem}
  (h : WJ G M_X4_work (d + 1) (RI Φ) 4 [some (.inr (.inr 56)), some (.inr (.inr 63)), some (.inl (0 : Int32)), some (.inl (0 : Int32)), none, none, none] [] σ) :
  CTI G (d + 1) Y_X4_work [.inr (.inr 56), .inr (.inr 63)] σ Φ :=
  CT_of (M := M_X4_work) rfl (Nat.le_of_ble_eq_true rfl) (Or.inr (Or.inl rfl)) (ZP_ok ok_X4_work 8 0 _ _ _ (show ZP G M_X4_work (d + 1) (RI Φ) sp_X4_work 8 0 [some (.inr (.inr 56)), some (.inr (.inr 63)), none, none, none, none, none] [] σ from h))
set_option maxRecDepth 100000 in
theorem rg_X4_work_i56_63_4 {G : zGT} {d : Nat} {Φ : Int32 → zMem → Prop} {σ : zMem} {v2 v3 : Int32}
  (h : if (σ 56 2) ≤ v3 then (if v2 ≤ 0 then (Φ (0 : Int32) σ) else (vp_in (0 : Int32) 96 ∧ (Φ (σ 58 (0 : Int32).toNatClampNeg) σ))) else (vp_in v3 96 ∧ (if ((-(σ 57 v3.toNatClampNeg)) - (97 : Int32)) < 0 then (WJ G M_X4_work (d + 1) (RI Φ) 47 [some (.inr (.inr 56)), some (.inr (.inr 63)), some (.inl v2), some (.inl v3), some (.inl (σ 57 v3.toNatClampNeg)), some (.inl ((-(σ 57 v3.toNatClampNeg)) - (97 : Int32))), some (.inl (0 : Int32))] [] σ) else (if (Int32.ofNat 26) ≤ ((-(σ 57 v3.toNatClampNeg)) - (97 : Int32)) then (WJ G M_X4_work (d + 1) (RI Φ) 47 [some (.inr (.inr 56)), some (.inr (.inr 63)), some (.inl v2), some (.inl v3), some (.inl (σ 57 v3.toNatClampNeg)), some (.inl ((-(σ 57 v3.toNatClampNeg)) - (97 : Int32))), some (.inl (0 : Int32))] [] σ) else (WJ G M_X4_work (d + 1) (RI Φ) 47 [some (.inr (.inr 56)), some (.inr (.inr 63)), some (.inl v2), some (.inl v3), some (.inl (σ 57 v3.toNatClampNeg)), some (.inl ((-(σ 57 v3.toNatClampNeg)) - (97 : Int32))), some (.inl (1 : Int32))] [] σ))))) :
  WJ G M_X4_work (d + 1) (RI Φ) 4 [some (.inr (.inr 56)), some (.inr (.inr 63)), some (.inl v2), some (.inl v3), none, none, none] [] σ :=
  ZP_ok ok_X4_work 27 4 _ _ _ (show ZP G M_X4_work (d + 1) (RI Φ) sp_X4_work 27 4 [some (.inr (.inr 56)), some (.inr (.inr 63)), some (.inl v2), some (.inl v3), none, none, none] [] σ from h)
set_option maxRecDepth 100000 in
theorem rg_X4_work_i56_63_47 {G : zGT} {d : Nat} {Φ : Int32 → zMem → Prop} {σ : zMem} {v2 v3 v4 v5 v6 : Int32}
  (h : if 0 ≤ v4 then (if (Int32.ofNat 96) ≤ v2 then (if v4 = (-33 : Int32) then (if v2 < (1 : Int32) then (if v4 = (-1 : Int32) then (if v2 < (1 : Int32) then (if v2 < (2 : Int32) then (WJ G M_X4_work (d + 1) (RI Φ) 4 [some (.inr (.inr 56)), some (.inr (.inr 63)), some (.inl v2), some (.inl (v3 + 1)), none, none, none] [] σ) else (vp_in ((v2 + (-1)) - (1 : Int32)) 96 ∧ (vp_in (v2 + (-1)) 96 ∧ (CTI G d Y_X4_joined [.inl v4, .inl (σ 58 ((v2 + (-1)) - (1 : Int32)).toNatClampNeg), .inl (σ 58 (v2 + (-1)).toNatClampNeg)] σ (fun (r2 : Int32) (s1 : zMem) => vp_in ((v2 + (-1)) - (1 : Int32)) 96 ∧ ∀ s3 : zMem, s3 = zwr s1 58 ((v2 + (-1)) - (1 : Int32)).toNatClampNeg r2 → (WJ G M_X4_work (d + 1) (RI Φ) 4 [some (.inr (.inr 56)), some (.inr (.inr 63)), some (.inl (v2 + (-1))), some (.inl (v3 + 1)), none, none, none] [] s3)))))) else (vp_in (v2 - (1 : Int32)) 96 ∧ (vp_in (v2 - (1 : Int32)) 96 ∧ ∀ s4 : zMem, s4 = zwr σ 58 (v2 - (1 : Int32)).toNatClampNeg (-(σ 58 (v2 - (1 : Int32)).toNatClampNeg)) → (WJ G M_X4_work (d + 1) (RI Φ) 4 [some (.inr (.inr 56)), some (.inr (.inr 63)), some (.inl v2), some (.inl (v3 + 1)), none, none, none] [] s4)))) else (if v2 < (2 : Int32) then (WJ G M_X4_work (d + 1) (RI Φ) 4 [some (.inr (.inr 56)), some (.inr (.inr 63)), some (.inl v2), some (.inl (v3 + 1)), none, none, none] [] σ) else (vp_in ((v2 + (-1)) - (1 : Int32)) 96 ∧ (vp_in (v2 + (-1)) 96 ∧ (CTI G d Y_X4_joined [.inl v4, .inl (σ 58 ((v2 + (-1)) - (1 : Int32)).toNatClampNeg), .inl (σ 58 (v2 + (-1)).toNatClampNeg)] σ (fun (r6 : Int32) (s5 : zMem) => vp_in ((v2 + (-1)) - (1 : Int32)) 96 ∧ ∀ s7 : zMem, s7 = zwr s5 58 ((v2 + (-1)) - (1 : Int32)).toNatClampNeg r6 → (WJ G M_X4_work (d + 1) (RI Φ) 4 [some (.inr (.inr 56)), some (.inr (.inr 63)), some (.inl (v2 + (-1))), some (.inl (v3 + 1)), none, none, none] [] s7))))))) else (vp_in (v2 - (1 : Int32)) 96 ∧ (if (σ 58 (v2 - (1 : Int32)).toNatClampNeg) = 0 then (vp_in (v2 - (1 : Int32)) 96 ∧ ∀ s8 : zMem, s8 = zwr σ 58 (v2 - (1 : Int32)).toNatClampNeg (1 : Int32) → (WJ G M_X4_work (d + 1) (RI Φ) 4 [some (.inr (.inr 56)), some (.inr (.inr 63)), some (.inl v2), some (.inl (v3 + 1)), none, none, none] [] s8)) else (vp_in (v2 - (1 : Int32)) 96 ∧ ∀ s9 : zMem, s9 = zwr σ 58 (v2 - (1 : Int32)).toNatClampNeg (0 : Int32) → (WJ G M_X4_work (d + 1) (RI Φ) 4 [some (.inr (.inr 56)), some (.inr (.inr 63)), some (.inl v2), some (.inl (v3 + 1)), none, none, none] [] s9))))) else (if v4 = (-1 : Int32) then (if v2 < (1 : Int32) then (if v2 < (2 : Int32) then (WJ G M_X4_work (d + 1) (RI Φ) 4 [some (.inr (.inr 56)), some (.inr (.inr 63)), some (.inl v2), some (.inl (v3 + 1)), none, none, none] [] σ) else (vp_in ((v2 + (-1)) - (1 : Int32)) 96 ∧ (vp_in (v2 + (-1)) 96 ∧ (CTI G d Y_X4_joined [.inl v4, .inl (σ 58 ((v2 + (-1)) - (1 : Int32)).toNatClampNeg), .inl (σ 58 (v2 + (-1)).toNatClampNeg)] σ (fun (r11 : Int32) (s10 : zMem) => vp_in ((v2 + (-1)) - (1 : Int32)) 96 ∧ ∀ s12 : zMem, s12 = zwr s10 58 ((v2 + (-1)) - (1 : Int32)).toNatClampNeg r11 → (WJ G M_X4_work (d + 1) (RI Φ) 4 [some (.inr (.inr 56)), some (.inr (.inr 63)), some (.inl (v2 + (-1))), some (.inl (v3 + 1)), none, none, none] [] s12)))))) else (vp_in (v2 - (1 : Int32)) 96 ∧ (vp_in (v2 - (1 : Int32)) 96 ∧ ∀ s13 : zMem, s13 = zwr σ 58 (v2 - (1 : Int32)).toNatClampNeg (-(σ 58 (v2 - (1 : Int32)).toNatClampNeg)) → (WJ G M_X4_work (d + 1) (RI Φ) 4 [some (.inr (.inr 56)), some (.inr (.inr 63)), some (.inl v2), some (.inl (v3 + 1)), none, none, none] [] s13)))) else (if v2 < (2 : Int32) then (WJ G M_X4_work (d + 1) (RI Φ) 4 [some (.inr (.inr 56)), some (.inr (.inr 63)), some (.inl v2), some (.inl (v3 + 1)), none, none, none] [] σ) else (vp_in ((v2 + (-1)) - (1 : Int32)) 96 ∧ (vp_in (v2 + (-1)) 96 ∧ (CTI G d Y_X4_joined [.inl v4, .inl (σ 58 ((v2 + (-1)) - (1 : Int32)).toNatClampNeg), .inl (σ 58 (v2 + (-1)).toNatClampNeg)] σ (fun (r15 : Int32) (s14 : zMem) => vp_in ((v2 + (-1)) - (1 : Int32)) 96 ∧ ∀ s16 : zMem, s16 = zwr s14 58 ((v2 + (-1)) - (1 : Int32)).toNatClampNeg r15 → (WJ G M_X4_work (d + 1) (RI Φ) 4 [some (.inr (.inr 56)), some (.inr (.inr 63)), some (.inl (v2 + (-1))), some (.inl (v3 + 1)), none, none, none] [] s16)))))))) else (if v6 = 0 then (vp_in v2 96 ∧ ∀ s17 : zMem, s17 = zwr σ 58 v2.toNatClampNeg v4 → (WJ G M_X4_work (d + 1) (RI Φ) 4 [some (.inr (.inr 56)), some (.inr (.inr 63)), some (.inl (v2 + 1)), some (.inl (v3 + 1)), none, none, none] [] s17)) else (vp_in v5 26 ∧ (vp_in v2 96 ∧ ∀ s18 : zMem, s18 = zwr σ 58 v2.toNatClampNeg (σ 63 v5.toNatClampNeg) → (WJ G M_X4_work (d + 1) (RI Φ) 4 [some (.inr (.inr 56)), some (.inr (.inr 63)), some (.inl (v2 + 1)), some (.inl (v3 + 1)), none, none, none] [] s18))))) else (if v6 = 0 then (if v4 = (-33 : Int32) then (if v2 < (1 : Int32) then (if v4 = (-1 : Int32) then (if v2 < (1 : Int32) then (if v2 < (2 : Int32) then (WJ G M_X4_work (d + 1) (RI Φ) 4 [some (.inr (.inr 56)), some (.inr (.inr 63)), some (.inl v2), some (.inl (v3 + 1)), none, none, none] [] σ) else (vp_in ((v2 + (-1)) - (1 : Int32)) 96 ∧ (vp_in (v2 + (-1)) 96 ∧ (CTI G d Y_X4_joined [.inl v4, .inl (σ 58 ((v2 + (-1)) - (1 : Int32)).toNatClampNeg), .inl (σ 58 (v2 + (-1)).toNatClampNeg)] σ (fun (r20 : Int32) (s19 : zMem) => vp_in ((v2 + (-1)) - (1 : Int32)) 96 ∧ ∀ s21 : zMem, s21 = zwr s19 58 ((v2 + (-1)) - (1 : Int32)).toNatClampNeg r20 → (WJ G M_X4_work (d + 1) (RI Φ) 4 [some (.inr (.inr 56)), some (.inr (.inr 63)), some (.inl (v2 + (-1))), some (.inl (v3 + 1)), none, none, none] [] s21)))))) else (vp_in (v2 - (1 : Int32)) 96 ∧ (vp_in (v2 - (1 : Int32)) 96 ∧ ∀ s22 : zMem, s22 = zwr σ 58 (v2 - (1 : Int32)).toNatClampNeg (-(σ 58 (v2 - (1 : Int32)).toNatClampNeg)) → (WJ G M_X4_work (d + 1) (RI Φ) 4 [some (.inr (.inr 56)), some (.inr (.inr 63)), some (.inl v2), some (.inl (v3 + 1)), none, none, none] [] s22)))) else (if v2 < (2 : Int32) then (WJ G M_X4_work (d + 1) (RI Φ) 4 [some (.inr (.inr 56)), some (.inr (.inr 63)), some (.inl v2), some (.inl (v3 + 1)), none, none, none] [] σ) else (vp_in ((v2 + (-1)) - (1 : Int32)) 96 ∧ (vp_in (v2 + (-1)) 96 ∧ (CTI G d Y_X4_joined [.inl v4, .inl (σ 58 ((v2 + (-1)) - (1 : Int32)).toNatClampNeg), .inl (σ 58 (v2 + (-1)).toNatClampNeg)] σ (fun (r24 : Int32) (s23 : zMem) => vp_in ((v2 + (-1)) - (1 : Int32)) 96 ∧ ∀ s25 : zMem, s25 = zwr s23 58 ((v2 + (-1)) - (1 : Int32)).toNatClampNeg r24 → (WJ G M_X4_work (d + 1) (RI Φ) 4 [some (.inr (.inr 56)), some (.inr (.inr 63)), some (.inl (v2 + (-1))), some (.inl (v3 + 1)), none, none, none] [] s25))))))) else (vp_in (v2 - (1 : Int32)) 96 ∧ (if (σ 58 (v2 - (1 : Int32)).toNatClampNeg) = 0 then (vp_in (v2 - (1 : Int32)) 96 ∧ ∀ s26 : zMem, s26 = zwr σ 58 (v2 - (1 : Int32)).toNatClampNeg (1 : Int32) → (WJ G M_X4_work (d + 1) (RI Φ) 4 [some (.inr (.inr 56)), some (.inr (.inr 63)), some (.inl v2), some (.inl (v3 + 1)), none, none, none] [] s26)) else (vp_in (v2 - (1 : Int32)) 96 ∧ ∀ s27 : zMem, s27 = zwr σ 58 (v2 - (1 : Int32)).toNatClampNeg (0 : Int32) → (WJ G M_X4_work (d + 1) (RI Φ) 4 [some (.inr (.inr 56)), some (.inr (.inr 63)), some (.inl v2), some (.inl (v3 + 1)), none, none, none] [] s27))))) else (if v4 = (-1 : Int32) then (if v2 < (1 : Int32) then (if v2 < (2 : Int32) then (WJ G M_X4_work (d + 1) (RI Φ) 4 [some (.inr (.inr 56)), some (.inr (.inr 63)), some (.inl v2), some (.inl (v3 + 1)), none, none, none] [] σ) else (vp_in ((v2 + (-1)) - (1 : Int32)) 96 ∧ (vp_in (v2 + (-1)) 96 ∧ (CTI G d Y_X4_joined [.inl v4, .inl (σ 58 ((v2 + (-1)) - (1 : Int32)).toNatClampNeg), .inl (σ 58 (v2 + (-1)).toNatClampNeg)] σ (fun (r29 : Int32) (s28 : zMem) => vp_in ((v2 + (-1)) - (1 : Int32)) 96 ∧ ∀ s30 : zMem, s30 = zwr s28 58 ((v2 + (-1)) - (1 : Int32)).toNatClampNeg r29 → (WJ G M_X4_work (d + 1) (RI Φ) 4 [some (.inr (.inr 56)), some (.inr (.inr 63)), some (.inl (v2 + (-1))), some (.inl (v3 + 1)), none, none, none] [] s30)))))) else (vp_in (v2 - (1 : Int32)) 96 ∧ (vp_in (v2 - (1 : Int32)) 96 ∧ ∀ s31 : zMem, s31 = zwr σ 58 (v2 - (1 : Int32)).toNatClampNeg (-(σ 58 (v2 - (1 : Int32)).toNatClampNeg)) → (WJ G M_X4_work (d + 1) (RI Φ) 4 [some (.inr (.inr 56)), some (.inr (.inr 63)), some (.inl v2), some (.inl (v3 + 1)), none, none, none] [] s31)))) else (if v2 < (2 : Int32) then (WJ G M_X4_work (d + 1) (RI Φ) 4 [some (.inr (.inr 56)), some (.inr (.inr 63)), some (.inl v2), some (.inl (v3 + 1)), none, none, none] [] σ) else (vp_in ((v2 + (-1)) - (1 : Int32)) 96 ∧ (vp_in (v2 + (-1)) 96 ∧ (CTI G d Y_X4_joined [.inl v4, .inl (σ 58 ((v2 + (-1)) - (1 : Int32)).toNatClampNeg), .inl (σ 58 (v2 + (-1)).toNatClampNeg)] σ (fun (r33 : Int32) (s32 : zMem) => vp_in ((v2 + (-1)) - (1 : Int32)) 96 ∧ ∀ s34 : zMem, s34 = zwr s32 58 ((v2 + (-1)) - (1 : Int32)).toNatClampNeg r33 → (WJ G M_X4_work (d + 1) (RI Φ) 4 [some (.inr (.inr 56)), some (.inr (.inr 63)), some (.inl (v2 + (-1))), some (.inl (v3 + 1)), none, none, none] [] s34)))))))) else (if (Int32.ofNat 96) ≤ v2 then (if v4 = (-33 : Int32) then (if v2 < (1 : Int32) then (if v4 = (-1 : Int32) then (if v2 < (1 : Int32) then (if v2 < (2 : Int32) then (WJ G M_X4_work (d + 1) (RI Φ) 4 [some (.inr (.inr 56)), some (.inr (.inr 63)), some (.inl v2), some (.inl (v3 + 1)), none, none, none] [] σ) else (vp_in ((v2 + (-1)) - (1 : Int32)) 96 ∧ (vp_in (v2 + (-1)) 96 ∧ (CTI G d Y_X4_joined [.inl v4, .inl (σ 58 ((v2 + (-1)) - (1 : Int32)).toNatClampNeg), .inl (σ 58 (v2 + (-1)).toNatClampNeg)] σ (fun (r36 : Int32) (s35 : zMem) => vp_in ((v2 + (-1)) - (1 : Int32)) 96 ∧ ∀ s37 : zMem, s37 = zwr s35 58 ((v2 + (-1)) - (1 : Int32)).toNatClampNeg r36 → (WJ G M_X4_work (d + 1) (RI Φ) 4 [some (.inr (.inr 56)), some (.inr (.inr 63)), some (.inl (v2 + (-1))), some (.inl (v3 + 1)), none, none, none] [] s37)))))) else (vp_in (v2 - (1 : Int32)) 96 ∧ (vp_in (v2 - (1 : Int32)) 96 ∧ ∀ s38 : zMem, s38 = zwr σ 58 (v2 - (1 : Int32)).toNatClampNeg (-(σ 58 (v2 - (1 : Int32)).toNatClampNeg)) → (WJ G M_X4_work (d + 1) (RI Φ) 4 [some (.inr (.inr 56)), some (.inr (.inr 63)), some (.inl v2), some (.inl (v3 + 1)), none, none, none] [] s38)))) else (if v2 < (2 : Int32) then (WJ G M_X4_work (d + 1) (RI Φ) 4 [some (.inr (.inr 56)), some (.inr (.inr 63)), some (.inl v2), some (.inl (v3 + 1)), none, none, none] [] σ) else (vp_in ((v2 + (-1)) - (1 : Int32)) 96 ∧ (vp_in (v2 + (-1)) 96 ∧ (CTI G d Y_X4_joined [.inl v4, .inl (σ 58 ((v2 + (-1)) - (1 : Int32)).toNatClampNeg), .inl (σ 58 (v2 + (-1)).toNatClampNeg)] σ (fun (r40 : Int32) (s39 : zMem) => vp_in ((v2 + (-1)) - (1 : Int32)) 96 ∧ ∀ s41 : zMem, s41 = zwr s39 58 ((v2 + (-1)) - (1 : Int32)).toNatClampNeg r40 → (WJ G M_X4_work (d + 1) (RI Φ) 4 [some (.inr (.inr 56)), some (.inr (.inr 63)), some (.inl (v2 + (-1))), some (.inl (v3 + 1)), none, none, none] [] s41))))))) else (vp_in (v2 - (1 : Int32)) 96 ∧ (if (σ 58 (v2 - (1 : Int32)).toNatClampNeg) = 0 then (vp_in (v2 - (1 : Int32)) 96 ∧ ∀ s42 : zMem, s42 = zwr σ 58 (v2 - (1 : Int32)).toNatClampNeg (1 : Int32) → (WJ G M_X4_work (d + 1) (RI Φ) 4 [some (.inr (.inr 56)), some (.inr (.inr 63)), some (.inl v2), some (.inl (v3 + 1)), none, none, none] [] s42)) else (vp_in (v2 - (1 : Int32)) 96 ∧ ∀ s43 : zMem, s43 = zwr σ 58 (v2 - (1 : Int32)).toNatClampNeg (0 : Int32) → (WJ G M_X4_work (d + 1) (RI Φ) 4 [some (.inr (.inr 56)), some (.inr (.inr 63)), some (.inl v2), some (.inl (v3 + 1)), none, none, none] [] s43))))) else (if v4 = (-1 : Int32) then (if v2 < (1 : Int32) then (if v2 < (2 : Int32) then (WJ G M_X4_work (d + 1) (RI Φ) 4 [some (.inr (.inr 56)), some (.inr (.inr 63)), some (.inl v2), some (.inl (v3 + 1)), none, none, none] [] σ) else (vp_in ((v2 + (-1)) - (1 : Int32)) 96 ∧ (vp_in (v2 + (-1)) 96 ∧ (CTI G d Y_X4_joined [.inl v4, .inl (σ 58 ((v2 + (-1)) - (1 : Int32)).toNatClampNeg), .inl (σ 58 (v2 + (-1)).toNatClampNeg)] σ (fun (r45 : Int32) (s44 : zMem) => vp_in ((v2 + (-1)) - (1 : Int32)) 96 ∧ ∀ s46 : zMem, s46 = zwr s44 58 ((v2 + (-1)) - (1 : Int32)).toNatClampNeg r45 → (WJ G M_X4_work (d + 1) (RI Φ) 4 [some (.inr (.inr 56)), some (.inr (.inr 63)), some (.inl (v2 + (-1))), some (.inl (v3 + 1)), none, none, none] [] s46)))))) else (vp_in (v2 - (1 : Int32)) 96 ∧ (vp_in (v2 - (1 : Int32)) 96 ∧ ∀ s47 : zMem, s47 = zwr σ 58 (v2 - (1 : Int32)).toNatClampNeg (-(σ 58 (v2 - (1 : Int32)).toNatClampNeg)) → (WJ G M_X4_work (d + 1) (RI Φ) 4 [some (.inr (.inr 56)), some (.inr (.inr 63)), some (.inl v2), some (.inl (v3 + 1)), none, none, none] [] s47)))) else (if v2 < (2 : Int32) then (WJ G M_X4_work (d + 1) (RI Φ) 4 [some (.inr (.inr 56)), some (.inr (.inr 63)), some (.inl v2), some (.inl (v3 + 1)), none, none, none] [] σ) else (vp_in ((v2 + (-1)) - (1 : Int32)) 96 ∧ (vp_in (v2 + (-1)) 96 ∧ (CTI G d Y_X4_joined [.inl v4, .inl (σ 58 ((v2 + (-1)) - (1 : Int32)).toNatClampNeg), .inl (σ 58 (v2 + (-1)).toNatClampNeg)] σ (fun (r49 : Int32) (s48 : zMem) => vp_in ((v2 + (-1)) - (1 : Int32)) 96 ∧ ∀ s50 : zMem, s50 = zwr s48 58 ((v2 + (-1)) - (1 : Int32)).toNatClampNeg r49 → (WJ G M_X4_work (d + 1) (RI Φ) 4 [some (.inr (.inr 56)), some (.inr (.inr 63)), some (.inl (v2 + (-1))), some (.inl (v3 + 1)), none, none, none] [] s50)))))))) else (if v6 = 0 then (vp_in v2 96 ∧ ∀ s51 : zMem, s51 = zwr σ 58 v2.toNatClampNeg v4 → (WJ G M_X4_work (d + 1) (RI Φ) 4 [some (.inr (.inr 56)), some (.inr (.inr 63)), some (.inl (v2 + 1)), some (.inl (v3 + 1)), none, none, none] [] s51)) else (vp_in v5 26 ∧ (vp_in v2 96 ∧ ∀ s52 : zMem, s52 = zwr σ 58 v2.toNatClampNeg (σ 63 v5.toNatClampNeg) → (WJ G M_X4_work (d + 1) (RI Φ) 4 [some (.inr (.inr 56)), some (.inr (.inr 63)), some (.inl (v2 + 1)), some (.inl (v3 + 1)), none, none, none] [] s52))))))) :
  WJ G M_X4_work (d + 1) (RI Φ) 47 [some (.inr (.inr 56)), some (.inr (.inr 63)), some (.inl v2), some (.inl v3), some (.inl v4), some (.inl v5), some (.inl v6)] [] σ :=
  ZP_ok ok_X4_work 49 47 _ _ _ (show ZP G M_X4_work (d + 1) (RI Φ) sp_X4_work 49 47 [some (.inr (.inr 56)), some (.inr (.inr 63)), some (.inl v2), some (.inl v3), some (.inl v4), some (.inl v5), some (.inl v6)] [] σ from h)
set_option maxRecDepth 100000 in
theorem en_X4_work_i59_63 {G : zGT} {d : Nat} {Φ : Int32 → zMem → Prop} {σ : zMem}
  (h : WJ G M_X4_work (d + 1) (RI Φ) 4 [some (.inr (.inr 59)), some (.inr (.inr 63)), some (.inl (0 : Int32)), some (.inl (0 : Int32)), none, none, none] [] σ) :
  CTI G (d + 1) Y_X4_work [.inr (.inr 59), .inr (.inr 63)] σ Φ :=
  CT_of (M := M_X4_work) rfl (Nat.le_of_ble_eq_true rfl) (Or.inr (Or.inl rfl)) (ZP_ok ok_X4_work 8 0 _ _ _ (show ZP G M_X4_work (d + 1) (RI Φ) sp_X4_work 8 0 [some (.inr (.inr 59)), some (.inr (.inr 63)), none, none, none, none, none] [] σ from h))
set_option maxRecDepth 100000 in
theorem rg_X4_work_i59_63_4 {G : zGT} {d : Nat} {Φ : Int32 → zMem → Prop} {σ : zMem} {v2 v3 : Int32}
  (h : if (σ 59 2) ≤ v3 then (if v2 ≤ 0 then (Φ (0 : Int32) σ) else (vp_in (0 : Int32) 96 ∧ (Φ (σ 61 (0 : Int32).toNatClampNeg) σ))) else (vp_in v3 96 ∧ (if ((-(σ 60 v3.toNatClampNeg)) - (97 : Int32)) < 0 then (WJ G M_X4_work (d + 1) (RI Φ) 47 [some (.inr (.inr 59)), some (.inr (.inr 63)), some (.inl v2), some (.inl v3), some (.inl (σ 60 v3.toNatClampNeg)), some (.inl ((-(σ 60 v3.toNatClampNeg)) - (97 : Int32))), some (.inl (0 : Int32))] [] σ) else (if (Int32.ofNat 26) ≤ ((-(σ 60 v3.toNatClampNeg)) - (97 : Int32)) then (WJ G M_X4_work (d + 1) (RI Φ) 47 [some (.inr (.inr 59)), some (.inr (.inr 63)), some (.inl v2), some (.inl v3), some (.inl (σ 60 v3.toNatClampNeg)), some (.inl ((-(σ 60 v3.toNatClampNeg)) - (97 : Int32))), some (.inl (0 : Int32))] [] σ) else (WJ G M_X4_work (d + 1) (RI Φ) 47 [some (.inr (.inr 59)), some (.inr (.inr 63)), some (.inl v2), some (.inl v3), some (.inl (σ 60 v3.toNatClampNeg)), some (.inl ((-(σ 60 v3.toNatClampNeg)) - (97 : Int32))), some (.inl (1 : Int32))] [] σ))))) :
  WJ G M_X4_work (d + 1) (RI Φ) 4 [some (.inr (.inr 59)), some (.inr (.inr 63)), some (.inl v2), some (.inl v3), none, none, none] [] σ :=
  ZP_ok ok_X4_work 27 4 _ _ _ (show ZP G M_X4_work (d + 1) (RI Φ) sp_X4_work 27 4 [some (.inr (.inr 59)), some (.inr (.inr 63)), some (.inl v2), some (.inl v3), none, none, none] [] σ from h)
set_option maxRecDepth 100000 in
theorem rg_X4_work_i59_63_47 {G : zGT} {d : Nat} {Φ : Int32 → zMem → Prop} {σ : zMem} {v2 v3 v4 v5 v6 : Int32}
  (h : if 0 ≤ v4 then (if (Int32.ofNat 96) ≤ v2 then (if v4 = (-33 : Int32) then (if v2 < (1 : Int32) then (if v4 = (-1 : Int32) then (if v2 < (1 : Int32) then (if v2 < (2 : Int32) then (WJ G M_X4_work (d + 1) (RI Φ) 4 [some (.inr (.inr 59)), some (.inr (.inr 63)), some (.inl v2), some (.inl (v3 + 1)), none, none, none] [] σ) else (vp_in ((v2 + (-1)) - (1 : Int32)) 96 ∧ (vp_in (v2 + (-1)) 96 ∧ (CTI G d Y_X4_joined [.inl v4, .inl (σ 61 ((v2 + (-1)) - (1 : Int32)).toNatClampNeg), .inl (σ 61 (v2 + (-1)).toNatClampNeg)] σ (fun (r2 : Int32) (s1 : zMem) => vp_in ((v2 + (-1)) - (1 : Int32)) 96 ∧ ∀ s3 : zMem, s3 = zwr s1 61 ((v2 + (-1)) - (1 : Int32)).toNatClampNeg r2 → (WJ G M_X4_work (d + 1) (RI Φ) 4 [some (.inr (.inr 59)), some (.inr (.inr 63)), some (.inl (v2 + (-1))), some (.inl (v3 + 1)), none, none, none] [] s3)))))) else (vp_in (v2 - (1 : Int32)) 96 ∧ (vp_in (v2 - (1 : Int32)) 96 ∧ ∀ s4 : zMem, s4 = zwr σ 61 (v2 - (1 : Int32)).toNatClampNeg (-(σ 61 (v2 - (1 : Int32)).toNatClampNeg)) → (WJ G M_X4_work (d + 1) (RI Φ) 4 [some (.inr (.inr 59)), some (.inr (.inr 63)), some (.inl v2), some (.inl (v3 + 1)), none, none, none] [] s4)))) else (if v2 < (2 : Int32) then (WJ G M_X4_work (d + 1) (RI Φ) 4 [some (.inr (.inr 59)), some (.inr (.inr 63)), some (.inl v2), some (.inl (v3 + 1)), none, none, none] [] σ) else (vp_in ((v2 + (-1)) - (1 : Int32)) 96 ∧ (vp_in (v2 + (-1)) 96 ∧ (CTI G d Y_X4_joined [.inl v4, .inl (σ 61 ((v2 + (-1)) - (1 : Int32)).toNatClampNeg), .inl (σ 61 (v2 + (-1)).toNatClampNeg)] σ (fun (r6 : Int32) (s5 : zMem) => vp_in ((v2 + (-1)) - (1 : Int32)) 96 ∧ ∀ s7 : zMem, s7 = zwr s5 61 ((v2 + (-1)) - (1 : Int32)).toNatClampNeg r6 → (WJ G M_X4_work (d + 1) (RI Φ) 4 [some (.inr (.inr 59)), some (.inr (.inr 63)), some (.inl (v2 + (-1))), some (.inl (v3 + 1)), none, none, none] [] s7))))))) else (vp_in (v2 - (1 : Int32)) 96 ∧ (if (σ 61 (v2 - (1 : Int32)).toNatClampNeg) = 0 then (vp_in (v2 - (1 : Int32)) 96 ∧ ∀ s8 : zMem, s8 = zwr σ 61 (v2 - (1 : Int32)).toNatClampNeg (1 : Int32) → (WJ G M_X4_work (d + 1) (RI Φ) 4 [some (.inr (.inr 59)), some (.inr (.inr 63)), some (.inl v2), some (.inl (v3 + 1)), none, none, none] [] s8)) else (vp_in (v2 - (1 : Int32)) 96 ∧ ∀ s9 : zMem, s9 = zwr σ 61 (v2 - (1 : Int32)).toNatClampNeg (0 : Int32) → (WJ G M_X4_work (d + 1) (RI Φ) 4 [some (.inr (.inr 59)), some (.inr (.inr 63)), some (.inl v2), some (.inl (v3 + 1)), none, none, none] [] s9))))) else (if v4 = (-1 : Int32) then (if v2 < (1 : Int32) then (if v2 < (2 : Int32) then (WJ G M_X4_work (d + 1) (RI Φ) 4 [some (.inr (.inr 59)), some (.inr (.inr 63)), some (.inl v2), some (.inl (v3 + 1)), none, none, none] [] σ) else (vp_in ((v2 + (-1)) - (1 : Int32)) 96 ∧ (vp_in (v2 + (-1)) 96 ∧ (CTI G d Y_X4_joined [.inl v4, .inl (σ 61 ((v2 + (-1)) - (1 : Int32)).toNatClampNeg), .inl (σ 61 (v2 + (-1)).toNatClampNeg)] σ (fun (r11 : Int32) (s10 : zMem) => vp_in ((v2 + (-1)) - (1 : Int32)) 96 ∧ ∀ s12 : zMem, s12 = zwr s10 61 ((v2 + (-1)) - (1 : Int32)).toNatClampNeg r11 → (WJ G M_X4_work (d + 1) (RI Φ) 4 [some (.inr (.inr 59)), some (.inr (.inr 63)), some (.inl (v2 + (-1))), some (.inl (v3 + 1)), none, none, none] [] s12)))))) else (vp_in (v2 - (1 : Int32)) 96 ∧ (vp_in (v2 - (1 : Int32)) 96 ∧ ∀ s13 : zMem, s13 = zwr σ 61 (v2 - (1 : Int32)).toNatClampNeg (-(σ 61 (v2 - (1 : Int32)).toNatClampNeg)) → (WJ G M_X4_work (d + 1) (RI Φ) 4 [some (.inr (.inr 59)), some (.inr (.inr 63)), some (.inl v2), some (.inl (v3 + 1)), none, none, none] [] s13)))) else (if v2 < (2 : Int32) then (WJ G M_X4_work (d + 1) (RI Φ) 4 [some (.inr (.inr 59)), some (.inr (.inr 63)), some (.inl v2), some (.inl (v3 + 1)), none, none, none] [] σ) else (vp_in ((v2 + (-1)) - (1 : Int32)) 96 ∧ (vp_in (v2 + (-1)) 96 ∧ (CTI G d Y_X4_joined [.inl v4, .inl (σ 61 ((v2 + (-1)) - (1 : Int32)).toNatClampNeg), .inl (σ 61 (v2 + (-1)).toNatClampNeg)] σ (fun (r15 : Int32) (s14 : zMem) => vp_in ((v2 + (-1)) - (1 : Int32)) 96 ∧ ∀ s16 : zMem, s16 = zwr s14 61 ((v2 + (-1)) - (1 : Int32)).toNatClampNeg r15 → (WJ G M_X4_work (d + 1) (RI Φ) 4 [some (.inr (.inr 59)), some (.inr (.inr 63)), some (.inl (v2 + (-1))), some (.inl (v3 + 1)), none, none, none] [] s16)))))))) else (if v6 = 0 then (vp_in v2 96 ∧ ∀ s17 : zMem, s17 = zwr σ 61 v2.toNatClampNeg v4 → (WJ G M_X4_work (d + 1) (RI Φ) 4 [some (.inr (.inr 59)), some (.inr (.inr 63)), some (.inl (v2 + 1)), some (.inl (v3 + 1)), none, none, none] [] s17)) else (vp_in v5 26 ∧ (vp_in v2 96 ∧ ∀ s18 : zMem, s18 = zwr σ 61 v2.toNatClampNeg (σ 63 v5.toNatClampNeg) → (WJ G M_X4_work (d + 1) (RI Φ) 4 [some (.inr (.inr 59)), some (.inr (.inr 63)), some (.inl (v2 + 1)), some (.inl (v3 + 1)), none, none, none] [] s18))))) else (if v6 = 0 then (if v4 = (-33 : Int32) then (if v2 < (1 : Int32) then (if v4 = (-1 : Int32) then (if v2 < (1 : Int32) then (if v2 < (2 : Int32) then (WJ G M_X4_work (d + 1) (RI Φ) 4 [some (.inr (.inr 59)), some (.inr (.inr 63)), some (.inl v2), some (.inl (v3 + 1)), none, none, none] [] σ) else (vp_in ((v2 + (-1)) - (1 : Int32)) 96 ∧ (vp_in (v2 + (-1)) 96 ∧ (CTI G d Y_X4_joined [.inl v4, .inl (σ 61 ((v2 + (-1)) - (1 : Int32)).toNatClampNeg), .inl (σ 61 (v2 + (-1)).toNatClampNeg)] σ (fun (r20 : Int32) (s19 : zMem) => vp_in ((v2 + (-1)) - (1 : Int32)) 96 ∧ ∀ s21 : zMem, s21 = zwr s19 61 ((v2 + (-1)) - (1 : Int32)).toNatClampNeg r20 → (WJ G M_X4_work (d + 1) (RI Φ) 4 [some (.inr (.inr 59)), some (.inr (.inr 63)), some (.inl (v2 + (-1))), some (.inl (v3 + 1)), none, none, none] [] s21)))))) else (vp_in (v2 - (1 : Int32)) 96 ∧ (vp_in (v2 - (1 : Int32)) 96 ∧ ∀ s22 : zMem, s22 = zwr σ 61 (v2 - (1 : Int32)).toNatClampNeg (-(σ 61 (v2 - (1 : Int32)).toNatClampNeg)) → (WJ G M_X4_work (d + 1) (RI Φ) 4 [some (.inr (.inr 59)), some (.inr (.inr 63)), some (.inl v2), some (.inl (v3 + 1)), none, none, none] [] s22)))) else (if v2 < (2 : Int32) then (WJ G M_X4_work (d + 1) (RI Φ) 4 [some (.inr (.inr 59)), some (.inr (.inr 63)), some (.inl v2), some (.inl (v3 + 1)), none, none, none] [] σ) else (vp_in ((v2 + (-1)) - (1 : Int32)) 96 ∧ (vp_in (v2 + (-1)) 96 ∧ (CTI G d Y_X4_joined [.inl v4, .inl (σ 61 ((v2 + (-1)) - (1 : Int32)).toNatClampNeg), .inl (σ 61 (v2 + (-1)).toNatClampNeg)] σ (fun (r24 : Int32) (s23 : zMem) => vp_in ((v2 + (-1)) - (1 : Int32)) 96 ∧ ∀ s25 : zMem, s25 = zwr s23 61 ((v2 + (-1)) - (1 : Int32)).toNatClampNeg r24 → (WJ G M_X4_work (d + 1) (RI Φ) 4 [some (.inr (.inr 59)), some (.inr (.inr 63)), some (.inl (v2 + (-1))), some (.inl (v3 + 1)), none, none, none] [] s25))))))) else (vp_in (v2 - (1 : Int32)) 96 ∧ (if (σ 61 (v2 - (1 : Int32)).toNatClampNeg) = 0 then (vp_in (v2 - (1 : Int32)) 96 ∧ ∀ s26 : zMem, s26 = zwr σ 61 (v2 - (1 : Int32)).toNatClampNeg (1 : Int32) → (WJ G M_X4_work (d + 1) (RI Φ) 4 [some (.inr (.inr 59)), some (.inr (.inr 63)), some (.inl v2), some (.inl (v3 + 1)), none, none, none] [] s26)) else (vp_in (v2 - (1 : Int32)) 96 ∧ ∀ s27 : zMem, s27 = zwr σ 61 (v2 - (1 : Int32)).toNatClampNeg (0 : Int32) → (WJ G M_X4_work (d + 1) (RI Φ) 4 [some (.inr (.inr 59)), some (.inr (.inr 63)), some (.inl v2), some (.inl (v3 + 1)), none, none, none] [] s27))))) else (if v4 = (-1 : Int32) then (if v2 < (1 : Int32) then (if v2 < (2 : Int32) then (WJ G M_X4_work (d + 1) (RI Φ) 4 [some (.inr (.inr 59)), some (.inr (.inr 63)), some (.inl v2), some (.inl (v3 + 1)), none, none, none] [] σ) else (vp_in ((v2 + (-1)) - (1 : Int32)) 96 ∧ (vp_in (v2 + (-1)) 96 ∧ (CTI G d Y_X4_joined [.inl v4, .inl (σ 61 ((v2 + (-1)) - (1 : Int32)).toNatClampNeg), .inl (σ 61 (v2 + (-1)).toNatClampNeg)] σ (fun (r29 : Int32) (s28 : zMem) => vp_in ((v2 + (-1)) - (1 : Int32)) 96 ∧ ∀ s30 : zMem, s30 = zwr s28 61 ((v2 + (-1)) - (1 : Int32)).toNatClampNeg r29 → (WJ G M_X4_work (d + 1) (RI Φ) 4 [some (.inr (.inr 59)), some (.inr (.inr 63)), some (.inl (v2 + (-1))), some (.inl (v3 + 1)), none, none, none] [] s30)))))) else (vp_in (v2 - (1 : Int32)) 96 ∧ (vp_in (v2 - (1 : Int32)) 96 ∧ ∀ s31 : zMem, s31 = zwr σ 61 (v2 - (1 : Int32)).toNatClampNeg (-(σ 61 (v2 - (1 : Int32)).toNatClampNeg)) → (WJ G M_X4_work (d + 1) (RI Φ) 4 [some (.inr (.inr 59)), some (.inr (.inr 63)), some (.inl v2), some (.inl (v3 + 1)), none, none, none] [] s31)))) else (if v2 < (2 : Int32) then (WJ G M_X4_work (d + 1) (RI Φ) 4 [some (.inr (.inr 59)), some (.inr (.inr 63)), some (.inl v2), some (.inl (v3 + 1)), none, none, none] [] σ) else (vp_in ((v2 + (-1)) - (1 : Int32)) 96 ∧ (vp_in (v2 + (-1)) 96 ∧ (CTI G d Y_X4_joined [.inl v4, .inl (σ 61 ((v2 + (-1)) - (1 : Int32)).toNatClampNeg), .inl (σ 61 (v2 + (-1)).toNatClampNeg)] σ (fun (r33 : Int32) (s32 : zMem) => vp_in ((v2 + (-1)) - (1 : Int32)) 96 ∧ ∀ s34 : zMem, s34 = zwr s32 61 ((v2 + (-1)) - (1 : Int32)).toNatClampNeg r33 → (WJ G M_X4_work (d + 1) (RI Φ) 4 [some (.inr (.inr 59)), some (.inr (.inr 63)), some (.inl (v2 + (-1))), some (.inl (v3 + 1)), none, none, none] [] s34)))))))) else (if (Int32.ofNat 96) ≤ v2 then (if v4 = (-33 : Int32) then (if v2 < (1 : Int32) then (if v4 = (-1 : Int32) then (if v2 < (1 : Int32) then (if v2 < (2 : Int32) then (WJ G M_X4_work (d + 1) (RI Φ) 4 [some (.inr (.inr 59)), some (.inr (.inr 63)), some (.inl v2), some (.inl (v3 + 1)), none, none, none] [] σ) else (vp_in ((v2 + (-1)) - (1 : Int32)) 96 ∧ (vp_in (v2 + (-1)) 96 ∧ (CTI G d Y_X4_joined [.inl v4, .inl (σ 61 ((v2 + (-1)) - (1 : Int32)).toNatClampNeg), .inl (σ 61 (v2 + (-1)).toNatClampNeg)] σ (fun (r36 : Int32) (s35 : zMem) => vp_in ((v2 + (-1)) - (1 : Int32)) 96 ∧ ∀ s37 : zMem, s37 = zwr s35 61 ((v2 + (-1)) - (1 : Int32)).toNatClampNeg r36 → (WJ G M_X4_work (d + 1) (RI Φ) 4 [some (.inr (.inr 59)), some (.inr (.inr 63)), some (.inl (v2 + (-1))), some (.inl (v3 + 1)), none, none, none] [] s37)))))) else (vp_in (v2 - (1 : Int32)) 96 ∧ (vp_in (v2 - (1 : Int32)) 96 ∧ ∀ s38 : zMem, s38 = zwr σ 61 (v2 - (1 : Int32)).toNatClampNeg (-(σ 61 (v2 - (1 : Int32)).toNatClampNeg)) → (WJ G M_X4_work (d + 1) (RI Φ) 4 [some (.inr (.inr 59)), some (.inr (.inr 63)), some (.inl v2), some (.inl (v3 + 1)), none, none, none] [] s38)))) else (if v2 < (2 : Int32) then (WJ G M_X4_work (d + 1) (RI Φ) 4 [some (.inr (.inr 59)), some (.inr (.inr 63)), some (.inl v2), some (.inl (v3 + 1)), none, none, none] [] σ) else (vp_in ((v2 + (-1)) - (1 : Int32)) 96 ∧ (vp_in (v2 + (-1)) 96 ∧ (CTI G d Y_X4_joined [.inl v4, .inl (σ 61 ((v2 + (-1)) - (1 : Int32)).toNatClampNeg), .inl (σ 61 (v2 + (-1)).toNatClampNeg)] σ (fun (r40 : Int32) (s39 : zMem) => vp_in ((v2 + (-1)) - (1 : Int32)) 96 ∧ ∀ s41 : zMem, s41 = zwr s39 61 ((v2 + (-1)) - (1 : Int32)).toNatClampNeg r40 → (WJ G M_X4_work (d + 1) (RI Φ) 4 [some (.inr (.inr 59)), some (.inr (.inr 63)), some (.inl (v2 + (-1))), some (.inl (v3 + 1)), none, none, none] [] s41))))))) else (vp_in (v2 - (1 : Int32)) 96 ∧ (if (σ 61 (v2 - (1 : Int32)).toNatClampNeg) = 0 then (vp_in (v2 - (1 : Int32)) 96 ∧ ∀ s42 : zMem, s42 = zwr σ 61 (v2 - (1 : Int32)).toNatClampNeg (1 : Int32) → (WJ G M_X4_work (d + 1) (RI Φ) 4 [some (.inr (.inr 59)), some (.inr (.inr 63)), some (.inl v2), some (.inl (v3 + 1)), none, none, none] [] s42)) else (vp_in (v2 - (1 : Int32)) 96 ∧ ∀ s43 : zMem, s43 = zwr σ 61 (v2 - (1 : Int32)).toNatClampNeg (0 : Int32) → (WJ G M_X4_work (d + 1) (RI Φ) 4 [some (.inr (.inr 59)), some (.inr (.inr 63)), some (.inl v2), some (.inl (v3 + 1)), none, none, none] [] s43))))) else (if v4 = (-1 : Int32) then (if v2 < (1 : Int32) then (if v2 < (2 : Int32) then (WJ G M_X4_work (d + 1) (RI Φ) 4 [some (.inr (.inr 59)), some (.inr (.inr 63)), some (.inl v2), some (.inl (v3 + 1)), none, none, none] [] σ) else (vp_in ((v2 + (-1)) - (1 : Int32)) 96 ∧ (vp_in (v2 + (-1)) 96 ∧ (CTI G d Y_X4_joined [.inl v4, .inl (σ 61 ((v2 + (-1)) - (1 : Int32)).toNatClampNeg), .inl (σ 61 (v2 + (-1)).toNatClampNeg)] σ (fun (r45 : Int32) (s44 : zMem) => vp_in ((v2 + (-1)) - (1 : Int32)) 96 ∧ ∀ s46 : zMem, s46 = zwr s44 61 ((v2 + (-1)) - (1 : Int32)).toNatClampNeg r45 → (WJ G M_X4_work (d + 1) (RI Φ) 4 [some (.inr (.inr 59)), some (.inr (.inr 63)), some (.inl (v2 + (-1))), some (.inl (v3 + 1)), none, none, none] [] s46)))))) else (vp_in (v2 - (1 : Int32)) 96 ∧ (vp_in (v2 - (1 : Int32)) 96 ∧ ∀ s47 : zMem, s47 = zwr σ 61 (v2 - (1 : Int32)).toNatClampNeg (-(σ 61 (v2 - (1 : Int32)).toNatClampNeg)) → (WJ G M_X4_work (d + 1) (RI Φ) 4 [some (.inr (.inr 59)), some (.inr (.inr 63)), some (.inl v2), some (.inl (v3 + 1)), none, none, none] [] s47)))) else (if v2 < (2 : Int32) then (WJ G M_X4_work (d + 1) (RI Φ) 4 [some (.inr (.inr 59)), some (.inr (.inr 63)), some (.inl v2), some (.inl (v3 + 1)), none, none, none] [] σ) else (vp_in ((v2 + (-1)) - (1 : Int32)) 96 ∧ (vp_in (v2 + (-1)) 96 ∧ (CTI G d Y_X4_joined [.inl v4, .inl (σ 61 ((v2 + (-1)) - (1 : Int32)).toNatClampNeg), .inl (σ 61 (v2 + (-1)).toNatClampNeg)] σ (fun (r49 : Int32) (s48 : zMem) => vp_in ((v2 + (-1)) - (1 : Int32)) 96 ∧ ∀ s50 : zMem, s50 = zwr s48 61 ((v2 + (-1)) - (1 : Int32)).toNatClampNeg r49 → (WJ G M_X4_work (d + 1) (RI Φ) 4 [some (.inr (.inr 59)), some (.inr (.inr 63)), some (.inl (v2 + (-1))), some (.inl (v3 + 1)), none, none, none] [] s50)))))))) else (if v6 = 0 then (vp_in v2 96 ∧ ∀ s51 : zMem, s51 = zwr σ 61 v2.toNatClampNeg v4 → (WJ G M_X4_work (d + 1) (RI Φ) 4 [some (.inr (.inr 59)), some (.inr (.inr 63)), some (.inl (v2 + 1)), some (.inl (v3 + 1)), none, none, none] [] s51)) else (vp_in v5 26 ∧ (vp_in v2 96 ∧ ∀ s52 : zMem, s52 = zwr σ 61 v2.toNatClampNeg (σ 63 v5.toNatClampNeg) → (WJ G M_X4_work (d + 1) (RI Φ) 4 [some (.inr (.inr 59)), some (.inr (.inr 63)), some (.inl (v2 + 1)), some (.inl (v3 + 1)), none, none, none] [] s52))))))) :
  WJ G M_X4_work (d + 1) (RI Φ) 47 [some (.inr (.inr 59)), some (.inr (.inr 63)), some (.inl v2), some (.inl v3), some (.inl v4), some (.inl v5), some (.inl v6)] [] σ :=
  ZP_ok ok_X4_work 49 47 _ _ _ (show ZP G M_X4_work (d + 1) (RI Φ) sp_X4_work 49 47 [some (.inr (.inr 59)), some (.inr (.inr 63)), some (.inl v2), some (.inl v3), some (.inl v4), some (.inl v5), some (.inl v6)] [] σ from h)
def sp_X4_joined : List (Nat × List Bool) := []
set_option maxRecDepth 100000 in
theorem en_X4_joined {G : zGT} {d : Nat} {Φ : Int32 → zMem → Prop} {σ : zMem} {v0 v1 v2 : Int32}
  (h : if v0 = (-318 : Int32) then (if v1 < v2 then (Φ (0 : Int32) σ) else (Φ (1 : Int32) σ)) else if v0 = (-316 : Int32) then (if v2 < v1 then (Φ (0 : Int32) σ) else (Φ (1 : Int32) σ)) else if v0 = (-124 : Int32) then (if v1 = 0 then (if v2 = 0 then (Φ (0 : Int32) σ) else (Φ (1 : Int32) σ)) else (Φ (1 : Int32) σ)) else if v0 = (-62 : Int32) then (if v1 ≤ v2 then (Φ (0 : Int32) σ) else (Φ (1 : Int32) σ)) else if v0 = (-61 : Int32) then (if v1 = v2 then (Φ (1 : Int32) σ) else (Φ (0 : Int32) σ)) else if v0 = (-60 : Int32) then (if v2 ≤ v1 then (Φ (0 : Int32) σ) else (Φ (1 : Int32) σ)) else if v0 = (-45 : Int32) then (Φ (v1 - v2) σ) else if v0 = (-43 : Int32) then (Φ (v1 + v2) σ) else if v0 = (-42 : Int32) then (Φ (v1 * v2) σ) else if v0 = (-38 : Int32) then (if v1 = 0 then (Φ (0 : Int32) σ) else (if v2 = 0 then (Φ (0 : Int32) σ) else (Φ (1 : Int32) σ))) else (Φ (0 : Int32) σ)) :
  CTI G d Y_X4_joined [.inl v0, .inl v1, .inl v2] σ Φ :=
  CT_of (M := M_X4_joined) rfl (Nat.le_of_ble_eq_true rfl) (Or.inr (Or.inl rfl)) (ZP_ok ok_X4_joined 13 0 _ _ _ (show ZP G M_X4_joined d (RI Φ) sp_X4_joined 13 0 [some (.inl v0), some (.inl v1), some (.inl v2)] [] σ from h))
def sp_X5_begin : List (Nat × List Bool) := []
set_option maxRecDepth 100000 in
theorem en_X5_begin {G : zGT} {d : Nat} {Φ : zMem → Prop} {σ : zMem} {v1 : Int32}
  (h : vp_in v1 24 ∧ ∀ s1 : zMem, s1 = zwr σ 35 v1.toNatClampNeg (-1000000005 : Int32) → (vp_in v1 24 ∧ ∀ s2 : zMem, s2 = zwr s1 36 v1.toNatClampNeg (0 : Int32) → (Φ s2))) :
  CTV G d Y_X5_begin [.inr (.inr 34), .inl v1] σ Φ :=
  CT_of (M := M_X5_begin) rfl (Nat.le_of_ble_eq_true rfl) (Or.inl rfl) (ZP_ok ok_X5_begin 15 0 _ _ _ (show ZP G M_X5_begin d (RV Φ) sp_X5_begin 15 0 [some (.inr (.inr 34)), some (.inl v1)] [] σ from h))
def sp_X5_take : List (Nat × List Bool) := [(2, [true, true, true, true]), (39, [true, true, false, true])]
set_option maxRecDepth 100000 in
theorem en_X5_take_i34_40 {G : zGT} {d : Nat} {Φ : zMem → Prop} {σ : zMem} {v2 : Int32}
  (h : WJ G M_X5_take d (RV Φ) 2 [some (.inr (.inr 34)), some (.inr (.inr 40)), some (.inl v2), some (.inl (0 : Int32))] [] σ) :
  CTV G d Y_X5_take [.inr (.inr 34), .inr (.inr 40), .inl v2] σ Φ :=
  CT_of (M := M_X5_take) rfl (Nat.le_of_ble_eq_true rfl) (Or.inl rfl) (ZP_ok ok_X5_take 6 0 _ _ _ (show ZP G M_X5_take d (RV Φ) sp_X5_take 6 0 [some (.inr (.inr 34)), some (.inr (.inr 40)), some (.inl v2), none] [] σ from h))
set_option maxRecDepth 100000 in
theorem rg_X5_take_i34_40_2 {G : zGT} {d : Nat} {Φ : zMem → Prop} {σ : zMem} {v2 v3 : Int32}
  (h : if v2 ≤ v3 then (WJ G M_X5_take d (RV Φ) 39 [some (.inr (.inr 34)), some (.inr (.inr 40)), none, some (.inl (0 : Int32))] [] σ) else (vp_in v3 24 ∧ (vp_in v3 24 ∧ ∀ s1 : zMem, s1 = zwr σ 35 v3.toNatClampNeg (σ 41 v3.toNatClampNeg) → (vp_in v3 24 ∧ (vp_in v3 24 ∧ ∀ s2 : zMem, s2 = zwr s1 36 v3.toNatClampNeg (s1 42 v3.toNatClampNeg) → (WJ G M_X5_take d (RV Φ) 2 [some (.inr (.inr 34)), some (.inr (.inr 40)), some (.inl v2), some (.inl (v3 + 1))] [] s2)))))) :
  WJ G M_X5_take d (RV Φ) 2 [some (.inr (.inr 34)), some (.inr (.inr 40)), some (.inl v2), some (.inl v3)] [] σ :=
  ZP_ok ok_X5_take 25 2 _ _ _ (show ZP G M_X5_take d (RV Φ) sp_X5_take 25 2 [some (.inr (.inr 34)), some (.inr (.inr 40)), some (.inl v2), some (.inl v3)] [] σ from h)
set_option maxRecDepth 100000 in
theorem rg_X5_take_i34_40_39 {G : zGT} {d : Nat} {Φ : zMem → Prop} {σ : zMem} {v3 : Int32}
  (h : if (6 : Int32) ≤ v3 then (Φ σ) else (vp_in v3 6 ∧ (vp_in v3 6 ∧ ∀ s1 : zMem, s1 = zwr σ 37 v3.toNatClampNeg (σ 43 v3.toNatClampNeg) → (vp_in v3 6 ∧ (vp_in v3 6 ∧ ∀ s2 : zMem, s2 = zwr s1 38 v3.toNatClampNeg (s1 44 v3.toNatClampNeg) → (vp_in v3 6 ∧ (vp_in v3 6 ∧ ∀ s3 : zMem, s3 = zwr s2 39 v3.toNatClampNeg (s2 45 v3.toNatClampNeg) → (WJ G M_X5_take d (RV Φ) 39 [some (.inr (.inr 34)), some (.inr (.inr 40)), none, some (.inl (v3 + 1))] [] s3)))))))) :
  WJ G M_X5_take d (RV Φ) 39 [some (.inr (.inr 34)), some (.inr (.inr 40)), none, some (.inl v3)] [] σ :=
  ZP_ok ok_X5_take 33 39 _ _ _ (show ZP G M_X5_take d (RV Φ) sp_X5_take 33 39 [some (.inr (.inr 34)), some (.inr (.inr 40)), none, some (.inl v3)] [] σ from h)
set_option maxRecDepth 100000 in
theorem en_X5_take_i40_34 {G : zGT} {d : Nat} {Φ : zMem → Prop} {σ : zMem} {v2 : Int32}
  (h : WJ G M_X5_take d (RV Φ) 2 [some (.inr (.inr 40)), some (.inr (.inr 34)), some (.inl v2), some (.inl (0 : Int32))] [] σ) :
  CTV G d Y_X5_take [.inr (.inr 40), .inr (.inr 34), .inl v2] σ Φ :=
  CT_of (M := M_X5_take) rfl (Nat.le_of_ble_eq_true rfl) (Or.inl rfl) (ZP_ok ok_X5_take 6 0 _ _ _ (show ZP G M_X5_take d (RV Φ) sp_X5_take 6 0 [some (.inr (.inr 40)), some (.inr (.inr 34)), some (.inl v2), none] [] σ from h))
set_option maxRecDepth 100000 in
theorem rg_X5_take_i40_34_2 {G : zGT} {d : Nat} {Φ : zMem → Prop} {σ : zMem} {v2 v3 : Int32}
  (h : if v2 ≤ v3 then (WJ G M_X5_take d (RV Φ) 39 [some (.inr (.inr 40)), some (.inr (.inr 34)), none, some (.inl (0 : Int32))] [] σ) else (vp_in v3 24 ∧ (vp_in v3 24 ∧ ∀ s1 : zMem, s1 = zwr σ 41 v3.toNatClampNeg (σ 35 v3.toNatClampNeg) → (vp_in v3 24 ∧ (vp_in v3 24 ∧ ∀ s2 : zMem, s2 = zwr s1 42 v3.toNatClampNeg (s1 36 v3.toNatClampNeg) → (WJ G M_X5_take d (RV Φ) 2 [some (.inr (.inr 40)), some (.inr (.inr 34)), some (.inl v2), some (.inl (v3 + 1))] [] s2)))))) :
  WJ G M_X5_take d (RV Φ) 2 [some (.inr (.inr 40)), some (.inr (.inr 34)), some (.inl v2), some (.inl v3)] [] σ :=
  ZP_ok ok_X5_take 25 2 _ _ _ (show ZP G M_X5_take d (RV Φ) sp_X5_take 25 2 [some (.inr (.inr 40)), some (.inr (.inr 34)), some (.inl v2), some (.inl v3)] [] σ from h)
set_option maxRecDepth 100000 in
theorem rg_X5_take_i40_34_39 {G : zGT} {d : Nat} {Φ : zMem → Prop} {σ : zMem} {v3 : Int32}
  (h : if (6 : Int32) ≤ v3 then (Φ σ) else (vp_in v3 6 ∧ (vp_in v3 6 ∧ ∀ s1 : zMem, s1 = zwr σ 43 v3.toNatClampNeg (σ 37 v3.toNatClampNeg) → (vp_in v3 6 ∧ (vp_in v3 6 ∧ ∀ s2 : zMem, s2 = zwr s1 44 v3.toNatClampNeg (s1 38 v3.toNatClampNeg) → (vp_in v3 6 ∧ (vp_in v3 6 ∧ ∀ s3 : zMem, s3 = zwr s2 45 v3.toNatClampNeg (s2 39 v3.toNatClampNeg) → (WJ G M_X5_take d (RV Φ) 39 [some (.inr (.inr 40)), some (.inr (.inr 34)), none, some (.inl (v3 + 1))] [] s3)))))))) :
  WJ G M_X5_take d (RV Φ) 39 [some (.inr (.inr 40)), some (.inr (.inr 34)), none, some (.inl v3)] [] σ :=
  ZP_ok ok_X5_take 33 39 _ _ _ (show ZP G M_X5_take d (RV Φ) sp_X5_take 33 39 [some (.inr (.inr 40)), some (.inr (.inr 34)), none, some (.inl v3)] [] σ from h)
def sp_X6_readsLaw : List (Nat × List Bool) := []
set_option maxRecDepth 100000 in
theorem en_X6_readsLaw {G : zGT} {d : Nat} {Φ : Int32 → zMem → Prop} {σ : zMem}
  (h : ∀ s1 : zMem, s1 = zwr σ 46 2 (0 : Int32) → (∀ s2 : zMem, s2 = zwr s1 48 5 (0 : Int32) → (CTI G d Y_X9_nextWord [.inr (.inr 46)] s2 (fun (r4 : Int32) (s3 : zMem) => CTI G d Y_X6_readsWord [.inr (.inr 48), .inr (.inr 1002)] s3 (fun (r6 : Int32) (s5 : zMem) => if r6 = 0 then (Φ (0 : Int32) s5) else (CTV G d Y_X6_turnTo [.inr (.inr 48), .inr (.inr 49), .inr (.inr 1000)] s5 (fun (s7 : zMem) => CTI G d Y_X6_readsLevel [.inr (.inr 48), .inl (0 : Int32), .inl (0 : Int32)] s7 (fun (r9 : Int32) (s8 : zMem) => if r9 = 0 then (Φ (0 : Int32) s8) else (CTI G d Y_X9_nextWord [.inr (.inr 46)] s8 (fun (r11 : Int32) (s10 : zMem) => CTI G d Y_X9_isBehindLetterOrDigit [.inr (.inr 46)] s10 (fun (r13 : Int32) (s12 : zMem) => if r13 = 0 then (CTI G d Y_X6_readsWord [.inr (.inr 48), .inr (.inr 1003)] s12 (fun (r15 : Int32) (s14 : zMem) => if r15 = 0 then (Φ (0 : Int32) s14) else (CTV G d Y_X6_turnTo [.inr (.inr 48), .inr (.inr 52), .inr (.inr 1001)] s14 (fun (s16 : zMem) => CTI G d Y_X6_readsLevel [.inr (.inr 48), .inl (0 : Int32), .inl (0 : Int32)] s16 (fun (r18 : Int32) (s17 : zMem) => if r18 = 0 then (Φ (0 : Int32) s17) else (CTI G d Y_X9_nextWord [.inr (.inr 46)] s17 (fun (r20 : Int32) (s19 : zMem) => if r20 = (-1 : Int32) then (Φ (1 : Int32) s19) else (Φ (0 : Int32) s19)))))))) else (Φ (0 : Int32) s12)))))))))))) :
  CTI G (d + 1) Y_X6_readsLaw [.inr (.inr 48)] σ Φ :=
  CT_of (M := M_X6_readsLaw) rfl (Nat.le_of_ble_eq_true rfl) (Or.inr (Or.inr (Or.inl rfl))) (ZP_ok ok_X6_readsLaw 59 0 _ _ _ (show ZP G M_X6_readsLaw (d + 1) (RI Φ) sp_X6_readsLaw 59 0 [some (.inr (.inr 48))] [] σ from h))
def sp_X6_turnTo : List (Nat × List Bool) := []
set_option maxRecDepth 100000 in
theorem en_X6_turnTo_i48_49_1000 {G : zGT} {d : Nat} {Φ : zMem → Prop} {σ : zMem}
  (h : ∀ s1 : zMem, s1 = zwr σ 49 2 (0 : Int32) → (∀ s2 : zMem, s2 = zwr s1 48 3 (Int32.ofNat 49) → (∀ s3 : zMem, s3 = zwr s2 48 4 (Int32.ofNat 1000) → (Φ s3)))) :
  CTV G d Y_X6_turnTo [.inr (.inr 48), .inr (.inr 49), .inr (.inr 1000)] σ Φ :=
  CT_of (M := M_X6_turnTo) rfl (Nat.le_of_ble_eq_true rfl) (Or.inl rfl) (ZP_ok ok_X6_turnTo 14 0 _ _ _ (show ZP G M_X6_turnTo d (RV Φ) sp_X6_turnTo 14 0 [some (.inr (.inr 48)), some (.inr (.inr 49)), some (.inr (.inr 1000))] [] σ from h))
set_option maxRecDepth 100000 in
theorem en_X6_turnTo_i48_52_1001 {G : zGT} {d : Nat} {Φ : zMem → Prop} {σ : zMem}
  (h : ∀ s1 : zMem, s1 = zwr σ 52 2 (0 : Int32) → (∀ s2 : zMem, s2 = zwr s1 48 3 (Int32.ofNat 52) → (∀ s3 : zMem, s3 = zwr s2 48 4 (Int32.ofNat 1001) → (Φ s3)))) :
  CTV G d Y_X6_turnTo [.inr (.inr 48), .inr (.inr 52), .inr (.inr 1001)] σ Φ :=
  CT_of (M := M_X6_turnTo) rfl (Nat.le_of_ble_eq_true rfl) (Or.inl rfl) (ZP_ok ok_X6_turnTo 14 0 _ _ _ (show ZP G M_X6_turnTo d (RV Φ) sp_X6_turnTo 14 0 [some (.inr (.inr 48)), some (.inr (.inr 52)), some (.inr (.inr 1001))] [] σ from h))
def sp_X6_readsWord : List (Nat × List Bool) := [(2, [true, true, true])]
set_option maxRecDepth 100000 in
theorem en_X6_readsWord_i48_1002 {G : zGT} {d : Nat} {Φ : Int32 → zMem → Prop} {σ : zMem}
  (h : WJ G M_X6_readsWord (d + 1) (RI Φ) 2 [some (.inr (.inr 48)), some (.inr (.inr 1002)), some (.inl (0 : Int32))] [] σ) :
  CTI G (d + 1) Y_X6_readsWord [.inr (.inr 48), .inr (.inr 1002)] σ Φ :=
  CT_of (M := M_X6_readsWord) rfl (Nat.le_of_ble_eq_true rfl) (Or.inr (Or.inr (Or.inl rfl))) (ZP_ok ok_X6_readsWord 6 0 _ _ _ (show ZP G M_X6_readsWord (d + 1) (RI Φ) sp_X6_readsWord 6 0 [some (.inr (.inr 48)), some (.inr (.inr 1002)), none] [] σ from h))
set_option maxRecDepth 100000 in
theorem rg_X6_readsWord_i48_1002_2 {G : zGT} {d : Nat} {Φ : Int32 → zMem → Prop} {σ : zMem} {v2 : Int32}
  (h : CTI G d Y_J0_length_8abf5 [.inr (.inr 1002)] σ (fun (r2 : Int32) (s1 : zMem) => if r2 ≤ v2 then (∀ s3 : zMem, s3 = zwr s1 48 5 ((s1 48 5) + (1 : Int32)) → (CTI G d Y_X9_next [.inr (.inr 46)] s3 (fun (r5 : Int32) (s4 : zMem) => CTI G d Y_X9_isLetterOrDigit [.inl r5] s4 (fun (r7 : Int32) (s6 : zMem) => if r7 = 0 then (Φ (1 : Int32) s6) else (Φ (0 : Int32) s6))))) else (CTI G d Y_X9_next [.inr (.inr 46)] s1 (fun (r9 : Int32) (s8 : zMem) => CTI G d Y_J0_charAt_5068e [.inr (.inr 1002), .inl v2] s8 (fun (r11 : Int32) (s10 : zMem) => if r9 = r11 then (∀ s12 : zMem, s12 = zwr s10 46 2 ((s10 46 2) + (1 : Int32)) → (WJ G M_X6_readsWord (d + 1) (RI Φ) 2 [some (.inr (.inr 48)), some (.inr (.inr 1002)), some (.inl (v2 + 1))] [] s12)) else (Φ (0 : Int32) s10)))))) :
  WJ G M_X6_readsWord (d + 1) (RI Φ) 2 [some (.inr (.inr 48)), some (.inr (.inr 1002)), some (.inl v2)] [] σ :=
  ZP_ok ok_X6_readsWord 24 2 _ _ _ (show ZP G M_X6_readsWord (d + 1) (RI Φ) sp_X6_readsWord 24 2 [some (.inr (.inr 48)), some (.inr (.inr 1002)), some (.inl v2)] [] σ from h)
set_option maxRecDepth 100000 in
theorem en_X6_readsWord_i48_1003 {G : zGT} {d : Nat} {Φ : Int32 → zMem → Prop} {σ : zMem}
  (h : WJ G M_X6_readsWord (d + 1) (RI Φ) 2 [some (.inr (.inr 48)), some (.inr (.inr 1003)), some (.inl (0 : Int32))] [] σ) :
  CTI G (d + 1) Y_X6_readsWord [.inr (.inr 48), .inr (.inr 1003)] σ Φ :=
  CT_of (M := M_X6_readsWord) rfl (Nat.le_of_ble_eq_true rfl) (Or.inr (Or.inr (Or.inl rfl))) (ZP_ok ok_X6_readsWord 6 0 _ _ _ (show ZP G M_X6_readsWord (d + 1) (RI Φ) sp_X6_readsWord 6 0 [some (.inr (.inr 48)), some (.inr (.inr 1003)), none] [] σ from h))
set_option maxRecDepth 100000 in
theorem rg_X6_readsWord_i48_1003_2 {G : zGT} {d : Nat} {Φ : Int32 → zMem → Prop} {σ : zMem} {v2 : Int32}
  (h : CTI G d Y_J0_length_8abf5 [.inr (.inr 1003)] σ (fun (r2 : Int32) (s1 : zMem) => if r2 ≤ v2 then (∀ s3 : zMem, s3 = zwr s1 48 5 ((s1 48 5) + (1 : Int32)) → (CTI G d Y_X9_next [.inr (.inr 46)] s3 (fun (r5 : Int32) (s4 : zMem) => CTI G d Y_X9_isLetterOrDigit [.inl r5] s4 (fun (r7 : Int32) (s6 : zMem) => if r7 = 0 then (Φ (1 : Int32) s6) else (Φ (0 : Int32) s6))))) else (CTI G d Y_X9_next [.inr (.inr 46)] s1 (fun (r9 : Int32) (s8 : zMem) => CTI G d Y_J0_charAt_5068e [.inr (.inr 1003), .inl v2] s8 (fun (r11 : Int32) (s10 : zMem) => if r9 = r11 then (∀ s12 : zMem, s12 = zwr s10 46 2 ((s10 46 2) + (1 : Int32)) → (WJ G M_X6_readsWord (d + 1) (RI Φ) 2 [some (.inr (.inr 48)), some (.inr (.inr 1003)), some (.inl (v2 + 1))] [] s12)) else (Φ (0 : Int32) s10)))))) :
  WJ G M_X6_readsWord (d + 1) (RI Φ) 2 [some (.inr (.inr 48)), some (.inr (.inr 1003)), some (.inl v2)] [] σ :=
  ZP_ok ok_X6_readsWord 24 2 _ _ _ (show ZP G M_X6_readsWord (d + 1) (RI Φ) sp_X6_readsWord 24 2 [some (.inr (.inr 48)), some (.inr (.inr 1003)), some (.inl v2)] [] σ from h)
def sp_X6_readsLevel : List (Nat × List Bool) := [(23, [true, true, true, true, true, false])]
set_option maxRecDepth 100000 in
theorem en_X6_readsLevel {G : zGT} {d : Nat} {Φ : Int32 → zMem → Prop} {σ : zMem} {v1 v2 : Int32}
  (h : if v1 ≤ (4 : Int32) then (CTI G d Y_X6_readsLevel [.inr (.inr 48), .inl (v1 + (1 : Int32)), .inl v2] σ (fun (r2 : Int32) (s1 : zMem) => WJ G M_X6_readsLevel (d + 1) (RI Φ) 23 [some (.inr (.inr 48)), some (.inl v1), some (.inl v2), some (.inl r2), some (.inl (0 : Int32)), none] [] s1)) else (CTI G d Y_X6_readsPart [.inr (.inr 48), .inl v2] σ (fun (r4 : Int32) (s3 : zMem) => if r4 = 0 ∨ r4 = 1 then (Φ r4 s3) else False))) :
  CTI G (d + 1) Y_X6_readsLevel [.inr (.inr 48), .inl v1, .inl v2] σ Φ :=
  CT_of (M := M_X6_readsLevel) rfl (Nat.le_of_ble_eq_true rfl) (Or.inr (Or.inr (Or.inl rfl))) (ZP_ok ok_X6_readsLevel 16 0 _ _ _ (show ZP G M_X6_readsLevel (d + 1) (RI Φ) sp_X6_readsLevel 16 0 [some (.inr (.inr 48)), some (.inl v1), some (.inl v2), none, none, none] [] σ from h))
set_option maxRecDepth 100000 in
theorem rg_X6_readsLevel_23 {G : zGT} {d : Nat} {Φ : Int32 → zMem → Prop} {σ : zMem} {v1 v2 v3 v4 : Int32}
  (h : if (96 : Int32) ≤ v4 then (if v3 = 0 ∨ v3 = 1 then (Φ v3 σ) else False) else (if v3 = 0 then (if v3 = 0 ∨ v3 = 1 then (Φ v3 σ) else False) else (CTI G d Y_X9_nextWord [.inr (.inr 46)] σ (fun (r2 : Int32) (s1 : zMem) => CTI G d Y_X6_levelOf [.inl r2] s1 (fun (r4 : Int32) (s3 : zMem) => if r4 = v1 then (CTI G d Y_X6_takeSign [.inr (.inr 48)] s3 (fun (r6 : Int32) (s5 : zMem) => CTI G d Y_X6_readsLevel [.inr (.inr 48), .inl (v1 + (1 : Int32)), .inl v2] s5 (fun (r8 : Int32) (s7 : zMem) => bif (zrcv (s7 48 3).toNatClampNeg 4 && true) then (CTV G d Y_X4_add [.inr (.inr (s7 48 3).toNatClampNeg), .inl r6] s7 (fun (s9 : zMem) => if v1 = (2 : Int32) then (if r8 = 0 ∨ r8 = 1 then (Φ r8 s9) else False) else (WJ G M_X6_readsLevel (d + 1) (RI Φ) 23 [some (.inr (.inr 48)), some (.inl v1), some (.inl v2), some (.inl r8), some (.inl (v4 + 1)), none] [] s9))) else False))) else (if v3 = 0 ∨ v3 = 1 then (Φ v3 s3) else False)))))) :
  WJ G M_X6_readsLevel (d + 1) (RI Φ) 23 [some (.inr (.inr 48)), some (.inl v1), some (.inl v2), some (.inl v3), some (.inl v4), none] [] σ :=
  ZP_ok ok_X6_readsLevel 34 23 _ _ _ (show ZP G M_X6_readsLevel (d + 1) (RI Φ) sp_X6_readsLevel 34 23 [some (.inr (.inr 48)), some (.inl v1), some (.inl v2), some (.inl v3), some (.inl v4), none] [] σ from h)
def sp_X6_levelOf : List (Nat × List Bool) := []
set_option maxRecDepth 100000 in
theorem en_X6_levelOf {G : zGT} {d : Nat} {Φ : Int32 → zMem → Prop} {σ : zMem} {v0 : Int32}
  (h : if v0 = (38 : Int32) then (Φ (1 : Int32) σ) else if v0 = (42 : Int32) then (Φ (4 : Int32) σ) else if v0 = (43 : Int32) then (Φ (3 : Int32) σ) else if v0 = (45 : Int32) then (Φ (3 : Int32) σ) else if v0 = (60 : Int32) then (Φ (2 : Int32) σ) else if v0 = (61 : Int32) then (Φ (2 : Int32) σ) else if v0 = (62 : Int32) then (Φ (2 : Int32) σ) else if v0 = (124 : Int32) then (Φ (0 : Int32) σ) else (Φ (-1000000005 : Int32) σ)) :
  CTI G d Y_X6_levelOf [.inl v0] σ Φ :=
  CT_of (M := M_X6_levelOf) rfl (Nat.le_of_ble_eq_true rfl) (Or.inr (Or.inl rfl)) (ZP_ok ok_X6_levelOf 8 0 _ _ _ (show ZP G M_X6_levelOf d (RI Φ) sp_X6_levelOf 8 0 [some (.inl v0)] [] σ from h))
def sp_X6_takeSign : List (Nat × List Bool) := []
set_option maxRecDepth 100000 in
theorem en_X6_takeSign {G : zGT} {d : Nat} {Φ : Int32 → zMem → Prop} {σ : zMem}
  (h : CTI G d Y_X9_next [.inr (.inr 46)] σ (fun (r2 : Int32) (s1 : zMem) => CTV G d Y_X6_step [.inr (.inr 48)] s1 (fun (s3 : zMem) => if r2 = (60 : Int32) then (CTI G d Y_X9_next [.inr (.inr 46)] s3 (fun (r5 : Int32) (s4 : zMem) => if r5 = (61 : Int32) then (∀ s6 : zMem, s6 = zwr s4 46 2 ((s4 46 2) + (1 : Int32)) → (Φ ((-r2) - (256 : Int32)) s6)) else (Φ (-r2) s4))) else (if r2 = (62 : Int32) then (CTI G d Y_X9_next [.inr (.inr 46)] s3 (fun (r8 : Int32) (s7 : zMem) => if r8 = (61 : Int32) then (∀ s9 : zMem, s9 = zwr s7 46 2 ((s7 46 2) + (1 : Int32)) → (Φ ((-r2) - (256 : Int32)) s9)) else (Φ (-r2) s7))) else (Φ (-r2) s3))))) :
  CTI G (d + 1) Y_X6_takeSign [.inr (.inr 48)] σ Φ :=
  CT_of (M := M_X6_takeSign) rfl (Nat.le_of_ble_eq_true rfl) (Or.inr (Or.inl rfl)) (ZP_ok ok_X6_takeSign 33 0 _ _ _ (show ZP G M_X6_takeSign (d + 1) (RI Φ) sp_X6_takeSign 33 0 [some (.inr (.inr 48)), none] [] σ from h))
def sp_X6_step : List (Nat × List Bool) := []
set_option maxRecDepth 100000 in
theorem en_X6_step {G : zGT} {d : Nat} {Φ : zMem → Prop} {σ : zMem}
  (h : ∀ s1 : zMem, s1 = zwr σ 46 2 ((σ 46 2) + (1 : Int32)) → (∀ s2 : zMem, s2 = zwr s1 48 5 ((s1 48 5) + (1 : Int32)) → (Φ s2))) :
  CTV G d Y_X6_step [.inr (.inr 48)] σ Φ :=
  CT_of (M := M_X6_step) rfl (Nat.le_of_ble_eq_true rfl) (Or.inl rfl) (ZP_ok ok_X6_step 18 0 _ _ _ (show ZP G M_X6_step d (RV Φ) sp_X6_step 18 0 [some (.inr (.inr 48))] [] σ from h))
def sp_X6_readsPart : List (Nat × List Bool) := [(7, [true, true, true, true, true, false]), (96, [true, false, true, false, true, true])]
set_option maxRecDepth 100000 in
theorem en_X6_readsPart {G : zGT} {d : Nat} {Φ : Int32 → zMem → Prop} {σ : zMem} {v1 : Int32}
  (h : WJ G M_X6_readsPart (d + 1) (RI Φ) 7 [some (.inr (.inr 48)), some (.inl v1), some (.inl (0 : Int32)), some (.inl (0 : Int32)), some (.inl (0 : Int32)), none] [] σ) :
  CTI G (d + 1) Y_X6_readsPart [.inr (.inr 48), .inl v1] σ Φ :=
  CT_of (M := M_X6_readsPart) rfl (Nat.le_of_ble_eq_true rfl) (Or.inr (Or.inr (Or.inl rfl))) (ZP_ok ok_X6_readsPart 10 0 _ _ _ (show ZP G M_X6_readsPart (d + 1) (RI Φ) sp_X6_readsPart 10 0 [some (.inr (.inr 48)), some (.inl v1), none, none, none, none] [] σ from h))
set_option maxRecDepth 100000 in
theorem rg_X6_readsPart_7 {G : zGT} {d : Nat} {Φ : Int32 → zMem → Prop} {σ : zMem} {v1 v2 v3 v4 : Int32}
  (h : if (96 : Int32) ≤ v4 then (CTI G d Y_X6_readsBare [.inr (.inr 48), .inl v1] σ (fun (r2 : Int32) (s1 : zMem) => WJ G M_X6_readsPart (d + 1) (RI Φ) 96 [some (.inr (.inr 48)), none, some (.inl v2), none, some (.inl r2), some (.inl (v3 - (1 : Int32)))] [] s1)) else (CTI G d Y_X9_nextWord [.inr (.inr 46)] σ (fun (r4 : Int32) (s3 : zMem) => if r4 = (33 : Int32) then (if v3 < (20 : Int32) then (CTI G d Y_X9_next [.inr (.inr 46)] s3 (fun (r6 : Int32) (s5 : zMem) => if r6 = (33 : Int32) then (CTI G d Y_X11_truth [.inl (1 : Int32)] s5 (fun (r8 : Int32) (s7 : zMem) => CTV G d Y_X6_step [.inr (.inr 48)] s7 (fun (s9 : zMem) => WJ G M_X6_readsPart (d + 1) (RI Φ) 7 [some (.inr (.inr 48)), some (.inl v1), some (.inl (v2 ||| (r8 <<< (v3 &&& 31)))), some (.inl (v3 + 1)), some (.inl (v4 + 1)), none] [] s9))) else (CTI G d Y_X11_truth [.inl (0 : Int32)] s5 (fun (r11 : Int32) (s10 : zMem) => CTV G d Y_X6_step [.inr (.inr 48)] s10 (fun (s12 : zMem) => WJ G M_X6_readsPart (d + 1) (RI Φ) 7 [some (.inr (.inr 48)), some (.inl v1), some (.inl (v2 ||| (r11 <<< (v3 &&& 31)))), some (.inl (v3 + 1)), some (.inl (v4 + 1)), none] [] s12))))) else (Φ (0 : Int32) s3)) else (CTI G d Y_X9_next [.inr (.inr 46)] s3 (fun (r14 : Int32) (s13 : zMem) => if r14 = (45 : Int32) then (if v3 < (20 : Int32) then (CTI G d Y_X9_next [.inr (.inr 46)] s13 (fun (r16 : Int32) (s15 : zMem) => if r16 = (33 : Int32) then (CTI G d Y_X11_truth [.inl (1 : Int32)] s15 (fun (r18 : Int32) (s17 : zMem) => CTV G d Y_X6_step [.inr (.inr 48)] s17 (fun (s19 : zMem) => WJ G M_X6_readsPart (d + 1) (RI Φ) 7 [some (.inr (.inr 48)), some (.inl v1), some (.inl (v2 ||| (r18 <<< (v3 &&& 31)))), some (.inl (v3 + 1)), some (.inl (v4 + 1)), none] [] s19))) else (CTI G d Y_X11_truth [.inl (0 : Int32)] s15 (fun (r21 : Int32) (s20 : zMem) => CTV G d Y_X6_step [.inr (.inr 48)] s20 (fun (s22 : zMem) => WJ G M_X6_readsPart (d + 1) (RI Φ) 7 [some (.inr (.inr 48)), some (.inl v1), some (.inl (v2 ||| (r21 <<< (v3 &&& 31)))), some (.inl (v3 + 1)), some (.inl (v4 + 1)), none] [] s22))))) else (Φ (0 : Int32) s13)) else (CTI G d Y_X6_readsBare [.inr (.inr 48), .inl v1] s13 (fun (r24 : Int32) (s23 : zMem) => WJ G M_X6_readsPart (d + 1) (RI Φ) 96 [some (.inr (.inr 48)), none, some (.inl v2), none, some (.inl r24), some (.inl (v3 - (1 : Int32)))] [] s23))))))) :
  WJ G M_X6_readsPart (d + 1) (RI Φ) 7 [some (.inr (.inr 48)), some (.inl v1), some (.inl v2), some (.inl v3), some (.inl v4), none] [] σ :=
  ZP_ok ok_X6_readsPart 38 7 _ _ _ (show ZP G M_X6_readsPart (d + 1) (RI Φ) sp_X6_readsPart 38 7 [some (.inr (.inr 48)), some (.inl v1), some (.inl v2), some (.inl v3), some (.inl v4), none] [] σ from h)
set_option maxRecDepth 100000 in
theorem rg_X6_readsPart_96 {G : zGT} {d : Nat} {Φ : Int32 → zMem → Prop} {σ : zMem} {v2 v4 v5 : Int32}
  (h : if v5 < 0 then (if v4 = 0 ∨ v4 = 1 then (Φ v4 σ) else False) else (if ((v2 >>> (v5 &&& 31)) &&& (1 : Int32)) = (1 : Int32) then (bif (zrcv (σ 48 3).toNatClampNeg 4 && true) then (CTV G d Y_X4_add [.inr (.inr (σ 48 3).toNatClampNeg), .inl (-33 : Int32)] σ (fun (s1 : zMem) => WJ G M_X6_readsPart (d + 1) (RI Φ) 96 [some (.inr (.inr 48)), none, some (.inl v2), none, some (.inl v4), some (.inl (v5 + (-1)))] [] s1)) else False) else (bif (zrcv (σ 48 3).toNatClampNeg 4 && true) then (CTV G d Y_X4_add [.inr (.inr (σ 48 3).toNatClampNeg), .inl (-1 : Int32)] σ (fun (s2 : zMem) => WJ G M_X6_readsPart (d + 1) (RI Φ) 96 [some (.inr (.inr 48)), none, some (.inl v2), none, some (.inl v4), some (.inl (v5 + (-1)))] [] s2)) else False))) :
  WJ G M_X6_readsPart (d + 1) (RI Φ) 96 [some (.inr (.inr 48)), none, some (.inl v2), none, some (.inl v4), some (.inl v5)] [] σ :=
  ZP_ok ok_X6_readsPart 20 96 _ _ _ (show ZP G M_X6_readsPart (d + 1) (RI Φ) sp_X6_readsPart 20 96 [some (.inr (.inr 48)), none, some (.inl v2), none, some (.inl v4), some (.inl v5)] [] σ from h)
def sp_X6_readsBare : List (Nat × List Bool) := []
set_option maxRecDepth 100000 in
theorem en_X6_readsBare {G : zGT} {d : Nat} {Φ : Int32 → zMem → Prop} {σ : zMem} {v1 : Int32}
  (h : CTI G d Y_X9_next [.inr (.inr 46)] σ (fun (r2 : Int32) (s1 : zMem) => CTI G d Y_X9_isDigit [.inl r2] s1 (fun (r4 : Int32) (s3 : zMem) => if r4 = 0 then (if r2 = (40 : Int32) then (if (8 : Int32) ≤ v1 then (CTI G d Y_X11_isAmong [.inr (.inr (s3 48 4).toNatClampNeg), .inl r2] s3 (fun (r6 : Int32) (s5 : zMem) => if r6 = 0 then (Φ (0 : Int32) s5) else (bif (zrcv (s5 48 3).toNatClampNeg 4 && true) then (CTV G d Y_X4_add [.inr (.inr (s5 48 3).toNatClampNeg), .inl (-r2)] s5 (fun (s7 : zMem) => CTV G d Y_X6_step [.inr (.inr 48)] s7 (fun (s8 : zMem) => Φ (1 : Int32) s8))) else False))) else (CTV G d Y_X6_step [.inr (.inr 48)] s3 (fun (s9 : zMem) => CTI G d Y_X6_readsLevel [.inr (.inr 48), .inl (0 : Int32), .inl (v1 + (1 : Int32))] s9 (fun (r11 : Int32) (s10 : zMem) => if r11 = 0 then (Φ (0 : Int32) s10) else (CTI G d Y_X9_nextWord [.inr (.inr 46)] s10 (fun (r13 : Int32) (s12 : zMem) => if r13 = (41 : Int32) then (CTV G d Y_X6_step [.inr (.inr 48)] s12 (fun (s14 : zMem) => Φ (1 : Int32) s14)) else (Φ (0 : Int32) s12))))))) else (CTI G d Y_X11_isAmong [.inr (.inr (s3 48 4).toNatClampNeg), .inl r2] s3 (fun (r16 : Int32) (s15 : zMem) => if r16 = 0 then (Φ (0 : Int32) s15) else (bif (zrcv (s15 48 3).toNatClampNeg 4 && true) then (CTV G d Y_X4_add [.inr (.inr (s15 48 3).toNatClampNeg), .inl (-r2)] s15 (fun (s17 : zMem) => CTV G d Y_X6_step [.inr (.inr 48)] s17 (fun (s18 : zMem) => Φ (1 : Int32) s18))) else False)))) else (CTI G d Y_X6_readsNumber [.inr (.inr 48)] s3 (fun (r20 : Int32) (s19 : zMem) => if r20 = 0 ∨ r20 = 1 then (Φ r20 s19) else False))))) :
  CTI G (d + 1) Y_X6_readsBare [.inr (.inr 48), .inl v1] σ Φ :=
  CT_of (M := M_X6_readsBare) rfl (Nat.le_of_ble_eq_true rfl) (Or.inr (Or.inr (Or.inl rfl))) (ZP_ok ok_X6_readsBare 35 0 _ _ _ (show ZP G M_X6_readsBare (d + 1) (RI Φ) sp_X6_readsBare 35 0 [some (.inr (.inr 48)), some (.inl v1), none] [] σ from h))
def sp_X6_readsNumber : List (Nat × List Bool) := [(4, [true, true, true])]
set_option maxRecDepth 100000 in
theorem en_X6_readsNumber {G : zGT} {d : Nat} {Φ : Int32 → zMem → Prop} {σ : zMem}
  (h : WJ G M_X6_readsNumber (d + 1) (RI Φ) 4 [some (.inr (.inr 48)), some (.inl (0 : Int32)), some (.inl (0 : Int32))] [] σ) :
  CTI G (d + 1) Y_X6_readsNumber [.inr (.inr 48)] σ Φ :=
  CT_of (M := M_X6_readsNumber) rfl (Nat.le_of_ble_eq_true rfl) (Or.inr (Or.inr (Or.inl rfl))) (ZP_ok ok_X6_readsNumber 8 0 _ _ _ (show ZP G M_X6_readsNumber (d + 1) (RI Φ) sp_X6_readsNumber 8 0 [some (.inr (.inr 48)), none, none] [] σ from h))
set_option maxRecDepth 100000 in
theorem rg_X6_readsNumber_4 {G : zGT} {d : Nat} {Φ : Int32 → zMem → Prop} {σ : zMem} {v1 v2 : Int32}
  (h : if (6 : Int32) ≤ v2 then (∀ s1 : zMem, s1 = zwr σ 48 5 ((σ 48 5) + (1 : Int32)) → (bif (zrcv (s1 48 3).toNatClampNeg 4 && true) then (CTV G d Y_X4_add [.inr (.inr (s1 48 3).toNatClampNeg), .inl v1] s1 (fun (s2 : zMem) => CTI G d Y_X9_next [.inr (.inr 46)] s2 (fun (r4 : Int32) (s3 : zMem) => CTI G d Y_X9_isDigit [.inl r4] s3 (fun (r6 : Int32) (s5 : zMem) => if r6 = 0 then (Φ (1 : Int32) s5) else (Φ (0 : Int32) s5))))) else False)) else (CTI G d Y_X9_next [.inr (.inr 46)] σ (fun (r8 : Int32) (s7 : zMem) => CTI G d Y_X9_isDigit [.inl r8] s7 (fun (r10 : Int32) (s9 : zMem) => if r10 = 0 then (∀ s11 : zMem, s11 = zwr s9 48 5 ((s9 48 5) + (1 : Int32)) → (bif (zrcv (s11 48 3).toNatClampNeg 4 && true) then (CTV G d Y_X4_add [.inr (.inr (s11 48 3).toNatClampNeg), .inl v1] s11 (fun (s12 : zMem) => CTI G d Y_X9_next [.inr (.inr 46)] s12 (fun (r14 : Int32) (s13 : zMem) => CTI G d Y_X9_isDigit [.inl r14] s13 (fun (r16 : Int32) (s15 : zMem) => if r16 = 0 then (Φ (1 : Int32) s15) else (Φ (0 : Int32) s15))))) else False)) else (CTI G d Y_X9_next [.inr (.inr 46)] s9 (fun (r18 : Int32) (s17 : zMem) => ∀ s19 : zMem, s19 = zwr s17 46 2 ((s17 46 2) + (1 : Int32)) → (WJ G M_X6_readsNumber (d + 1) (RI Φ) 4 [some (.inr (.inr 48)), some (.inl (((v1 * (10 : Int32)) + r18) - (48 : Int32))), some (.inl (v2 + 1))] [] s19))))))) :
  WJ G M_X6_readsNumber (d + 1) (RI Φ) 4 [some (.inr (.inr 48)), some (.inl v1), some (.inl v2)] [] σ :=
  ZP_ok ok_X6_readsNumber 31 4 _ _ _ (show ZP G M_X6_readsNumber (d + 1) (RI Φ) sp_X6_readsNumber 31 4 [some (.inr (.inr 48)), some (.inl v1), some (.inl v2)] [] σ from h)
def sp_X7_pick : List (Nat × List Bool) := [(12, [true, true, true, true, false])]
set_option maxRecDepth 100000 in
theorem en_X7_pick {G : zGT} {d : Nat} {Φ : zMem → Prop} {σ : zMem} {v1 v2 : Int32}
  (h : ∀ s1 : zMem, s1 = zwr σ 64 5 (0 : Int32) → (∀ s2 : zMem, s2 = zwr s1 64 6 (0 : Int32) → (WJ G M_X7_pick (d + 1) (RV Φ) 12 [some (.inr (.inr 64)), some (.inl v1), some (.inl v2), some (.inl (0 : Int32)), none] [] s2))) :
  CTV G (d + 1) Y_X7_pick [.inr (.inr 64), .inl v1, .inl v2] σ Φ :=
  CT_of (M := M_X7_pick) rfl (Nat.le_of_ble_eq_true rfl) (Or.inl rfl) (ZP_ok ok_X7_pick 12 0 _ _ _ (show ZP G M_X7_pick (d + 1) (RV Φ) sp_X7_pick 12 0 [some (.inr (.inr 64)), some (.inl v1), some (.inl v2), none, none] [] σ from h))
set_option maxRecDepth 100000 in
theorem rg_X7_pick_12 {G : zGT} {d : Nat} {Φ : zMem → Prop} {σ : zMem} {v1 v2 v3 : Int32}
  (h : if (σ 1 6) ≤ v3 then (Φ σ) else (if (10 : Int32) ≤ (σ 64 5) then (Φ σ) else (if v2 = (-1000000005 : Int32) then (vp_in v3 24 ∧ (if (σ 35 v3.toNatClampNeg) = v1 then (vp_in (σ 64 5) 10 ∧ ∀ s1 : zMem, s1 = zwr σ 65 (σ 64 5).toNatClampNeg v3 → (CTI G d Y_X2_valueOf [.inr (.inr 55), .inl v3] s1 (fun (r3 : Int32) (s2 : zMem) => vp_in (s1 64 5) 10 ∧ ∀ s4 : zMem, s4 = zwr s2 66 (s1 64 5).toNatClampNeg r3 → (∀ s5 : zMem, s5 = zwr s4 64 5 ((s4 64 5) + (1 : Int32)) → (WJ G M_X7_pick (d + 1) (RV Φ) 12 [some (.inr (.inr 64)), some (.inl v1), some (.inl v2), some (.inl (v3 + 1)), none] [] s5))))) else (WJ G M_X7_pick (d + 1) (RV Φ) 12 [some (.inr (.inr 64)), some (.inl v1), some (.inl v2), some (.inl (v3 + 1)), none] [] σ))) else (vp_in v3 24 ∧ (if (σ 36 v3.toNatClampNeg) = v2 then (vp_in v3 24 ∧ (if (σ 35 v3.toNatClampNeg) = v1 then (vp_in (σ 64 5) 10 ∧ ∀ s6 : zMem, s6 = zwr σ 65 (σ 64 5).toNatClampNeg v3 → (CTI G d Y_X2_valueOf [.inr (.inr 55), .inl v3] s6 (fun (r8 : Int32) (s7 : zMem) => vp_in (s6 64 5) 10 ∧ ∀ s9 : zMem, s9 = zwr s7 66 (s6 64 5).toNatClampNeg r8 → (∀ s10 : zMem, s10 = zwr s9 64 5 ((s9 64 5) + (1 : Int32)) → (WJ G M_X7_pick (d + 1) (RV Φ) 12 [some (.inr (.inr 64)), some (.inl v1), some (.inl v2), some (.inl (v3 + 1)), none] [] s10))))) else (WJ G M_X7_pick (d + 1) (RV Φ) 12 [some (.inr (.inr 64)), some (.inl v1), some (.inl v2), some (.inl (v3 + 1)), none] [] σ))) else (vp_in v3 24 ∧ (if (σ 35 v3.toNatClampNeg) = v1 then (WJ G M_X7_pick (d + 1) (RV Φ) 12 [some (.inr (.inr 64)), some (.inl v1), some (.inl v2), some (.inl (v3 + 1)), none] [] σ) else (WJ G M_X7_pick (d + 1) (RV Φ) 12 [some (.inr (.inr 64)), some (.inl v1), some (.inl v2), some (.inl (v3 + 1)), none] [] σ)))))))) :
  WJ G M_X7_pick (d + 1) (RV Φ) 12 [some (.inr (.inr 64)), some (.inl v1), some (.inl v2), some (.inl v3), none] [] σ :=
  ZP_ok ok_X7_pick 61 12 _ _ _ (show ZP G M_X7_pick (d + 1) (RV Φ) sp_X7_pick 61 12 [some (.inr (.inr 64)), some (.inl v1), some (.inl v2), some (.inl v3), none] [] σ from h)
def sp_X7_take : List (Nat × List Bool) := []
set_option maxRecDepth 100000 in
theorem en_X7_take {G : zGT} {d : Nat} {Φ : zMem → Prop} {σ : zMem} {v1 v2 : Int32}
  (h : ∀ s1 : zMem, s1 = zwr σ 64 6 (1 : Int32) → (∀ s2 : zMem, s2 = zwr s1 64 7 v1 → (CTI G d Y_J6_bitCount_0f7a4 [.inl v1] s2 (fun (r4 : Int32) (s3 : zMem) => ∀ s5 : zMem, s5 = zwr s3 64 8 r4 → (∀ s6 : zMem, s6 = zwr s5 64 9 v2 → (Φ s6)))))) :
  CTV G (d + 1) Y_X7_take [.inr (.inr 64), .inl v1, .inl v2] σ Φ :=
  CT_of (M := M_X7_take) rfl (Nat.le_of_ble_eq_true rfl) (Or.inl rfl) (ZP_ok ok_X7_take 18 0 _ _ _ (show ZP G M_X7_take (d + 1) (RV Φ) sp_X7_take 18 0 [some (.inr (.inr 64)), some (.inl v1), some (.inl v2)] [] σ from h))
def sp_X7_findPurchase : List (Nat × List Bool) := [(20, [true, false, true, true, false, false])]
set_option maxRecDepth 100000 in
theorem en_X7_findPurchase {G : zGT} {d : Nat} {Φ : zMem → Prop} {σ : zMem} {v1 v2 : Int32}
  (h : CTV G d Y_X7_pick [.inr (.inr 64), .inl v1, .inl (2 : Int32)] σ (fun (s1 : zMem) => CTV G d Y_X2_tallyClass [.inr (.inr 55), .inr (.inr 67), .inl v1] s1 (fun (s2 : zMem) => WJ G M_X7_findPurchase (d + 1) (RV Φ) 20 [some (.inr (.inr 64)), none, some (.inl v2), some (.inl (0 : Int32)), none, none] [] s2))) :
  CTV G (d + 1) Y_X7_findPurchase [.inr (.inr 64), .inl v1, .inl v2] σ Φ :=
  CT_of (M := M_X7_findPurchase) rfl (Nat.le_of_ble_eq_true rfl) (Or.inl rfl) (ZP_ok ok_X7_findPurchase 16 0 _ _ _ (show ZP G M_X7_findPurchase (d + 1) (RV Φ) sp_X7_findPurchase 16 0 [some (.inr (.inr 64)), some (.inl v1), some (.inl v2), none, none, none] [] σ from h))
set_option maxRecDepth 100000 in
theorem rg_X7_findPurchase_20 {G : zGT} {d : Nat} {Φ : zMem → Prop} {σ : zMem} {v2 v3 : Int32}
  (h : if ((1 : Int32) <<< ((σ 64 5) &&& 31)) ≤ v3 then (Φ σ) else (CTI G d Y_X7_costOf [.inr (.inr 64), .inl v3, .inl v2] σ (fun (r2 : Int32) (s1 : zMem) => if r2 < (s1 64 9) then (if (s1 64 6) = 0 then (CTI G d Y_X7_passesBought [.inr (.inr 64), .inl v3] s1 (fun (r4 : Int32) (s3 : zMem) => if r4 = 0 then (WJ G M_X7_findPurchase (d + 1) (RV Φ) 20 [some (.inr (.inr 64)), none, some (.inl v2), some (.inl (v3 + 1)), none, none] [] s3) else (CTV G d Y_X7_take [.inr (.inr 64), .inl v3, .inl r2] s3 (fun (s5 : zMem) => WJ G M_X7_findPurchase (d + 1) (RV Φ) 20 [some (.inr (.inr 64)), none, some (.inl v2), some (.inl (v3 + 1)), none, none] [] s5)))) else (CTI G d Y_X7_passesBought [.inr (.inr 64), .inl v3] s1 (fun (r7 : Int32) (s6 : zMem) => if r7 = 0 then (WJ G M_X7_findPurchase (d + 1) (RV Φ) 20 [some (.inr (.inr 64)), none, some (.inl v2), some (.inl (v3 + 1)), none, none] [] s6) else (CTV G d Y_X7_take [.inr (.inr 64), .inl v3, .inl r2] s6 (fun (s8 : zMem) => WJ G M_X7_findPurchase (d + 1) (RV Φ) 20 [some (.inr (.inr 64)), none, some (.inl v2), some (.inl (v3 + 1)), none, none] [] s8))))) else (if r2 = (s1 64 9) then (CTI G d Y_J6_bitCount_0f7a4 [.inl v3] s1 (fun (r10 : Int32) (s9 : zMem) => if (s9 64 8) ≤ r10 then (if (s9 64 6) = 0 then (CTI G d Y_X7_passesBought [.inr (.inr 64), .inl v3] s9 (fun (r12 : Int32) (s11 : zMem) => if r12 = 0 then (WJ G M_X7_findPurchase (d + 1) (RV Φ) 20 [some (.inr (.inr 64)), none, some (.inl v2), some (.inl (v3 + 1)), none, none] [] s11) else (CTV G d Y_X7_take [.inr (.inr 64), .inl v3, .inl r2] s11 (fun (s13 : zMem) => WJ G M_X7_findPurchase (d + 1) (RV Φ) 20 [some (.inr (.inr 64)), none, some (.inl v2), some (.inl (v3 + 1)), none, none] [] s13)))) else (WJ G M_X7_findPurchase (d + 1) (RV Φ) 20 [some (.inr (.inr 64)), none, some (.inl v2), some (.inl (v3 + 1)), none, none] [] s9)) else (if (s9 64 6) = 0 then (CTI G d Y_X7_passesBought [.inr (.inr 64), .inl v3] s9 (fun (r15 : Int32) (s14 : zMem) => if r15 = 0 then (WJ G M_X7_findPurchase (d + 1) (RV Φ) 20 [some (.inr (.inr 64)), none, some (.inl v2), some (.inl (v3 + 1)), none, none] [] s14) else (CTV G d Y_X7_take [.inr (.inr 64), .inl v3, .inl r2] s14 (fun (s16 : zMem) => WJ G M_X7_findPurchase (d + 1) (RV Φ) 20 [some (.inr (.inr 64)), none, some (.inl v2), some (.inl (v3 + 1)), none, none] [] s16)))) else (CTI G d Y_X7_passesBought [.inr (.inr 64), .inl v3] s9 (fun (r18 : Int32) (s17 : zMem) => if r18 = 0 then (WJ G M_X7_findPurchase (d + 1) (RV Φ) 20 [some (.inr (.inr 64)), none, some (.inl v2), some (.inl (v3 + 1)), none, none] [] s17) else (CTV G d Y_X7_take [.inr (.inr 64), .inl v3, .inl r2] s17 (fun (s19 : zMem) => WJ G M_X7_findPurchase (d + 1) (RV Φ) 20 [some (.inr (.inr 64)), none, some (.inl v2), some (.inl (v3 + 1)), none, none] [] s19))))))) else (if (s1 64 6) = 0 then (CTI G d Y_X7_passesBought [.inr (.inr 64), .inl v3] s1 (fun (r21 : Int32) (s20 : zMem) => if r21 = 0 then (WJ G M_X7_findPurchase (d + 1) (RV Φ) 20 [some (.inr (.inr 64)), none, some (.inl v2), some (.inl (v3 + 1)), none, none] [] s20) else (CTV G d Y_X7_take [.inr (.inr 64), .inl v3, .inl r2] s20 (fun (s22 : zMem) => WJ G M_X7_findPurchase (d + 1) (RV Φ) 20 [some (.inr (.inr 64)), none, some (.inl v2), some (.inl (v3 + 1)), none, none] [] s22)))) else (WJ G M_X7_findPurchase (d + 1) (RV Φ) 20 [some (.inr (.inr 64)), none, some (.inl v2), some (.inl (v3 + 1)), none, none] [] s1)))))) :
  WJ G M_X7_findPurchase (d + 1) (RV Φ) 20 [some (.inr (.inr 64)), none, some (.inl v2), some (.inl v3), none, none] [] σ :=
  ZP_ok ok_X7_findPurchase 46 20 _ _ _ (show ZP G M_X7_findPurchase (d + 1) (RV Φ) sp_X7_findPurchase 46 20 [some (.inr (.inr 64)), none, some (.inl v2), some (.inl v3), none, none] [] σ from h)
def sp_X7_costOf : List (Nat × List Bool) := [(5, [true, true, true, true, true])]
set_option maxRecDepth 100000 in
theorem en_X7_costOf {G : zGT} {d : Nat} {Φ : Int32 → zMem → Prop} {σ : zMem} {v1 v2 : Int32}
  (h : WJ G M_X7_costOf d (RI Φ) 5 [some (.inr (.inr 64)), some (.inl v1), some (.inl v2), some (.inl (0 : Int32)), some (.inl (0 : Int32))] [] σ) :
  CTI G d Y_X7_costOf [.inr (.inr 64), .inl v1, .inl v2] σ Φ :=
  CT_of (M := M_X7_costOf) rfl (Nat.le_of_ble_eq_true rfl) (Or.inr (Or.inl rfl)) (ZP_ok ok_X7_costOf 8 0 _ _ _ (show ZP G M_X7_costOf d (RI Φ) sp_X7_costOf 8 0 [some (.inr (.inr 64)), some (.inl v1), some (.inl v2), none, none] [] σ from h))
set_option maxRecDepth 100000 in
theorem rg_X7_costOf_5 {G : zGT} {d : Nat} {Φ : Int32 → zMem → Prop} {σ : zMem} {v1 v2 v3 v4 : Int32}
  (h : if (σ 64 5) ≤ v4 then (Φ v3 σ) else (vp_in v4 10 ∧ (¬ (100 : Int32) = 0 ∧ (WJ G M_X7_costOf d (RI Φ) 5 [some (.inr (.inr 64)), some (.inl v1), some (.inl v2), some (.inl (v3 + (((v1 >>> (v4 &&& 31)) &&& (1 : Int32)) * (((σ 66 v4.toNatClampNeg) * v2) / (100 : Int32))))), some (.inl (v4 + 1))] [] σ)))) :
  WJ G M_X7_costOf d (RI Φ) 5 [some (.inr (.inr 64)), some (.inl v1), some (.inl v2), some (.inl v3), some (.inl v4)] [] σ :=
  ZP_ok ok_X7_costOf 27 5 _ _ _ (show ZP G M_X7_costOf d (RI Φ) sp_X7_costOf 27 5 [some (.inr (.inr 64)), some (.inl v1), some (.inl v2), some (.inl v3), some (.inl v4)] [] σ from h)
def sp_X7_passesBought : List (Nat × List Bool) := [(4, [true, true, true, true])]
set_option maxRecDepth 100000 in
theorem en_X7_passesBought {G : zGT} {d : Nat} {Φ : Int32 → zMem → Prop} {σ : zMem} {v1 : Int32}
  (h : WJ G M_X7_passesBought (d + 1) (RI Φ) 4 [some (.inr (.inr 64)), some (.inl v1), some (.inl (0 : Int32)), some (.inl (0 : Int32))] [] σ) :
  CTI G (d + 1) Y_X7_passesBought [.inr (.inr 64), .inl v1] σ Φ :=
  CT_of (M := M_X7_passesBought) rfl (Nat.le_of_ble_eq_true rfl) (Or.inr (Or.inr (Or.inl rfl))) (ZP_ok ok_X7_passesBought 8 0 _ _ _ (show ZP G M_X7_passesBought (d + 1) (RI Φ) sp_X7_passesBought 8 0 [some (.inr (.inr 64)), some (.inl v1), none, none] [] σ from h))
set_option maxRecDepth 100000 in
theorem rg_X7_passesBought_4 {G : zGT} {d : Nat} {Φ : Int32 → zMem → Prop} {σ : zMem} {v1 v2 v3 : Int32}
  (h : if (σ 64 5) ≤ v3 then (CTI G d Y_J6_bitCount_0f7a4 [.inl v1] σ (fun (r2 : Int32) (s1 : zMem) => ∀ s3 : zMem, s3 = zwr s1 68 0 ((s1 67 0) + v2) → (∀ s4 : zMem, s4 = zwr s3 68 1 ((s3 67 1) - v2) → (∀ s5 : zMem, s5 = zwr s4 68 2 (s4 67 2) → (∀ s6 : zMem, s6 = zwr s5 68 3 ((s5 67 3) + r2) → (∀ s7 : zMem, s7 = zwr s6 68 4 ((s6 67 4) - r2) → (∀ s8 : zMem, s8 = zwr s7 68 5 (s7 67 5) → (∀ s9 : zMem, s9 = zwr s8 68 6 (s8 67 6) → (CTI G d Y_X2_passesBy [.inr (.inr 55), .inr (.inr 68)] s9 (fun (r11 : Int32) (s10 : zMem) => if r11 = 0 ∨ r11 = 1 then (Φ r11 s10) else False)))))))))) else (vp_in v3 10 ∧ (WJ G M_X7_passesBought (d + 1) (RI Φ) 4 [some (.inr (.inr 64)), some (.inl v1), some (.inl (v2 + (((v1 >>> (v3 &&& 31)) &&& (1 : Int32)) * (σ 66 v3.toNatClampNeg)))), some (.inl (v3 + 1))] [] σ))) :
  WJ G M_X7_passesBought (d + 1) (RI Φ) 4 [some (.inr (.inr 64)), some (.inl v1), some (.inl v2), some (.inl v3)] [] σ :=
  ZP_ok ok_X7_passesBought 67 4 _ _ _ (show ZP G M_X7_passesBought (d + 1) (RI Φ) sp_X7_passesBought 67 4 [some (.inr (.inr 64)), some (.inl v1), some (.inl v2), some (.inl v3)] [] σ from h)
def sp_X7_findPart : List (Nat × List Bool) := [(9, [true, false, true])]
set_option maxRecDepth 100000 in
theorem en_X7_findPart {G : zGT} {d : Nat} {Φ : zMem → Prop} {σ : zMem} {v1 : Int32}
  (h : CTV G d Y_X7_pick [.inr (.inr 64), .inl v1, .inl (-1000000005 : Int32)] σ (fun (s1 : zMem) => WJ G M_X7_findPart (d + 1) (RV Φ) 9 [some (.inr (.inr 64)), none, some (.inl (1 : Int32))] [] s1)) :
  CTV G (d + 1) Y_X7_findPart [.inr (.inr 64), .inl v1] σ Φ :=
  CT_of (M := M_X7_findPart) rfl (Nat.le_of_ble_eq_true rfl) (Or.inl rfl) (ZP_ok ok_X7_findPart 10 0 _ _ _ (show ZP G M_X7_findPart (d + 1) (RV Φ) sp_X7_findPart 10 0 [some (.inr (.inr 64)), some (.inl v1), none] [] σ from h))
set_option maxRecDepth 100000 in
theorem rg_X7_findPart_9 {G : zGT} {d : Nat} {Φ : zMem → Prop} {σ : zMem} {v2 : Int32}
  (h : if ((1 : Int32) <<< ((σ 64 5) &&& 31)) ≤ v2 then (Φ σ) else (if (σ 64 6) = 0 then (CTI G d Y_X7_passesAlone [.inr (.inr 64), .inl v2] σ (fun (r2 : Int32) (s1 : zMem) => if r2 = 0 then (WJ G M_X7_findPart (d + 1) (RV Φ) 9 [some (.inr (.inr 64)), none, some (.inl (v2 + 1))] [] s1) else (CTV G d Y_X7_take [.inr (.inr 64), .inl v2, .inl (0 : Int32)] s1 (fun (s3 : zMem) => WJ G M_X7_findPart (d + 1) (RV Φ) 9 [some (.inr (.inr 64)), none, some (.inl (v2 + 1))] [] s3)))) else (CTI G d Y_J6_bitCount_0f7a4 [.inl v2] σ (fun (r5 : Int32) (s4 : zMem) => if (s4 64 8) ≤ r5 then (WJ G M_X7_findPart (d + 1) (RV Φ) 9 [some (.inr (.inr 64)), none, some (.inl (v2 + 1))] [] s4) else (CTI G d Y_X7_passesAlone [.inr (.inr 64), .inl v2] s4 (fun (r7 : Int32) (s6 : zMem) => if r7 = 0 then (WJ G M_X7_findPart (d + 1) (RV Φ) 9 [some (.inr (.inr 64)), none, some (.inl (v2 + 1))] [] s6) else (CTV G d Y_X7_take [.inr (.inr 64), .inl v2, .inl (0 : Int32)] s6 (fun (s8 : zMem) => WJ G M_X7_findPart (d + 1) (RV Φ) 9 [some (.inr (.inr 64)), none, some (.inl (v2 + 1))] [] s8)))))))) :
  WJ G M_X7_findPart (d + 1) (RV Φ) 9 [some (.inr (.inr 64)), none, some (.inl v2)] [] σ :=
  ZP_ok ok_X7_findPart 28 9 _ _ _ (show ZP G M_X7_findPart (d + 1) (RV Φ) sp_X7_findPart 28 9 [some (.inr (.inr 64)), none, some (.inl v2)] [] σ from h)
def sp_X7_passesAlone : List (Nat × List Bool) := [(9, [true, true, true, false])]
set_option maxRecDepth 100000 in
theorem en_X7_passesAlone {G : zGT} {d : Nat} {Φ : Int32 → zMem → Prop} {σ : zMem} {v1 : Int32}
  (h : CTV G d Y_X8_clear [.inr (.inr 68)] σ (fun (s1 : zMem) => WJ G M_X7_passesAlone (d + 1) (RI Φ) 9 [some (.inr (.inr 64)), some (.inl v1), some (.inl (0 : Int32)), none] [] s1)) :
  CTI G (d + 1) Y_X7_passesAlone [.inr (.inr 64), .inl v1] σ Φ :=
  CT_of (M := M_X7_passesAlone) rfl (Nat.le_of_ble_eq_true rfl) (Or.inr (Or.inr (Or.inl rfl))) (ZP_ok ok_X7_passesAlone 9 0 _ _ _ (show ZP G M_X7_passesAlone (d + 1) (RI Φ) sp_X7_passesAlone 9 0 [some (.inr (.inr 64)), some (.inl v1), none, none] [] σ from h))
set_option maxRecDepth 100000 in
theorem rg_X7_passesAlone_9 {G : zGT} {d : Nat} {Φ : Int32 → zMem → Prop} {σ : zMem} {v1 v2 : Int32}
  (h : if (σ 64 5) ≤ v2 then (CTI G d Y_X2_passesBy [.inr (.inr 55), .inr (.inr 68)] σ (fun (r2 : Int32) (s1 : zMem) => if r2 = 0 ∨ r2 = 1 then (Φ r2 s1) else False)) else (if ((v1 >>> (v2 &&& 31)) &&& (1 : Int32)) = (1 : Int32) then (vp_in v2 10 ∧ (vp_in (σ 65 v2.toNatClampNeg) 24 ∧ (vp_in v2 10 ∧ (vp_in (σ 65 v2.toNatClampNeg) 24 ∧ (CTV G d Y_X8_add [.inr (.inr 68), .inl (σ 2 (σ 65 v2.toNatClampNeg).toNatClampNeg), .inl (σ 66 v2.toNatClampNeg), .inl (σ 36 (σ 65 v2.toNatClampNeg).toNatClampNeg)] σ (fun (s3 : zMem) => WJ G M_X7_passesAlone (d + 1) (RI Φ) 9 [some (.inr (.inr 64)), some (.inl v1), some (.inl (v2 + 1)), none] [] s3)))))) else (WJ G M_X7_passesAlone (d + 1) (RI Φ) 9 [some (.inr (.inr 64)), some (.inl v1), some (.inl (v2 + 1)), none] [] σ))) :
  WJ G M_X7_passesAlone (d + 1) (RI Φ) 9 [some (.inr (.inr 64)), some (.inl v1), some (.inl v2), none] [] σ :=
  ZP_ok ok_X7_passesAlone 41 9 _ _ _ (show ZP G M_X7_passesAlone (d + 1) (RI Φ) sp_X7_passesAlone 41 9 [some (.inr (.inr 64)), some (.inl v1), some (.inl v2), none] [] σ from h)
def sp_X7_member : List (Nat × List Bool) := [(4, [true, true, true, true])]
set_option maxRecDepth 100000 in
theorem en_X7_member {G : zGT} {d : Nat} {Φ : Int32 → zMem → Prop} {σ : zMem} {v1 : Int32}
  (h : WJ G M_X7_member d (RI Φ) 4 [some (.inr (.inr 64)), some (.inl v1), some (.inl (0 : Int32)), some (.inl (0 : Int32))] [] σ) :
  CTI G d Y_X7_member [.inr (.inr 64), .inl v1] σ Φ :=
  CT_of (M := M_X7_member) rfl (Nat.le_of_ble_eq_true rfl) (Or.inr (Or.inl rfl)) (ZP_ok ok_X7_member 8 0 _ _ _ (show ZP G M_X7_member d (RI Φ) sp_X7_member 8 0 [some (.inr (.inr 64)), some (.inl v1), none, none] [] σ from h))
set_option maxRecDepth 100000 in
theorem rg_X7_member_4 {G : zGT} {d : Nat} {Φ : Int32 → zMem → Prop} {σ : zMem} {v1 v2 v3 : Int32}
  (h : if (σ 64 5) ≤ v3 then (Φ (-1000000005 : Int32) σ) else (if (((σ 64 7) >>> (v3 &&& 31)) &&& (1 : Int32)) = (1 : Int32) then (if v2 = v1 then (vp_in v3 10 ∧ (Φ (σ 65 v3.toNatClampNeg) σ)) else (WJ G M_X7_member d (RI Φ) 4 [some (.inr (.inr 64)), some (.inl v1), some (.inl (v2 + 1)), some (.inl (v3 + 1))] [] σ)) else (WJ G M_X7_member d (RI Φ) 4 [some (.inr (.inr 64)), some (.inl v1), some (.inl v2), some (.inl (v3 + 1))] [] σ))) :
  WJ G M_X7_member d (RI Φ) 4 [some (.inr (.inr 64)), some (.inl v1), some (.inl v2), some (.inl v3)] [] σ :=
  ZP_ok ok_X7_member 24 4 _ _ _ (show ZP G M_X7_member d (RI Φ) sp_X7_member 24 4 [some (.inr (.inr 64)), some (.inl v1), some (.inl v2), some (.inl v3)] [] σ from h)
def sp_X8_clear : List (Nat × List Bool) := []
set_option maxRecDepth 100000 in
theorem en_X8_clear_i62 {G : zGT} {d : Nat} {Φ : zMem → Prop} {σ : zMem}
  (h : ∀ s1 : zMem, s1 = zwr σ 62 0 (0 : Int32) → (∀ s2 : zMem, s2 = zwr s1 62 1 (0 : Int32) → (∀ s3 : zMem, s3 = zwr s2 62 2 (0 : Int32) → (∀ s4 : zMem, s4 = zwr s3 62 3 (0 : Int32) → (∀ s5 : zMem, s5 = zwr s4 62 4 (0 : Int32) → (∀ s6 : zMem, s6 = zwr s5 62 5 (0 : Int32) → (∀ s7 : zMem, s7 = zwr s6 62 6 (0 : Int32) → (Φ s7)))))))) :
  CTV G d Y_X8_clear [.inr (.inr 62)] σ Φ :=
  CT_of (M := M_X8_clear) rfl (Nat.le_of_ble_eq_true rfl) (Or.inl rfl) (ZP_ok ok_X8_clear 26 0 _ _ _ (show ZP G M_X8_clear d (RV Φ) sp_X8_clear 26 0 [some (.inr (.inr 62))] [] σ from h))
set_option maxRecDepth 100000 in
theorem en_X8_clear_i67 {G : zGT} {d : Nat} {Φ : zMem → Prop} {σ : zMem}
  (h : ∀ s1 : zMem, s1 = zwr σ 67 0 (0 : Int32) → (∀ s2 : zMem, s2 = zwr s1 67 1 (0 : Int32) → (∀ s3 : zMem, s3 = zwr s2 67 2 (0 : Int32) → (∀ s4 : zMem, s4 = zwr s3 67 3 (0 : Int32) → (∀ s5 : zMem, s5 = zwr s4 67 4 (0 : Int32) → (∀ s6 : zMem, s6 = zwr s5 67 5 (0 : Int32) → (∀ s7 : zMem, s7 = zwr s6 67 6 (0 : Int32) → (Φ s7)))))))) :
  CTV G d Y_X8_clear [.inr (.inr 67)] σ Φ :=
  CT_of (M := M_X8_clear) rfl (Nat.le_of_ble_eq_true rfl) (Or.inl rfl) (ZP_ok ok_X8_clear 26 0 _ _ _ (show ZP G M_X8_clear d (RV Φ) sp_X8_clear 26 0 [some (.inr (.inr 67))] [] σ from h))
set_option maxRecDepth 100000 in
theorem en_X8_clear_i68 {G : zGT} {d : Nat} {Φ : zMem → Prop} {σ : zMem}
  (h : ∀ s1 : zMem, s1 = zwr σ 68 0 (0 : Int32) → (∀ s2 : zMem, s2 = zwr s1 68 1 (0 : Int32) → (∀ s3 : zMem, s3 = zwr s2 68 2 (0 : Int32) → (∀ s4 : zMem, s4 = zwr s3 68 3 (0 : Int32) → (∀ s5 : zMem, s5 = zwr s4 68 4 (0 : Int32) → (∀ s6 : zMem, s6 = zwr s5 68 5 (0 : Int32) → (∀ s7 : zMem, s7 = zwr s6 68 6 (0 : Int32) → (Φ s7)))))))) :
  CTV G d Y_X8_clear [.inr (.inr 68)] σ Φ :=
  CT_of (M := M_X8_clear) rfl (Nat.le_of_ble_eq_true rfl) (Or.inl rfl) (ZP_ok ok_X8_clear 26 0 _ _ _ (show ZP G M_X8_clear d (RV Φ) sp_X8_clear 26 0 [some (.inr (.inr 68))] [] σ from h))
def sp_X8_add : List (Nat × List Bool) := []
set_option maxRecDepth 100000 in
theorem en_X8_add_i62 {G : zGT} {d : Nat} {Φ : zMem → Prop} {σ : zMem} {v1 v2 v3 : Int32}
  (h : if (σ 62 5) = 0 then (∀ s1 : zMem, s1 = zwr σ 62 6 v1 → (∀ s2 : zMem, s2 = zwr s1 62 5 ((s1 62 5) + (1 : Int32)) → (∀ s3 : zMem, s3 = zwr s2 62 2 ((s2 62 2) + v2) → (if v3 = (1 : Int32) then (∀ s4 : zMem, s4 = zwr s3 62 0 ((s3 62 0) + v2) → (∀ s5 : zMem, s5 = zwr s4 62 3 ((s4 62 3) + (1 : Int32)) → (if v3 = (2 : Int32) then (∀ s6 : zMem, s6 = zwr s5 62 1 ((s5 62 1) + v2) → (∀ s7 : zMem, s7 = zwr s6 62 4 ((s6 62 4) + (1 : Int32)) → (Φ s7))) else (Φ s5)))) else (if v3 = (2 : Int32) then (∀ s8 : zMem, s8 = zwr s3 62 1 ((s3 62 1) + v2) → (∀ s9 : zMem, s9 = zwr s8 62 4 ((s8 62 4) + (1 : Int32)) → (Φ s9))) else (Φ s3)))))) else (∀ s10 : zMem, s10 = zwr σ 62 6 (σ 62 6) → (∀ s11 : zMem, s11 = zwr s10 62 5 ((s10 62 5) + (1 : Int32)) → (∀ s12 : zMem, s12 = zwr s11 62 2 ((s11 62 2) + v2) → (if v3 = (1 : Int32) then (∀ s13 : zMem, s13 = zwr s12 62 0 ((s12 62 0) + v2) → (∀ s14 : zMem, s14 = zwr s13 62 3 ((s13 62 3) + (1 : Int32)) → (if v3 = (2 : Int32) then (∀ s15 : zMem, s15 = zwr s14 62 1 ((s14 62 1) + v2) → (∀ s16 : zMem, s16 = zwr s15 62 4 ((s15 62 4) + (1 : Int32)) → (Φ s16))) else (Φ s14)))) else (if v3 = (2 : Int32) then (∀ s17 : zMem, s17 = zwr s12 62 1 ((s12 62 1) + v2) → (∀ s18 : zMem, s18 = zwr s17 62 4 ((s17 62 4) + (1 : Int32)) → (Φ s18))) else (Φ s12))))))) :
  CTV G d Y_X8_add [.inr (.inr 62), .inl v1, .inl v2, .inl v3] σ Φ :=
  CT_of (M := M_X8_add) rfl (Nat.le_of_ble_eq_true rfl) (Or.inl rfl) (ZP_ok ok_X8_add 54 0 _ _ _ (show ZP G M_X8_add d (RV Φ) sp_X8_add 54 0 [some (.inr (.inr 62)), some (.inl v1), some (.inl v2), some (.inl v3)] [] σ from h))
set_option maxRecDepth 100000 in
theorem en_X8_add_i67 {G : zGT} {d : Nat} {Φ : zMem → Prop} {σ : zMem} {v1 v2 v3 : Int32}
  (h : if (σ 67 5) = 0 then (∀ s1 : zMem, s1 = zwr σ 67 6 v1 → (∀ s2 : zMem, s2 = zwr s1 67 5 ((s1 67 5) + (1 : Int32)) → (∀ s3 : zMem, s3 = zwr s2 67 2 ((s2 67 2) + v2) → (if v3 = (1 : Int32) then (∀ s4 : zMem, s4 = zwr s3 67 0 ((s3 67 0) + v2) → (∀ s5 : zMem, s5 = zwr s4 67 3 ((s4 67 3) + (1 : Int32)) → (if v3 = (2 : Int32) then (∀ s6 : zMem, s6 = zwr s5 67 1 ((s5 67 1) + v2) → (∀ s7 : zMem, s7 = zwr s6 67 4 ((s6 67 4) + (1 : Int32)) → (Φ s7))) else (Φ s5)))) else (if v3 = (2 : Int32) then (∀ s8 : zMem, s8 = zwr s3 67 1 ((s3 67 1) + v2) → (∀ s9 : zMem, s9 = zwr s8 67 4 ((s8 67 4) + (1 : Int32)) → (Φ s9))) else (Φ s3)))))) else (∀ s10 : zMem, s10 = zwr σ 67 6 (σ 67 6) → (∀ s11 : zMem, s11 = zwr s10 67 5 ((s10 67 5) + (1 : Int32)) → (∀ s12 : zMem, s12 = zwr s11 67 2 ((s11 67 2) + v2) → (if v3 = (1 : Int32) then (∀ s13 : zMem, s13 = zwr s12 67 0 ((s12 67 0) + v2) → (∀ s14 : zMem, s14 = zwr s13 67 3 ((s13 67 3) + (1 : Int32)) → (if v3 = (2 : Int32) then (∀ s15 : zMem, s15 = zwr s14 67 1 ((s14 67 1) + v2) → (∀ s16 : zMem, s16 = zwr s15 67 4 ((s15 67 4) + (1 : Int32)) → (Φ s16))) else (Φ s14)))) else (if v3 = (2 : Int32) then (∀ s17 : zMem, s17 = zwr s12 67 1 ((s12 67 1) + v2) → (∀ s18 : zMem, s18 = zwr s17 67 4 ((s17 67 4) + (1 : Int32)) → (Φ s18))) else (Φ s12))))))) :
  CTV G d Y_X8_add [.inr (.inr 67), .inl v1, .inl v2, .inl v3] σ Φ :=
  CT_of (M := M_X8_add) rfl (Nat.le_of_ble_eq_true rfl) (Or.inl rfl) (ZP_ok ok_X8_add 54 0 _ _ _ (show ZP G M_X8_add d (RV Φ) sp_X8_add 54 0 [some (.inr (.inr 67)), some (.inl v1), some (.inl v2), some (.inl v3)] [] σ from h))
set_option maxRecDepth 100000 in
theorem en_X8_add_i68 {G : zGT} {d : Nat} {Φ : zMem → Prop} {σ : zMem} {v1 v2 v3 : Int32}
  (h : if (σ 68 5) = 0 then (∀ s1 : zMem, s1 = zwr σ 68 6 v1 → (∀ s2 : zMem, s2 = zwr s1 68 5 ((s1 68 5) + (1 : Int32)) → (∀ s3 : zMem, s3 = zwr s2 68 2 ((s2 68 2) + v2) → (if v3 = (1 : Int32) then (∀ s4 : zMem, s4 = zwr s3 68 0 ((s3 68 0) + v2) → (∀ s5 : zMem, s5 = zwr s4 68 3 ((s4 68 3) + (1 : Int32)) → (if v3 = (2 : Int32) then (∀ s6 : zMem, s6 = zwr s5 68 1 ((s5 68 1) + v2) → (∀ s7 : zMem, s7 = zwr s6 68 4 ((s6 68 4) + (1 : Int32)) → (Φ s7))) else (Φ s5)))) else (if v3 = (2 : Int32) then (∀ s8 : zMem, s8 = zwr s3 68 1 ((s3 68 1) + v2) → (∀ s9 : zMem, s9 = zwr s8 68 4 ((s8 68 4) + (1 : Int32)) → (Φ s9))) else (Φ s3)))))) else (∀ s10 : zMem, s10 = zwr σ 68 6 (σ 68 6) → (∀ s11 : zMem, s11 = zwr s10 68 5 ((s10 68 5) + (1 : Int32)) → (∀ s12 : zMem, s12 = zwr s11 68 2 ((s11 68 2) + v2) → (if v3 = (1 : Int32) then (∀ s13 : zMem, s13 = zwr s12 68 0 ((s12 68 0) + v2) → (∀ s14 : zMem, s14 = zwr s13 68 3 ((s13 68 3) + (1 : Int32)) → (if v3 = (2 : Int32) then (∀ s15 : zMem, s15 = zwr s14 68 1 ((s14 68 1) + v2) → (∀ s16 : zMem, s16 = zwr s15 68 4 ((s15 68 4) + (1 : Int32)) → (Φ s16))) else (Φ s14)))) else (if v3 = (2 : Int32) then (∀ s17 : zMem, s17 = zwr s12 68 1 ((s12 68 1) + v2) → (∀ s18 : zMem, s18 = zwr s17 68 4 ((s17 68 4) + (1 : Int32)) → (Φ s18))) else (Φ s12))))))) :
  CTV G d Y_X8_add [.inr (.inr 68), .inl v1, .inl v2, .inl v3] σ Φ :=
  CT_of (M := M_X8_add) rfl (Nat.le_of_ble_eq_true rfl) (Or.inl rfl) (ZP_ok ok_X8_add 54 0 _ _ _ (show ZP G M_X8_add d (RV Φ) sp_X8_add 54 0 [some (.inr (.inr 68)), some (.inl v1), some (.inl v2), some (.inl v3)] [] σ from h))
def sp_X8_nameValue : List (Nat × List Bool) := []
set_option maxRecDepth 100000 in
theorem en_X8_nameValue_i62 {G : zGT} {d : Nat} {Φ : Int32 → zMem → Prop} {σ : zMem} {v1 : Int32}
  (h : if v1 = (107 : Int32) then (Φ (σ 62 6) σ) else if v1 = (108 : Int32) then (Φ (0 : Int32) σ) else if v1 = (109 : Int32) then (Φ (σ 62 5) σ) else if v1 = (110 : Int32) then (CTI G d Y_X8_hundredths [.inl (σ 62 3), .inl ((σ 62 3) + (σ 62 4))] σ (fun (r2 : Int32) (s1 : zMem) => Φ r2 s1)) else if v1 = (111 : Int32) then (Φ (0 : Int32) σ) else if v1 = (112 : Int32) then (Φ (0 : Int32) σ) else if v1 = (113 : Int32) then (Φ (0 : Int32) σ) else if v1 = (114 : Int32) then (Φ (0 : Int32) σ) else if v1 = (115 : Int32) then (Φ (0 : Int32) σ) else if v1 = (116 : Int32) then (CTI G d Y_X8_hundredths [.inl ((σ 62 0) + (σ 62 1)), .inl (σ 62 2)] σ (fun (r4 : Int32) (s3 : zMem) => Φ r4 s3)) else if v1 = (117 : Int32) then (Φ (0 : Int32) σ) else if v1 = (118 : Int32) then (CTI G d Y_X8_hundredths [.inl (σ 62 0), .inl ((σ 62 0) + (σ 62 1))] σ (fun (r6 : Int32) (s5 : zMem) => Φ r6 s5)) else (Φ (0 : Int32) σ)) :
  CTI G (d + 1) Y_X8_nameValue [.inr (.inr 62), .inl v1] σ Φ :=
  CT_of (M := M_X8_nameValue) rfl (Nat.le_of_ble_eq_true rfl) (Or.inr (Or.inl rfl)) (ZP_ok ok_X8_nameValue 15 0 _ _ _ (show ZP G M_X8_nameValue (d + 1) (RI Φ) sp_X8_nameValue 15 0 [some (.inr (.inr 62)), some (.inl v1)] [] σ from h))
set_option maxRecDepth 100000 in
theorem en_X8_nameValue_i68 {G : zGT} {d : Nat} {Φ : Int32 → zMem → Prop} {σ : zMem} {v1 : Int32}
  (h : if v1 = (107 : Int32) then (Φ (σ 68 6) σ) else if v1 = (108 : Int32) then (Φ (0 : Int32) σ) else if v1 = (109 : Int32) then (Φ (σ 68 5) σ) else if v1 = (110 : Int32) then (CTI G d Y_X8_hundredths [.inl (σ 68 3), .inl ((σ 68 3) + (σ 68 4))] σ (fun (r2 : Int32) (s1 : zMem) => Φ r2 s1)) else if v1 = (111 : Int32) then (Φ (0 : Int32) σ) else if v1 = (112 : Int32) then (Φ (0 : Int32) σ) else if v1 = (113 : Int32) then (Φ (0 : Int32) σ) else if v1 = (114 : Int32) then (Φ (0 : Int32) σ) else if v1 = (115 : Int32) then (Φ (0 : Int32) σ) else if v1 = (116 : Int32) then (CTI G d Y_X8_hundredths [.inl ((σ 68 0) + (σ 68 1)), .inl (σ 68 2)] σ (fun (r4 : Int32) (s3 : zMem) => Φ r4 s3)) else if v1 = (117 : Int32) then (Φ (0 : Int32) σ) else if v1 = (118 : Int32) then (CTI G d Y_X8_hundredths [.inl (σ 68 0), .inl ((σ 68 0) + (σ 68 1))] σ (fun (r6 : Int32) (s5 : zMem) => Φ r6 s5)) else (Φ (0 : Int32) σ)) :
  CTI G (d + 1) Y_X8_nameValue [.inr (.inr 68), .inl v1] σ Φ :=
  CT_of (M := M_X8_nameValue) rfl (Nat.le_of_ble_eq_true rfl) (Or.inr (Or.inl rfl)) (ZP_ok ok_X8_nameValue 15 0 _ _ _ (show ZP G M_X8_nameValue (d + 1) (RI Φ) sp_X8_nameValue 15 0 [some (.inr (.inr 68)), some (.inl v1)] [] σ from h))
def sp_X8_hundredths : List (Nat × List Bool) := []
set_option maxRecDepth 100000 in
theorem en_X8_hundredths {G : zGT} {d : Nat} {Φ : Int32 → zMem → Prop} {σ : zMem} {v0 v1 : Int32}
  (h : if v1 = 0 then (Φ (0 : Int32) σ) else (¬ v1 = 0 ∧ (Φ (((100 : Int32) * v0) / v1) σ))) :
  CTI G d Y_X8_hundredths [.inl v0, .inl v1] σ Φ :=
  CT_of (M := M_X8_hundredths) rfl (Nat.le_of_ble_eq_true rfl) (Or.inr (Or.inl rfl)) (ZP_ok ok_X8_hundredths 12 0 _ _ _ (show ZP G M_X8_hundredths d (RI Φ) sp_X8_hundredths 12 0 [some (.inl v0), some (.inl v1)] [] σ from h))
def sp_X9_write : List (Nat × List Bool) := [(3, [true, true, true])]
set_option maxRecDepth 100000 in
theorem en_X9_write {G : zGT} {d : Nat} {Φ : zMem → Prop} {σ : zMem} {v1 : Int32}
  (h : WJ G M_X9_write d (RV Φ) 3 [some (.inr (.inr 46)), some (.inl v1), some (.inl (24 : Int32))] [] σ) :
  CTV G d Y_X9_write [.inr (.inr 46), .inl v1] σ Φ :=
  CT_of (M := M_X9_write) rfl (Nat.le_of_ble_eq_true rfl) (Or.inl rfl) (ZP_ok ok_X9_write 6 0 _ _ _ (show ZP G M_X9_write d (RV Φ) sp_X9_write 6 0 [some (.inr (.inr 46)), some (.inl v1), none] [] σ from h))
set_option maxRecDepth 100000 in
theorem rg_X9_write_3 {G : zGT} {d : Nat} {Φ : zMem → Prop} {σ : zMem} {v1 v2 : Int32}
  (h : if v2 < 0 then (Φ σ) else (if (96 : Int32) ≤ (σ 46 1) then (Φ σ) else (vp_in (σ 46 1) 96 ∧ ∀ s1 : zMem, s1 = zwr σ 47 (σ 46 1).toNatClampNeg (v1 >>> (v2 &&& 31)).toInt8.toInt32.toInt8.toInt32 → (∀ s2 : zMem, s2 = zwr s1 46 1 ((s1 46 1) + (1 : Int32)) → (WJ G M_X9_write d (RV Φ) 3 [some (.inr (.inr 46)), some (.inl v1), some (.inl (v2 + (-8)))] [] s2))))) :
  WJ G M_X9_write d (RV Φ) 3 [some (.inr (.inr 46)), some (.inl v1), some (.inl v2)] [] σ :=
  ZP_ok ok_X9_write 27 3 _ _ _ (show ZP G M_X9_write d (RV Φ) sp_X9_write 27 3 [some (.inr (.inr 46)), some (.inl v1), some (.inl v2)] [] σ from h)
def sp_X9_next : List (Nat × List Bool) := []
set_option maxRecDepth 100000 in
theorem en_X9_next {G : zGT} {d : Nat} {Φ : Int32 → zMem → Prop} {σ : zMem}
  (h : if (σ 46 1) ≤ (σ 46 2) then (Φ (-1 : Int32) σ) else (vp_in (σ 46 2) 96 ∧ (Φ ((σ 47 (σ 46 2).toNatClampNeg) &&& (255 : Int32)) σ))) :
  CTI G d Y_X9_next [.inr (.inr 46)] σ Φ :=
  CT_of (M := M_X9_next) rfl (Nat.le_of_ble_eq_true rfl) (Or.inr (Or.inl rfl)) (ZP_ok ok_X9_next 18 0 _ _ _ (show ZP G M_X9_next d (RI Φ) sp_X9_next 18 0 [some (.inr (.inr 46))] [] σ from h))
def sp_X9_nextWord : List (Nat × List Bool) := [(2, [true, true])]
set_option maxRecDepth 100000 in
theorem en_X9_nextWord {G : zGT} {d : Nat} {Φ : Int32 → zMem → Prop} {σ : zMem}
  (h : WJ G M_X9_nextWord (d + 1) (RI Φ) 2 [some (.inr (.inr 46)), some (.inl (0 : Int32))] [] σ) :
  CTI G (d + 1) Y_X9_nextWord [.inr (.inr 46)] σ Φ :=
  CT_of (M := M_X9_nextWord) rfl (Nat.le_of_ble_eq_true rfl) (Or.inr (Or.inl rfl)) (ZP_ok ok_X9_nextWord 6 0 _ _ _ (show ZP G M_X9_nextWord (d + 1) (RI Φ) sp_X9_nextWord 6 0 [some (.inr (.inr 46)), none] [] σ from h))
set_option maxRecDepth 100000 in
theorem rg_X9_nextWord_2 {G : zGT} {d : Nat} {Φ : Int32 → zMem → Prop} {σ : zMem} {v1 : Int32}
  (h : if (96 : Int32) ≤ v1 then (CTI G d Y_X9_next [.inr (.inr 46)] σ (fun (r2 : Int32) (s1 : zMem) => Φ r2 s1)) else (CTI G d Y_X9_next [.inr (.inr 46)] σ (fun (r4 : Int32) (s3 : zMem) => if r4 = (32 : Int32) then (∀ s5 : zMem, s5 = zwr s3 46 2 ((s3 46 2) + (1 : Int32)) → (WJ G M_X9_nextWord (d + 1) (RI Φ) 2 [some (.inr (.inr 46)), some (.inl (v1 + 1))] [] s5)) else (CTI G d Y_X9_next [.inr (.inr 46)] s3 (fun (r7 : Int32) (s6 : zMem) => Φ r7 s6))))) :
  WJ G M_X9_nextWord (d + 1) (RI Φ) 2 [some (.inr (.inr 46)), some (.inl v1)] [] σ :=
  ZP_ok ok_X9_nextWord 19 2 _ _ _ (show ZP G M_X9_nextWord (d + 1) (RI Φ) sp_X9_nextWord 19 2 [some (.inr (.inr 46)), some (.inl v1)] [] σ from h)
def sp_X9_isBehindLetterOrDigit : List (Nat × List Bool) := []
set_option maxRecDepth 100000 in
theorem en_X9_isBehindLetterOrDigit {G : zGT} {d : Nat} {Φ : Int32 → zMem → Prop} {σ : zMem}
  (h : if (σ 46 2) ≤ 0 then (Φ (0 : Int32) σ) else (if (σ 46 1) < (σ 46 2) then (Φ (0 : Int32) σ) else (vp_in ((σ 46 2) - (1 : Int32)) 96 ∧ (CTI G d Y_X9_isLetterOrDigit [.inl ((σ 47 ((σ 46 2) - (1 : Int32)).toNatClampNeg) &&& (255 : Int32))] σ (fun (r2 : Int32) (s1 : zMem) => if r2 = 0 then (Φ (0 : Int32) s1) else (Φ (1 : Int32) s1)))))) :
  CTI G (d + 1) Y_X9_isBehindLetterOrDigit [.inr (.inr 46)] σ Φ :=
  CT_of (M := M_X9_isBehindLetterOrDigit) rfl (Nat.le_of_ble_eq_true rfl) (Or.inr (Or.inr (Or.inl rfl))) (ZP_ok ok_X9_isBehindLetterOrDigit 26 0 _ _ _ (show ZP G M_X9_isBehindLetterOrDigit (d + 1) (RI Φ) sp_X9_isBehindLetterOrDigit 26 0 [some (.inr (.inr 46))] [] σ from h))
def sp_X9_isDigit : List (Nat × List Bool) := []
set_option maxRecDepth 100000 in
theorem en_X9_isDigit {G : zGT} {d : Nat} {Φ : Int32 → zMem → Prop} {σ : zMem} {v0 : Int32}
  (h : if v0 < (48 : Int32) then (Φ (0 : Int32) σ) else (if (57 : Int32) < v0 then (Φ (0 : Int32) σ) else (Φ (1 : Int32) σ))) :
  CTI G d Y_X9_isDigit [.inl v0] σ Φ :=
  CT_of (M := M_X9_isDigit) rfl (Nat.le_of_ble_eq_true rfl) (Or.inr (Or.inr (Or.inl rfl))) (ZP_ok ok_X9_isDigit 13 0 _ _ _ (show ZP G M_X9_isDigit d (RI Φ) sp_X9_isDigit 13 0 [some (.inl v0)] [] σ from h))
def sp_X9_isLetterOrDigit : List (Nat × List Bool) := []
set_option maxRecDepth 100000 in
theorem en_X9_isLetterOrDigit {G : zGT} {d : Nat} {Φ : Int32 → zMem → Prop} {σ : zMem} {v0 : Int32}
  (h : CTI G d Y_X9_isDigit [.inl v0] σ (fun (r2 : Int32) (s1 : zMem) => if r2 = 0 then (if v0 < (97 : Int32) then (if v0 < (65 : Int32) then (Φ (0 : Int32) s1) else (if (90 : Int32) < v0 then (Φ (0 : Int32) s1) else (Φ (1 : Int32) s1))) else (if v0 ≤ (122 : Int32) then (Φ (1 : Int32) s1) else (if v0 < (65 : Int32) then (Φ (0 : Int32) s1) else (if (90 : Int32) < v0 then (Φ (0 : Int32) s1) else (Φ (1 : Int32) s1))))) else (Φ (1 : Int32) s1))) :
  CTI G (d + 1) Y_X9_isLetterOrDigit [.inl v0] σ Φ :=
  CT_of (M := M_X9_isLetterOrDigit) rfl (Nat.le_of_ble_eq_true rfl) (Or.inr (Or.inr (Or.inl rfl))) (ZP_ok ok_X9_isLetterOrDigit 22 0 _ _ _ (show ZP G M_X9_isLetterOrDigit (d + 1) (RI Φ) sp_X9_isLetterOrDigit 22 0 [some (.inl v0)] [] σ from h))
def sp_X10_windUp : List (Nat × List Bool) := [(14, [true, true, false, true, true, false, false]), (40, [true, true, false, false, true, true, true])]
set_option maxRecDepth 100000 in
theorem en_X10_windUp_i20 {G : zGT} {d : Nat} {Φ : zMem → Prop} {σ : zMem} {v1 v2 : Int32}
  (h : CTV G d Y_X10_begin [.inr (.inr 20), .inl v2] σ (fun (s1 : zMem) => CTV G d Y_X10_payCharged [.inr (.inr 20)] s1 (fun (s2 : zMem) => WJ G M_X10_windUp (d + 1) (RV Φ) 14 [some (.inr (.inr 20)), some (.inl v1), none, some (.inl (1 : Int32)), some (.inl (1 : Int32)), none, none] [] s2))) :
  CTV G (d + 1) Y_X10_windUp [.inr (.inr 20), .inl v1, .inl v2] σ Φ :=
  CT_of (M := M_X10_windUp) rfl (Nat.le_of_ble_eq_true rfl) (Or.inl rfl) (ZP_ok ok_X10_windUp 13 0 _ _ _ (show ZP G M_X10_windUp (d + 1) (RV Φ) sp_X10_windUp 13 0 [some (.inr (.inr 20)), some (.inl v1), some (.inl v2), none, none, none, none] [] σ from h))
set_option maxRecDepth 100000 in
theorem rg_X10_windUp_i20_14 {G : zGT} {d : Nat} {Φ : zMem → Prop} {σ : zMem} {v1 v3 v4 : Int32}
  (h : if (60 : Int32) < v4 then (∀ s1 : zMem, s1 = zwr σ 20 11 (1 : Int32) → (Φ s1)) else (if v3 = 0 then (∀ s2 : zMem, s2 = zwr σ 20 11 (1 : Int32) → (Φ s2)) else (∀ s3 : zMem, s3 = zwr σ 20 9 v4 → (WJ G M_X10_windUp (d + 1) (RV Φ) 40 [some (.inr (.inr 20)), some (.inl v1), none, none, some (.inl v4), some (.inl (σ 20 10)), some (.inl (0 : Int32))] [] s3)))) :
  WJ G M_X10_windUp (d + 1) (RV Φ) 14 [some (.inr (.inr 20)), some (.inl v1), none, some (.inl v3), some (.inl v4), none, none] [] σ :=
  ZP_ok ok_X10_windUp 17 14 _ _ _ (show ZP G M_X10_windUp (d + 1) (RV Φ) sp_X10_windUp 17 14 [some (.inr (.inr 20)), some (.inl v1), none, some (.inl v3), some (.inl v4), none, none] [] σ from h)
set_option maxRecDepth 100000 in
theorem rg_X10_windUp_i20_40 {G : zGT} {d : Nat} {Φ : zMem → Prop} {σ : zMem} {v1 v4 v5 v6 : Int32}
  (h : if v1 ≤ v6 then (if (σ 20 10) ≤ v5 then (WJ G M_X10_windUp (d + 1) (RV Φ) 14 [some (.inr (.inr 20)), some (.inl v1), none, some (.inl (0 : Int32)), some (.inl (v4 + 1)), none, none] [] σ) else (WJ G M_X10_windUp (d + 1) (RV Φ) 14 [some (.inr (.inr 20)), some (.inl v1), none, some (.inl (1 : Int32)), some (.inl (v4 + 1)), none, none] [] σ)) else (if (6 : Int32) ≤ v6 then (if (σ 20 10) ≤ v5 then (WJ G M_X10_windUp (d + 1) (RV Φ) 14 [some (.inr (.inr 20)), some (.inl v1), none, some (.inl (0 : Int32)), some (.inl (v4 + 1)), none, none] [] σ) else (WJ G M_X10_windUp (d + 1) (RV Φ) 14 [some (.inr (.inr 20)), some (.inl v1), none, some (.inl (1 : Int32)), some (.inl (v4 + 1)), none, none] [] σ)) else (CTV G d Y_X10_payOut [.inr (.inr 20), .inl v6] σ (fun (s1 : zMem) => WJ G M_X10_windUp (d + 1) (RV Φ) 40 [some (.inr (.inr 20)), some (.inl v1), none, none, some (.inl v4), some (.inl v5), some (.inl (v6 + 1))] [] s1)))) :
  WJ G M_X10_windUp (d + 1) (RV Φ) 40 [some (.inr (.inr 20)), some (.inl v1), none, none, some (.inl v4), some (.inl v5), some (.inl v6)] [] σ :=
  ZP_ok ok_X10_windUp 19 40 _ _ _ (show ZP G M_X10_windUp (d + 1) (RV Φ) sp_X10_windUp 19 40 [some (.inr (.inr 20)), some (.inl v1), none, none, some (.inl v4), some (.inl v5), some (.inl v6)] [] σ from h)
set_option maxRecDepth 100000 in
theorem en_X10_windUp_i27 {G : zGT} {d : Nat} {Φ : zMem → Prop} {σ : zMem} {v1 v2 : Int32}
  (h : CTV G d Y_X10_begin [.inr (.inr 27), .inl v2] σ (fun (s1 : zMem) => CTV G d Y_X10_payCharged [.inr (.inr 27)] s1 (fun (s2 : zMem) => WJ G M_X10_windUp (d + 1) (RV Φ) 14 [some (.inr (.inr 27)), some (.inl v1), none, some (.inl (1 : Int32)), some (.inl (1 : Int32)), none, none] [] s2))) :
  CTV G (d + 1) Y_X10_windUp [.inr (.inr 27), .inl v1, .inl v2] σ Φ :=
  CT_of (M := M_X10_windUp) rfl (Nat.le_of_ble_eq_true rfl) (Or.inl rfl) (ZP_ok ok_X10_windUp 13 0 _ _ _ (show ZP G M_X10_windUp (d + 1) (RV Φ) sp_X10_windUp 13 0 [some (.inr (.inr 27)), some (.inl v1), some (.inl v2), none, none, none, none] [] σ from h))
set_option maxRecDepth 100000 in
theorem rg_X10_windUp_i27_14 {G : zGT} {d : Nat} {Φ : zMem → Prop} {σ : zMem} {v1 v3 v4 : Int32}
  (h : if (60 : Int32) < v4 then (∀ s1 : zMem, s1 = zwr σ 27 11 (1 : Int32) → (Φ s1)) else (if v3 = 0 then (∀ s2 : zMem, s2 = zwr σ 27 11 (1 : Int32) → (Φ s2)) else (∀ s3 : zMem, s3 = zwr σ 27 9 v4 → (WJ G M_X10_windUp (d + 1) (RV Φ) 40 [some (.inr (.inr 27)), some (.inl v1), none, none, some (.inl v4), some (.inl (σ 27 10)), some (.inl (0 : Int32))] [] s3)))) :
  WJ G M_X10_windUp (d + 1) (RV Φ) 14 [some (.inr (.inr 27)), some (.inl v1), none, some (.inl v3), some (.inl v4), none, none] [] σ :=
  ZP_ok ok_X10_windUp 17 14 _ _ _ (show ZP G M_X10_windUp (d + 1) (RV Φ) sp_X10_windUp 17 14 [some (.inr (.inr 27)), some (.inl v1), none, some (.inl v3), some (.inl v4), none, none] [] σ from h)
set_option maxRecDepth 100000 in
theorem rg_X10_windUp_i27_40 {G : zGT} {d : Nat} {Φ : zMem → Prop} {σ : zMem} {v1 v4 v5 v6 : Int32}
  (h : if v1 ≤ v6 then (if (σ 27 10) ≤ v5 then (WJ G M_X10_windUp (d + 1) (RV Φ) 14 [some (.inr (.inr 27)), some (.inl v1), none, some (.inl (0 : Int32)), some (.inl (v4 + 1)), none, none] [] σ) else (WJ G M_X10_windUp (d + 1) (RV Φ) 14 [some (.inr (.inr 27)), some (.inl v1), none, some (.inl (1 : Int32)), some (.inl (v4 + 1)), none, none] [] σ)) else (if (6 : Int32) ≤ v6 then (if (σ 27 10) ≤ v5 then (WJ G M_X10_windUp (d + 1) (RV Φ) 14 [some (.inr (.inr 27)), some (.inl v1), none, some (.inl (0 : Int32)), some (.inl (v4 + 1)), none, none] [] σ) else (WJ G M_X10_windUp (d + 1) (RV Φ) 14 [some (.inr (.inr 27)), some (.inl v1), none, some (.inl (1 : Int32)), some (.inl (v4 + 1)), none, none] [] σ)) else (CTV G d Y_X10_payOut [.inr (.inr 27), .inl v6] σ (fun (s1 : zMem) => WJ G M_X10_windUp (d + 1) (RV Φ) 40 [some (.inr (.inr 27)), some (.inl v1), none, none, some (.inl v4), some (.inl v5), some (.inl (v6 + 1))] [] s1)))) :
  WJ G M_X10_windUp (d + 1) (RV Φ) 40 [some (.inr (.inr 27)), some (.inl v1), none, none, some (.inl v4), some (.inl v5), some (.inl v6)] [] σ :=
  ZP_ok ok_X10_windUp 19 40 _ _ _ (show ZP G M_X10_windUp (d + 1) (RV Φ) sp_X10_windUp 19 40 [some (.inr (.inr 27)), some (.inl v1), none, none, some (.inl v4), some (.inl v5), some (.inl v6)] [] σ from h)
def sp_X10_begin : List (Nat × List Bool) := [(12, [true, true, true, false]), (33, [true, true, true, false])]
set_option maxRecDepth 100000 in
theorem en_X10_begin_i20 {G : zGT} {d : Nat} {Φ : zMem → Prop} {σ : zMem} {v1 : Int32}
  (h : ∀ s1 : zMem, s1 = zwr σ 20 9 (0 : Int32) → (∀ s2 : zMem, s2 = zwr s1 20 10 (0 : Int32) → (WJ G M_X10_begin (d + 1) (RV Φ) 12 [some (.inr (.inr 20)), some (.inl v1), some (.inl (0 : Int32)), none] [] s2))) :
  CTV G (d + 1) Y_X10_begin [.inr (.inr 20), .inl v1] σ Φ :=
  CT_of (M := M_X10_begin) rfl (Nat.le_of_ble_eq_true rfl) (Or.inl rfl) (ZP_ok ok_X10_begin 12 0 _ _ _ (show ZP G M_X10_begin (d + 1) (RV Φ) sp_X10_begin 12 0 [some (.inr (.inr 20)), some (.inl v1), none, none] [] σ from h))
set_option maxRecDepth 100000 in
theorem rg_X10_begin_i20_12 {G : zGT} {d : Nat} {Φ : zMem → Prop} {σ : zMem} {v1 v2 : Int32}
  (h : if (6 : Int32) ≤ v2 then (WJ G M_X10_begin (d + 1) (RV Φ) 33 [some (.inr (.inr 20)), some (.inl v1), some (.inl (0 : Int32)), none] [] σ) else (vp_in v2 6 ∧ ∀ s1 : zMem, s1 = zwr σ 25 v2.toNatClampNeg (0 : Int32) → (WJ G M_X10_begin (d + 1) (RV Φ) 12 [some (.inr (.inr 20)), some (.inl v1), some (.inl (v2 + 1)), none] [] s1))) :
  WJ G M_X10_begin (d + 1) (RV Φ) 12 [some (.inr (.inr 20)), some (.inl v1), some (.inl v2), none] [] σ :=
  ZP_ok ok_X10_begin 14 12 _ _ _ (show ZP G M_X10_begin (d + 1) (RV Φ) sp_X10_begin 14 12 [some (.inr (.inr 20)), some (.inl v1), some (.inl v2), none] [] σ from h)
set_option maxRecDepth 100000 in
theorem rg_X10_begin_i20_33 {G : zGT} {d : Nat} {Φ : zMem → Prop} {σ : zMem} {v1 v2 : Int32}
  (h : if (σ 1 6) ≤ v2 then (Φ σ) else (CTI G d Y_X1_holderOn [.inr (.inr 1), .inl v2, .inl v1] σ (fun (r2 : Int32) (s1 : zMem) => CTI G d Y_X1_amountOn [.inr (.inr 1), .inl v2, .inl v1] s1 (fun (r4 : Int32) (s3 : zMem) => vp_in v2 24 ∧ ∀ s5 : zMem, s5 = zwr s3 21 v2.toNatClampNeg r4 → (vp_in v2 24 ∧ ∀ s6 : zMem, s6 = zwr s5 22 v2.toNatClampNeg (0 : Int32) → (vp_in v2 24 ∧ (CTI G d Y_X10_rankOfKind [.inl (s6 2 v2.toNatClampNeg)] s6 (fun (r8 : Int32) (s7 : zMem) => vp_in v2 24 ∧ ∀ s9 : zMem, s9 = zwr s7 23 v2.toNatClampNeg r8 → (if (10 : Int32) ≤ r2 then (vp_in v2 24 ∧ ∀ s10 : zMem, s10 = zwr s9 24 v2.toNatClampNeg (r2 - (10 : Int32)) → (WJ G M_X10_begin (d + 1) (RV Φ) 33 [some (.inr (.inr 20)), some (.inl v1), some (.inl (v2 + 1)), none] [] s10)) else (vp_in v2 24 ∧ ∀ s11 : zMem, s11 = zwr s9 24 v2.toNatClampNeg (-1000000005 : Int32) → (WJ G M_X10_begin (d + 1) (RV Φ) 33 [some (.inr (.inr 20)), some (.inl v1), some (.inl (v2 + 1)), none] [] s11))))))))))) :
  WJ G M_X10_begin (d + 1) (RV Φ) 33 [some (.inr (.inr 20)), some (.inl v1), some (.inl v2), none] [] σ :=
  ZP_ok ok_X10_begin 51 33 _ _ _ (show ZP G M_X10_begin (d + 1) (RV Φ) sp_X10_begin 51 33 [some (.inr (.inr 20)), some (.inl v1), some (.inl v2), none] [] σ from h)
set_option maxRecDepth 100000 in
theorem en_X10_begin_i27 {G : zGT} {d : Nat} {Φ : zMem → Prop} {σ : zMem} {v1 : Int32}
  (h : ∀ s1 : zMem, s1 = zwr σ 27 9 (0 : Int32) → (∀ s2 : zMem, s2 = zwr s1 27 10 (0 : Int32) → (WJ G M_X10_begin (d + 1) (RV Φ) 12 [some (.inr (.inr 27)), some (.inl v1), some (.inl (0 : Int32)), none] [] s2))) :
  CTV G (d + 1) Y_X10_begin [.inr (.inr 27), .inl v1] σ Φ :=
  CT_of (M := M_X10_begin) rfl (Nat.le_of_ble_eq_true rfl) (Or.inl rfl) (ZP_ok ok_X10_begin 12 0 _ _ _ (show ZP G M_X10_begin (d + 1) (RV Φ) sp_X10_begin 12 0 [some (.inr (.inr 27)), some (.inl v1), none, none] [] σ from h))
set_option maxRecDepth 100000 in
theorem rg_X10_begin_i27_12 {G : zGT} {d : Nat} {Φ : zMem → Prop} {σ : zMem} {v1 v2 : Int32}
  (h : if (6 : Int32) ≤ v2 then (WJ G M_X10_begin (d + 1) (RV Φ) 33 [some (.inr (.inr 27)), some (.inl v1), some (.inl (0 : Int32)), none] [] σ) else (vp_in v2 6 ∧ ∀ s1 : zMem, s1 = zwr σ 32 v2.toNatClampNeg (0 : Int32) → (WJ G M_X10_begin (d + 1) (RV Φ) 12 [some (.inr (.inr 27)), some (.inl v1), some (.inl (v2 + 1)), none] [] s1))) :
  WJ G M_X10_begin (d + 1) (RV Φ) 12 [some (.inr (.inr 27)), some (.inl v1), some (.inl v2), none] [] σ :=
  ZP_ok ok_X10_begin 14 12 _ _ _ (show ZP G M_X10_begin (d + 1) (RV Φ) sp_X10_begin 14 12 [some (.inr (.inr 27)), some (.inl v1), some (.inl v2), none] [] σ from h)
set_option maxRecDepth 100000 in
theorem rg_X10_begin_i27_33 {G : zGT} {d : Nat} {Φ : zMem → Prop} {σ : zMem} {v1 v2 : Int32}
  (h : if (σ 1 6) ≤ v2 then (Φ σ) else (CTI G d Y_X1_holderOn [.inr (.inr 1), .inl v2, .inl v1] σ (fun (r2 : Int32) (s1 : zMem) => CTI G d Y_X1_amountOn [.inr (.inr 1), .inl v2, .inl v1] s1 (fun (r4 : Int32) (s3 : zMem) => vp_in v2 24 ∧ ∀ s5 : zMem, s5 = zwr s3 28 v2.toNatClampNeg r4 → (vp_in v2 24 ∧ ∀ s6 : zMem, s6 = zwr s5 29 v2.toNatClampNeg (0 : Int32) → (vp_in v2 24 ∧ (CTI G d Y_X10_rankOfKind [.inl (s6 2 v2.toNatClampNeg)] s6 (fun (r8 : Int32) (s7 : zMem) => vp_in v2 24 ∧ ∀ s9 : zMem, s9 = zwr s7 30 v2.toNatClampNeg r8 → (if (10 : Int32) ≤ r2 then (vp_in v2 24 ∧ ∀ s10 : zMem, s10 = zwr s9 31 v2.toNatClampNeg (r2 - (10 : Int32)) → (WJ G M_X10_begin (d + 1) (RV Φ) 33 [some (.inr (.inr 27)), some (.inl v1), some (.inl (v2 + 1)), none] [] s10)) else (vp_in v2 24 ∧ ∀ s11 : zMem, s11 = zwr s9 31 v2.toNatClampNeg (-1000000005 : Int32) → (WJ G M_X10_begin (d + 1) (RV Φ) 33 [some (.inr (.inr 27)), some (.inl v1), some (.inl (v2 + 1)), none] [] s11))))))))))) :
  WJ G M_X10_begin (d + 1) (RV Φ) 33 [some (.inr (.inr 27)), some (.inl v1), some (.inl v2), none] [] σ :=
  ZP_ok ok_X10_begin 51 33 _ _ _ (show ZP G M_X10_begin (d + 1) (RV Φ) sp_X10_begin 51 33 [some (.inr (.inr 27)), some (.inl v1), some (.inl v2), none] [] σ from h)
def sp_X10_rankOfKind : List (Nat × List Bool) := []
set_option maxRecDepth 100000 in
theorem en_X10_rankOfKind {G : zGT} {d : Nat} {Φ : Int32 → zMem → Prop} {σ : zMem} {v0 : Int32}
  (h : if v0 = (2 : Int32) then (Φ (1 : Int32) σ) else if v0 = (3 : Int32) then (Φ (3 : Int32) σ) else if v0 = (4 : Int32) then (Φ (0 : Int32) σ) else (Φ (2 : Int32) σ)) :
  CTI G d Y_X10_rankOfKind [.inl v0] σ Φ :=
  CT_of (M := M_X10_rankOfKind) rfl (Nat.le_of_ble_eq_true rfl) (Or.inr (Or.inl rfl)) (ZP_ok ok_X10_rankOfKind 8 0 _ _ _ (show ZP G M_X10_rankOfKind d (RI Φ) sp_X10_rankOfKind 8 0 [some (.inl v0)] [] σ from h))
def sp_X10_payCharged : List (Nat × List Bool) := [(2, [true, true, false, false, false])]
set_option maxRecDepth 100000 in
theorem en_X10_payCharged_i20 {G : zGT} {d : Nat} {Φ : zMem → Prop} {σ : zMem}
  (h : WJ G M_X10_payCharged (d + 1) (RV Φ) 2 [some (.inr (.inr 20)), some (.inl (0 : Int32)), none, none, none] [] σ) :
  CTV G (d + 1) Y_X10_payCharged [.inr (.inr 20)] σ Φ :=
  CT_of (M := M_X10_payCharged) rfl (Nat.le_of_ble_eq_true rfl) (Or.inl rfl) (ZP_ok ok_X10_payCharged 6 0 _ _ _ (show ZP G M_X10_payCharged (d + 1) (RV Φ) sp_X10_payCharged 6 0 [some (.inr (.inr 20)), none, none, none, none] [] σ from h))
set_option maxRecDepth 100000 in
theorem rg_X10_payCharged_i20_2 {G : zGT} {d : Nat} {Φ : zMem → Prop} {σ : zMem} {v1 : Int32}
  (h : if (σ 14 5) ≤ v1 then (Φ σ) else (vp_in v1 16 ∧ (CTI G d Y_X0_proceeds [.inr (.inr 14), .inl v1, .inl (σ 20 2)] σ (fun (r2 : Int32) (s1 : zMem) => vp_in v1 16 ∧ (vp_in (σ 15 v1.toNatClampNeg) 6 ∧ (vp_in (σ 15 v1.toNatClampNeg) 6 ∧ ∀ s3 : zMem, s3 = zwr s1 25 (σ 15 v1.toNatClampNeg).toNatClampNeg ((s1 25 (σ 15 v1.toNatClampNeg).toNatClampNeg) + r2) → (CTI G d Y_X1_has [.inr (.inr 1), .inl (s1 19 v1.toNatClampNeg)] s3 (fun (r5 : Int32) (s4 : zMem) => if r5 = 0 then (WJ G M_X10_payCharged (d + 1) (RV Φ) 2 [some (.inr (.inr 20)), some (.inl (v1 + 1)), none, none, none] [] s4) else (vp_in (s1 19 v1.toNatClampNeg) 24 ∧ (CTV G d Y_X10_pay [.inr (.inr 20), .inl (σ 15 v1.toNatClampNeg), .inl (s1 19 v1.toNatClampNeg), .inl (if (s4 21 (s1 19 v1.toNatClampNeg).toNatClampNeg) < r2 then (s4 21 (s1 19 v1.toNatClampNeg).toNatClampNeg) else r2)] s4 (fun (s6 : zMem) => WJ G M_X10_payCharged (d + 1) (RV Φ) 2 [some (.inr (.inr 20)), some (.inl (v1 + 1)), none, none, none] [] s6))))))))))) :
  WJ G M_X10_payCharged (d + 1) (RV Φ) 2 [some (.inr (.inr 20)), some (.inl v1), none, none, none] [] σ :=
  ZP_ok ok_X10_payCharged 53 2 _ _ _ (show ZP G M_X10_payCharged (d + 1) (RV Φ) sp_X10_payCharged 53 2 [some (.inr (.inr 20)), some (.inl v1), none, none, none] [] σ from h)
set_option maxRecDepth 100000 in
theorem en_X10_payCharged_i27 {G : zGT} {d : Nat} {Φ : zMem → Prop} {σ : zMem}
  (h : WJ G M_X10_payCharged (d + 1) (RV Φ) 2 [some (.inr (.inr 27)), some (.inl (0 : Int32)), none, none, none] [] σ) :
  CTV G (d + 1) Y_X10_payCharged [.inr (.inr 27)] σ Φ :=
  CT_of (M := M_X10_payCharged) rfl (Nat.le_of_ble_eq_true rfl) (Or.inl rfl) (ZP_ok ok_X10_payCharged 6 0 _ _ _ (show ZP G M_X10_payCharged (d + 1) (RV Φ) sp_X10_payCharged 6 0 [some (.inr (.inr 27)), none, none, none, none] [] σ from h))
set_option maxRecDepth 100000 in
theorem rg_X10_payCharged_i27_2 {G : zGT} {d : Nat} {Φ : zMem → Prop} {σ : zMem} {v1 : Int32}
  (h : if (σ 14 5) ≤ v1 then (Φ σ) else (vp_in v1 16 ∧ (CTI G d Y_X0_proceeds [.inr (.inr 14), .inl v1, .inl (σ 27 2)] σ (fun (r2 : Int32) (s1 : zMem) => vp_in v1 16 ∧ (vp_in (σ 15 v1.toNatClampNeg) 6 ∧ (vp_in (σ 15 v1.toNatClampNeg) 6 ∧ ∀ s3 : zMem, s3 = zwr s1 32 (σ 15 v1.toNatClampNeg).toNatClampNeg ((s1 32 (σ 15 v1.toNatClampNeg).toNatClampNeg) + r2) → (CTI G d Y_X1_has [.inr (.inr 1), .inl (s1 19 v1.toNatClampNeg)] s3 (fun (r5 : Int32) (s4 : zMem) => if r5 = 0 then (WJ G M_X10_payCharged (d + 1) (RV Φ) 2 [some (.inr (.inr 27)), some (.inl (v1 + 1)), none, none, none] [] s4) else (vp_in (s1 19 v1.toNatClampNeg) 24 ∧ (CTV G d Y_X10_pay [.inr (.inr 27), .inl (σ 15 v1.toNatClampNeg), .inl (s1 19 v1.toNatClampNeg), .inl (if (s4 28 (s1 19 v1.toNatClampNeg).toNatClampNeg) < r2 then (s4 28 (s1 19 v1.toNatClampNeg).toNatClampNeg) else r2)] s4 (fun (s6 : zMem) => WJ G M_X10_payCharged (d + 1) (RV Φ) 2 [some (.inr (.inr 27)), some (.inl (v1 + 1)), none, none, none] [] s6))))))))))) :
  WJ G M_X10_payCharged (d + 1) (RV Φ) 2 [some (.inr (.inr 27)), some (.inl v1), none, none, none] [] σ :=
  ZP_ok ok_X10_payCharged 53 2 _ _ _ (show ZP G M_X10_payCharged (d + 1) (RV Φ) sp_X10_payCharged 53 2 [some (.inr (.inr 27)), some (.inl v1), none, none, none] [] σ from h)
def sp_X10_payOut : List (Nat × List Bool) := [(2, [true, true, true])]
set_option maxRecDepth 100000 in
theorem en_X10_payOut_i20 {G : zGT} {d : Nat} {Φ : zMem → Prop} {σ : zMem} {v1 : Int32}
  (h : WJ G M_X10_payOut (d + 1) (RV Φ) 2 [some (.inr (.inr 20)), some (.inl v1), some (.inl (0 : Int32))] [] σ) :
  CTV G (d + 1) Y_X10_payOut [.inr (.inr 20), .inl v1] σ Φ :=
  CT_of (M := M_X10_payOut) rfl (Nat.le_of_ble_eq_true rfl) (Or.inl rfl) (ZP_ok ok_X10_payOut 6 0 _ _ _ (show ZP G M_X10_payOut (d + 1) (RV Φ) sp_X10_payOut 6 0 [some (.inr (.inr 20)), some (.inl v1), none] [] σ from h))
set_option maxRecDepth 100000 in
theorem rg_X10_payOut_i20_2 {G : zGT} {d : Nat} {Φ : zMem → Prop} {σ : zMem} {v1 v2 : Int32}
  (h : if (4 : Int32) ≤ v2 then (Φ σ) else (vp_in v1 6 ∧ (if (σ 25 v1.toNatClampNeg) ≤ 0 then (Φ σ) else (CTI G d Y_X10_payRank [.inr (.inr 20), .inl v1, .inl v2] σ (fun (r2 : Int32) (s1 : zMem) => if r2 = 0 then (Φ s1) else (WJ G M_X10_payOut (d + 1) (RV Φ) 2 [some (.inr (.inr 20)), some (.inl v1), some (.inl (v2 + 1))] [] s1)))))) :
  WJ G M_X10_payOut (d + 1) (RV Φ) 2 [some (.inr (.inr 20)), some (.inl v1), some (.inl v2)] [] σ :=
  ZP_ok ok_X10_payOut 19 2 _ _ _ (show ZP G M_X10_payOut (d + 1) (RV Φ) sp_X10_payOut 19 2 [some (.inr (.inr 20)), some (.inl v1), some (.inl v2)] [] σ from h)
set_option maxRecDepth 100000 in
theorem en_X10_payOut_i27 {G : zGT} {d : Nat} {Φ : zMem → Prop} {σ : zMem} {v1 : Int32}
  (h : WJ G M_X10_payOut (d + 1) (RV Φ) 2 [some (.inr (.inr 27)), some (.inl v1), some (.inl (0 : Int32))] [] σ) :
  CTV G (d + 1) Y_X10_payOut [.inr (.inr 27), .inl v1] σ Φ :=
  CT_of (M := M_X10_payOut) rfl (Nat.le_of_ble_eq_true rfl) (Or.inl rfl) (ZP_ok ok_X10_payOut 6 0 _ _ _ (show ZP G M_X10_payOut (d + 1) (RV Φ) sp_X10_payOut 6 0 [some (.inr (.inr 27)), some (.inl v1), none] [] σ from h))
set_option maxRecDepth 100000 in
theorem rg_X10_payOut_i27_2 {G : zGT} {d : Nat} {Φ : zMem → Prop} {σ : zMem} {v1 v2 : Int32}
  (h : if (4 : Int32) ≤ v2 then (Φ σ) else (vp_in v1 6 ∧ (if (σ 32 v1.toNatClampNeg) ≤ 0 then (Φ σ) else (CTI G d Y_X10_payRank [.inr (.inr 27), .inl v1, .inl v2] σ (fun (r2 : Int32) (s1 : zMem) => if r2 = 0 then (Φ s1) else (WJ G M_X10_payOut (d + 1) (RV Φ) 2 [some (.inr (.inr 27)), some (.inl v1), some (.inl (v2 + 1))] [] s1)))))) :
  WJ G M_X10_payOut (d + 1) (RV Φ) 2 [some (.inr (.inr 27)), some (.inl v1), some (.inl v2)] [] σ :=
  ZP_ok ok_X10_payOut 19 2 _ _ _ (show ZP G M_X10_payOut (d + 1) (RV Φ) sp_X10_payOut 19 2 [some (.inr (.inr 27)), some (.inl v1), some (.inl v2)] [] σ from h)
def sp_X10_payRank : List (Nat × List Bool) := [(5, [true, true, true, true, true, false, false]), (65, [true, true, true, true, true, true, false])]
set_option maxRecDepth 100000 in
theorem en_X10_payRank_i20 {G : zGT} {d : Nat} {Φ : Int32 → zMem → Prop} {σ : zMem} {v1 v2 : Int32}
  (h : WJ G M_X10_payRank (d + 1) (RI Φ) 5 [some (.inr (.inr 20)), some (.inl v1), some (.inl v2), some (.inl (0 : Int32)), some (.inl (0 : Int32)), none, none] [] σ) :
  CTI G (d + 1) Y_X10_payRank [.inr (.inr 20), .inl v1, .inl v2] σ Φ :=
  CT_of (M := M_X10_payRank) rfl (Nat.le_of_ble_eq_true rfl) (Or.inr (Or.inr (Or.inl rfl))) (ZP_ok ok_X10_payRank 8 0 _ _ _ (show ZP G M_X10_payRank (d + 1) (RI Φ) sp_X10_payRank 8 0 [some (.inr (.inr 20)), some (.inl v1), some (.inl v2), none, none, none, none] [] σ from h))
set_option maxRecDepth 100000 in
theorem rg_X10_payRank_i20_5 {G : zGT} {d : Nat} {Φ : Int32 → zMem → Prop} {σ : zMem} {v1 v2 v3 v4 : Int32}
  (h : if (σ 1 6) ≤ v4 then (if v3 = 0 then (Φ (1 : Int32) σ) else (vp_in v1 6 ∧ (WJ G M_X10_payRank (d + 1) (RI Φ) 65 [some (.inr (.inr 20)), some (.inl v1), some (.inl v2), some (.inl v3), some (.inl (σ 25 v1.toNatClampNeg)), some (.inl (0 : Int32)), none] [] σ))) else (CTI G d Y_X10_isInRank [.inr (.inr 20), .inl v4, .inl v1, .inl v2] σ (fun (r2 : Int32) (s1 : zMem) => if r2 = 0 then (WJ G M_X10_payRank (d + 1) (RI Φ) 5 [some (.inr (.inr 20)), some (.inl v1), some (.inl v2), some (.inl (v3 + (0 : Int32))), some (.inl (v4 + 1)), none, none] [] s1) else (vp_in v4 24 ∧ (WJ G M_X10_payRank (d + 1) (RI Φ) 5 [some (.inr (.inr 20)), some (.inl v1), some (.inl v2), some (.inl (v3 + (s1 21 v4.toNatClampNeg))), some (.inl (v4 + 1)), none, none] [] s1))))) :
  WJ G M_X10_payRank (d + 1) (RI Φ) 5 [some (.inr (.inr 20)), some (.inl v1), some (.inl v2), some (.inl v3), some (.inl v4), none, none] [] σ :=
  ZP_ok ok_X10_payRank 25 5 _ _ _ (show ZP G M_X10_payRank (d + 1) (RI Φ) sp_X10_payRank 25 5 [some (.inr (.inr 20)), some (.inl v1), some (.inl v2), some (.inl v3), some (.inl v4), none, none] [] σ from h)
set_option maxRecDepth 100000 in
theorem rg_X10_payRank_i20_65 {G : zGT} {d : Nat} {Φ : Int32 → zMem → Prop} {σ : zMem} {v1 v2 v3 v4 v5 : Int32}
  (h : if (σ 1 6) ≤ v5 then (if v4 < v3 then (Φ (0 : Int32) σ) else (Φ (1 : Int32) σ)) else (CTI G d Y_X10_isInRank [.inr (.inr 20), .inl v5, .inl v1, .inl v2] σ (fun (r2 : Int32) (s1 : zMem) => if r2 = 0 then (WJ G M_X10_payRank (d + 1) (RI Φ) 65 [some (.inr (.inr 20)), some (.inl v1), some (.inl v2), some (.inl v3), some (.inl v4), some (.inl (v5 + 1)), none] [] s1) else (vp_in v5 24 ∧ (¬ v3.toInt64 = 0 ∧ (vp_in v5 24 ∧ (CTV G d Y_X10_pay [.inr (.inr 20), .inl v1, .inl v5, .inl (if (s1 21 v5.toNatClampNeg) < ((v4.toInt64 * (s1 21 v5.toNatClampNeg).toInt64) / v3.toInt64).toInt32 then (s1 21 v5.toNatClampNeg) else ((v4.toInt64 * (s1 21 v5.toNatClampNeg).toInt64) / v3.toInt64).toInt32)] s1 (fun (s3 : zMem) => WJ G M_X10_payRank (d + 1) (RI Φ) 65 [some (.inr (.inr 20)), some (.inl v1), some (.inl v2), some (.inl v3), some (.inl v4), some (.inl (v5 + 1)), none] [] s3)))))))) :
  WJ G M_X10_payRank (d + 1) (RI Φ) 65 [some (.inr (.inr 20)), some (.inl v1), some (.inl v2), some (.inl v3), some (.inl v4), some (.inl v5), none] [] σ :=
  ZP_ok ok_X10_payRank 40 65 _ _ _ (show ZP G M_X10_payRank (d + 1) (RI Φ) sp_X10_payRank 40 65 [some (.inr (.inr 20)), some (.inl v1), some (.inl v2), some (.inl v3), some (.inl v4), some (.inl v5), none] [] σ from h)
set_option maxRecDepth 100000 in
theorem en_X10_payRank_i27 {G : zGT} {d : Nat} {Φ : Int32 → zMem → Prop} {σ : zMem} {v1 v2 : Int32}
  (h : WJ G M_X10_payRank (d + 1) (RI Φ) 5 [some (.inr (.inr 27)), some (.inl v1), some (.inl v2), some (.inl (0 : Int32)), some (.inl (0 : Int32)), none, none] [] σ) :
  CTI G (d + 1) Y_X10_payRank [.inr (.inr 27), .inl v1, .inl v2] σ Φ :=
  CT_of (M := M_X10_payRank) rfl (Nat.le_of_ble_eq_true rfl) (Or.inr (Or.inr (Or.inl rfl))) (ZP_ok ok_X10_payRank 8 0 _ _ _ (show ZP G M_X10_payRank (d + 1) (RI Φ) sp_X10_payRank 8 0 [some (.inr (.inr 27)), some (.inl v1), some (.inl v2), none, none, none, none] [] σ from h))
set_option maxRecDepth 100000 in
theorem rg_X10_payRank_i27_5 {G : zGT} {d : Nat} {Φ : Int32 → zMem → Prop} {σ : zMem} {v1 v2 v3 v4 : Int32}
  (h : if (σ 1 6) ≤ v4 then (if v3 = 0 then (Φ (1 : Int32) σ) else (vp_in v1 6 ∧ (WJ G M_X10_payRank (d + 1) (RI Φ) 65 [some (.inr (.inr 27)), some (.inl v1), some (.inl v2), some (.inl v3), some (.inl (σ 32 v1.toNatClampNeg)), some (.inl (0 : Int32)), none] [] σ))) else (CTI G d Y_X10_isInRank [.inr (.inr 27), .inl v4, .inl v1, .inl v2] σ (fun (r2 : Int32) (s1 : zMem) => if r2 = 0 then (WJ G M_X10_payRank (d + 1) (RI Φ) 5 [some (.inr (.inr 27)), some (.inl v1), some (.inl v2), some (.inl (v3 + (0 : Int32))), some (.inl (v4 + 1)), none, none] [] s1) else (vp_in v4 24 ∧ (WJ G M_X10_payRank (d + 1) (RI Φ) 5 [some (.inr (.inr 27)), some (.inl v1), some (.inl v2), some (.inl (v3 + (s1 28 v4.toNatClampNeg))), some (.inl (v4 + 1)), none, none] [] s1))))) :
  WJ G M_X10_payRank (d + 1) (RI Φ) 5 [some (.inr (.inr 27)), some (.inl v1), some (.inl v2), some (.inl v3), some (.inl v4), none, none] [] σ :=
  ZP_ok ok_X10_payRank 25 5 _ _ _ (show ZP G M_X10_payRank (d + 1) (RI Φ) sp_X10_payRank 25 5 [some (.inr (.inr 27)), some (.inl v1), some (.inl v2), some (.inl v3), some (.inl v4), none, none] [] σ from h)
set_option maxRecDepth 100000 in
theorem rg_X10_payRank_i27_65 {G : zGT} {d : Nat} {Φ : Int32 → zMem → Prop} {σ : zMem} {v1 v2 v3 v4 v5 : Int32}
  (h : if (σ 1 6) ≤ v5 then (if v4 < v3 then (Φ (0 : Int32) σ) else (Φ (1 : Int32) σ)) else (CTI G d Y_X10_isInRank [.inr (.inr 27), .inl v5, .inl v1, .inl v2] σ (fun (r2 : Int32) (s1 : zMem) => if r2 = 0 then (WJ G M_X10_payRank (d + 1) (RI Φ) 65 [some (.inr (.inr 27)), some (.inl v1), some (.inl v2), some (.inl v3), some (.inl v4), some (.inl (v5 + 1)), none] [] s1) else (vp_in v5 24 ∧ (¬ v3.toInt64 = 0 ∧ (vp_in v5 24 ∧ (CTV G d Y_X10_pay [.inr (.inr 27), .inl v1, .inl v5, .inl (if (s1 28 v5.toNatClampNeg) < ((v4.toInt64 * (s1 28 v5.toNatClampNeg).toInt64) / v3.toInt64).toInt32 then (s1 28 v5.toNatClampNeg) else ((v4.toInt64 * (s1 28 v5.toNatClampNeg).toInt64) / v3.toInt64).toInt32)] s1 (fun (s3 : zMem) => WJ G M_X10_payRank (d + 1) (RI Φ) 65 [some (.inr (.inr 27)), some (.inl v1), some (.inl v2), some (.inl v3), some (.inl v4), some (.inl (v5 + 1)), none] [] s3)))))))) :
  WJ G M_X10_payRank (d + 1) (RI Φ) 65 [some (.inr (.inr 27)), some (.inl v1), some (.inl v2), some (.inl v3), some (.inl v4), some (.inl v5), none] [] σ :=
  ZP_ok ok_X10_payRank 40 65 _ _ _ (show ZP G M_X10_payRank (d + 1) (RI Φ) sp_X10_payRank 40 65 [some (.inr (.inr 27)), some (.inl v1), some (.inl v2), some (.inl v3), some (.inl v4), some (.inl v5), none] [] σ from h)
def sp_X10_isInRank : List (Nat × List Bool) := []
set_option maxRecDepth 100000 in
theorem en_X10_isInRank_i20 {G : zGT} {d : Nat} {Φ : Int32 → zMem → Prop} {σ : zMem} {v1 v2 v3 : Int32}
  (h : vp_in v1 24 ∧ (if (σ 3 v1.toNatClampNeg) = v2 then (vp_in v1 24 ∧ (if (σ 23 v1.toNatClampNeg) = v3 then (Φ (1 : Int32) σ) else (Φ (0 : Int32) σ))) else (if v3 = (2 : Int32) then (vp_in v1 24 ∧ (if (((σ 4 v1.toNatClampNeg) >>> (v2 &&& 31)) &&& (1 : Int32)) = (1 : Int32) then (Φ (1 : Int32) σ) else (Φ (0 : Int32) σ))) else (Φ (0 : Int32) σ)))) :
  CTI G d Y_X10_isInRank [.inr (.inr 20), .inl v1, .inl v2, .inl v3] σ Φ :=
  CT_of (M := M_X10_isInRank) rfl (Nat.le_of_ble_eq_true rfl) (Or.inr (Or.inr (Or.inl rfl))) (ZP_ok ok_X10_isInRank 28 0 _ _ _ (show ZP G M_X10_isInRank d (RI Φ) sp_X10_isInRank 28 0 [some (.inr (.inr 20)), some (.inl v1), some (.inl v2), some (.inl v3)] [] σ from h))
set_option maxRecDepth 100000 in
theorem en_X10_isInRank_i27 {G : zGT} {d : Nat} {Φ : Int32 → zMem → Prop} {σ : zMem} {v1 v2 v3 : Int32}
  (h : vp_in v1 24 ∧ (if (σ 3 v1.toNatClampNeg) = v2 then (vp_in v1 24 ∧ (if (σ 30 v1.toNatClampNeg) = v3 then (Φ (1 : Int32) σ) else (Φ (0 : Int32) σ))) else (if v3 = (2 : Int32) then (vp_in v1 24 ∧ (if (((σ 4 v1.toNatClampNeg) >>> (v2 &&& 31)) &&& (1 : Int32)) = (1 : Int32) then (Φ (1 : Int32) σ) else (Φ (0 : Int32) σ))) else (Φ (0 : Int32) σ)))) :
  CTI G d Y_X10_isInRank [.inr (.inr 27), .inl v1, .inl v2, .inl v3] σ Φ :=
  CT_of (M := M_X10_isInRank) rfl (Nat.le_of_ble_eq_true rfl) (Or.inr (Or.inr (Or.inl rfl))) (ZP_ok ok_X10_isInRank 28 0 _ _ _ (show ZP G M_X10_isInRank d (RI Φ) sp_X10_isInRank 28 0 [some (.inr (.inr 27)), some (.inl v1), some (.inl v2), some (.inl v3)] [] σ from h))
def sp_X10_pay : List (Nat × List Bool) := []
set_option maxRecDepth 100000 in
theorem en_X10_pay_i20 {G : zGT} {d : Nat} {Φ : zMem → Prop} {σ : zMem} {v1 v2 v3 : Int32}
  (h : if 0 < v3 then (vp_in v2 24 ∧ (vp_in v1 6 ∧ (vp_in v1 6 ∧ ∀ s1 : zMem, s1 = zwr σ 25 v1.toNatClampNeg ((σ 25 v1.toNatClampNeg) - v3) → (vp_in v2 24 ∧ (vp_in v2 24 ∧ ∀ s2 : zMem, s2 = zwr s1 21 v2.toNatClampNeg ((s1 21 v2.toNatClampNeg) - v3) → (vp_in v2 24 ∧ (vp_in v2 24 ∧ ∀ s3 : zMem, s3 = zwr s2 22 v2.toNatClampNeg ((s2 22 v2.toNatClampNeg) + v3) → (if (σ 24 v2.toNatClampNeg) < 0 then (if (600 : Int32) ≤ (s3 20 10) then (∀ s4 : zMem, s4 = zwr s3 20 10 ((s3 20 10) + (1 : Int32)) → (Φ s4)) else (vp_in ((s3 20 10) * (4 : Int32)) 2400 ∧ ∀ s5 : zMem, s5 = zwr s3 26 ((s3 20 10) * (4 : Int32)).toNatClampNeg (s3 20 9) → (vp_in (((s3 20 10) * (4 : Int32)) + (1 : Int32)) 2400 ∧ ∀ s6 : zMem, s6 = zwr s5 26 (((s3 20 10) * (4 : Int32)) + (1 : Int32)).toNatClampNeg v1 → (vp_in (((s3 20 10) * (4 : Int32)) + (2 : Int32)) 2400 ∧ ∀ s7 : zMem, s7 = zwr s6 26 (((s3 20 10) * (4 : Int32)) + (2 : Int32)).toNatClampNeg v2 → (vp_in (((s3 20 10) * (4 : Int32)) + (3 : Int32)) 2400 ∧ ∀ s8 : zMem, s8 = zwr s7 26 (((s3 20 10) * (4 : Int32)) + (3 : Int32)).toNatClampNeg v3 → (∀ s9 : zMem, s9 = zwr s8 20 10 ((s8 20 10) + (1 : Int32)) → (Φ s9))))))) else (if (6 : Int32) ≤ (σ 24 v2.toNatClampNeg) then (if (600 : Int32) ≤ (s3 20 10) then (∀ s10 : zMem, s10 = zwr s3 20 10 ((s3 20 10) + (1 : Int32)) → (Φ s10)) else (vp_in ((s3 20 10) * (4 : Int32)) 2400 ∧ ∀ s11 : zMem, s11 = zwr s3 26 ((s3 20 10) * (4 : Int32)).toNatClampNeg (s3 20 9) → (vp_in (((s3 20 10) * (4 : Int32)) + (1 : Int32)) 2400 ∧ ∀ s12 : zMem, s12 = zwr s11 26 (((s3 20 10) * (4 : Int32)) + (1 : Int32)).toNatClampNeg v1 → (vp_in (((s3 20 10) * (4 : Int32)) + (2 : Int32)) 2400 ∧ ∀ s13 : zMem, s13 = zwr s12 26 (((s3 20 10) * (4 : Int32)) + (2 : Int32)).toNatClampNeg v2 → (vp_in (((s3 20 10) * (4 : Int32)) + (3 : Int32)) 2400 ∧ ∀ s14 : zMem, s14 = zwr s13 26 (((s3 20 10) * (4 : Int32)) + (3 : Int32)).toNatClampNeg v3 → (∀ s15 : zMem, s15 = zwr s14 20 10 ((s14 20 10) + (1 : Int32)) → (Φ s15))))))) else (vp_in (σ 24 v2.toNatClampNeg) 6 ∧ (vp_in (σ 24 v2.toNatClampNeg) 6 ∧ ∀ s16 : zMem, s16 = zwr s3 25 (σ 24 v2.toNatClampNeg).toNatClampNeg ((s3 25 (σ 24 v2.toNatClampNeg).toNatClampNeg) + v3) → (if (600 : Int32) ≤ (s16 20 10) then (∀ s17 : zMem, s17 = zwr s16 20 10 ((s16 20 10) + (1 : Int32)) → (Φ s17)) else (vp_in ((s16 20 10) * (4 : Int32)) 2400 ∧ ∀ s18 : zMem, s18 = zwr s16 26 ((s16 20 10) * (4 : Int32)).toNatClampNeg (s16 20 9) → (vp_in (((s16 20 10) * (4 : Int32)) + (1 : Int32)) 2400 ∧ ∀ s19 : zMem, s19 = zwr s18 26 (((s16 20 10) * (4 : Int32)) + (1 : Int32)).toNatClampNeg v1 → (vp_in (((s16 20 10) * (4 : Int32)) + (2 : Int32)) 2400 ∧ ∀ s20 : zMem, s20 = zwr s19 26 (((s16 20 10) * (4 : Int32)) + (2 : Int32)).toNatClampNeg v2 → (vp_in (((s16 20 10) * (4 : Int32)) + (3 : Int32)) 2400 ∧ ∀ s21 : zMem, s21 = zwr s20 26 (((s16 20 10) * (4 : Int32)) + (3 : Int32)).toNatClampNeg v3 → (∀ s22 : zMem, s22 = zwr s21 20 10 ((s21 20 10) + (1 : Int32)) → (Φ s22)))))))))))))))))) else (Φ σ)) :
  CTV G d Y_X10_pay [.inr (.inr 20), .inl v1, .inl v2, .inl v3] σ Φ :=
  CT_of (M := M_X10_pay) rfl (Nat.le_of_ble_eq_true rfl) (Or.inl rfl) (ZP_ok ok_X10_pay 91 0 _ _ _ (show ZP G M_X10_pay d (RV Φ) sp_X10_pay 91 0 [some (.inr (.inr 20)), some (.inl v1), some (.inl v2), some (.inl v3), none, none] [] σ from h))
set_option maxRecDepth 100000 in
theorem en_X10_pay_i27 {G : zGT} {d : Nat} {Φ : zMem → Prop} {σ : zMem} {v1 v2 v3 : Int32}
  (h : if 0 < v3 then (vp_in v2 24 ∧ (vp_in v1 6 ∧ (vp_in v1 6 ∧ ∀ s1 : zMem, s1 = zwr σ 32 v1.toNatClampNeg ((σ 32 v1.toNatClampNeg) - v3) → (vp_in v2 24 ∧ (vp_in v2 24 ∧ ∀ s2 : zMem, s2 = zwr s1 28 v2.toNatClampNeg ((s1 28 v2.toNatClampNeg) - v3) → (vp_in v2 24 ∧ (vp_in v2 24 ∧ ∀ s3 : zMem, s3 = zwr s2 29 v2.toNatClampNeg ((s2 29 v2.toNatClampNeg) + v3) → (if (σ 31 v2.toNatClampNeg) < 0 then (if (600 : Int32) ≤ (s3 27 10) then (∀ s4 : zMem, s4 = zwr s3 27 10 ((s3 27 10) + (1 : Int32)) → (Φ s4)) else (vp_in ((s3 27 10) * (4 : Int32)) 2400 ∧ ∀ s5 : zMem, s5 = zwr s3 33 ((s3 27 10) * (4 : Int32)).toNatClampNeg (s3 27 9) → (vp_in (((s3 27 10) * (4 : Int32)) + (1 : Int32)) 2400 ∧ ∀ s6 : zMem, s6 = zwr s5 33 (((s3 27 10) * (4 : Int32)) + (1 : Int32)).toNatClampNeg v1 → (vp_in (((s3 27 10) * (4 : Int32)) + (2 : Int32)) 2400 ∧ ∀ s7 : zMem, s7 = zwr s6 33 (((s3 27 10) * (4 : Int32)) + (2 : Int32)).toNatClampNeg v2 → (vp_in (((s3 27 10) * (4 : Int32)) + (3 : Int32)) 2400 ∧ ∀ s8 : zMem, s8 = zwr s7 33 (((s3 27 10) * (4 : Int32)) + (3 : Int32)).toNatClampNeg v3 → (∀ s9 : zMem, s9 = zwr s8 27 10 ((s8 27 10) + (1 : Int32)) → (Φ s9))))))) else (if (6 : Int32) ≤ (σ 31 v2.toNatClampNeg) then (if (600 : Int32) ≤ (s3 27 10) then (∀ s10 : zMem, s10 = zwr s3 27 10 ((s3 27 10) + (1 : Int32)) → (Φ s10)) else (vp_in ((s3 27 10) * (4 : Int32)) 2400 ∧ ∀ s11 : zMem, s11 = zwr s3 33 ((s3 27 10) * (4 : Int32)).toNatClampNeg (s3 27 9) → (vp_in (((s3 27 10) * (4 : Int32)) + (1 : Int32)) 2400 ∧ ∀ s12 : zMem, s12 = zwr s11 33 (((s3 27 10) * (4 : Int32)) + (1 : Int32)).toNatClampNeg v1 → (vp_in (((s3 27 10) * (4 : Int32)) + (2 : Int32)) 2400 ∧ ∀ s13 : zMem, s13 = zwr s12 33 (((s3 27 10) * (4 : Int32)) + (2 : Int32)).toNatClampNeg v2 → (vp_in (((s3 27 10) * (4 : Int32)) + (3 : Int32)) 2400 ∧ ∀ s14 : zMem, s14 = zwr s13 33 (((s3 27 10) * (4 : Int32)) + (3 : Int32)).toNatClampNeg v3 → (∀ s15 : zMem, s15 = zwr s14 27 10 ((s14 27 10) + (1 : Int32)) → (Φ s15))))))) else (vp_in (σ 31 v2.toNatClampNeg) 6 ∧ (vp_in (σ 31 v2.toNatClampNeg) 6 ∧ ∀ s16 : zMem, s16 = zwr s3 32 (σ 31 v2.toNatClampNeg).toNatClampNeg ((s3 32 (σ 31 v2.toNatClampNeg).toNatClampNeg) + v3) → (if (600 : Int32) ≤ (s16 27 10) then (∀ s17 : zMem, s17 = zwr s16 27 10 ((s16 27 10) + (1 : Int32)) → (Φ s17)) else (vp_in ((s16 27 10) * (4 : Int32)) 2400 ∧ ∀ s18 : zMem, s18 = zwr s16 33 ((s16 27 10) * (4 : Int32)).toNatClampNeg (s16 27 9) → (vp_in (((s16 27 10) * (4 : Int32)) + (1 : Int32)) 2400 ∧ ∀ s19 : zMem, s19 = zwr s18 33 (((s16 27 10) * (4 : Int32)) + (1 : Int32)).toNatClampNeg v1 → (vp_in (((s16 27 10) * (4 : Int32)) + (2 : Int32)) 2400 ∧ ∀ s20 : zMem, s20 = zwr s19 33 (((s16 27 10) * (4 : Int32)) + (2 : Int32)).toNatClampNeg v2 → (vp_in (((s16 27 10) * (4 : Int32)) + (3 : Int32)) 2400 ∧ ∀ s21 : zMem, s21 = zwr s20 33 (((s16 27 10) * (4 : Int32)) + (3 : Int32)).toNatClampNeg v3 → (∀ s22 : zMem, s22 = zwr s21 27 10 ((s21 27 10) + (1 : Int32)) → (Φ s22)))))))))))))))))) else (Φ σ)) :
  CTV G d Y_X10_pay [.inr (.inr 27), .inl v1, .inl v2, .inl v3] σ Φ :=
  CT_of (M := M_X10_pay) rfl (Nat.le_of_ble_eq_true rfl) (Or.inl rfl) (ZP_ok ok_X10_pay 91 0 _ _ _ (show ZP G M_X10_pay d (RV Φ) sp_X10_pay 91 0 [some (.inr (.inr 27)), some (.inl v1), some (.inl v2), some (.inl v3), none, none] [] σ from h))
def sp_X10_rowPart : List (Nat × List Bool) := []
set_option maxRecDepth 100000 in
theorem en_X10_rowPart_i20 {G : zGT} {d : Nat} {Φ : Int32 → zMem → Prop} {σ : zMem} {v1 v2 : Int32}
  (h : if (if (600 : Int32) < (σ 20 10) then (600 : Int32) else (σ 20 10)) ≤ v1 then (Φ (-1000000005 : Int32) σ) else (vp_in ((v1 * (4 : Int32)) + v2) 2400 ∧ (Φ (σ 26 ((v1 * (4 : Int32)) + v2).toNatClampNeg) σ))) :
  CTI G (d + 1) Y_X10_rowPart [.inr (.inr 20), .inl v1, .inl v2] σ Φ :=
  CT_of (M := M_X10_rowPart) rfl (Nat.le_of_ble_eq_true rfl) (Or.inr (Or.inl rfl)) (ZP_ok ok_X10_rowPart 20 0 _ _ _ (show ZP G M_X10_rowPart (d + 1) (RI Φ) sp_X10_rowPart 20 0 [some (.inr (.inr 20)), some (.inl v1), some (.inl v2)] [] σ from h))
set_option maxRecDepth 100000 in
theorem en_X10_rowPart_i27 {G : zGT} {d : Nat} {Φ : Int32 → zMem → Prop} {σ : zMem} {v1 v2 : Int32}
  (h : if (if (600 : Int32) < (σ 27 10) then (600 : Int32) else (σ 27 10)) ≤ v1 then (Φ (-1000000005 : Int32) σ) else (vp_in ((v1 * (4 : Int32)) + v2) 2400 ∧ (Φ (σ 33 ((v1 * (4 : Int32)) + v2).toNatClampNeg) σ))) :
  CTI G (d + 1) Y_X10_rowPart [.inr (.inr 27), .inl v1, .inl v2] σ Φ :=
  CT_of (M := M_X10_rowPart) rfl (Nat.le_of_ble_eq_true rfl) (Or.inr (Or.inl rfl)) (ZP_ok ok_X10_rowPart 20 0 _ _ _ (show ZP G M_X10_rowPart (d + 1) (RI Φ) sp_X10_rowPart 20 0 [some (.inr (.inr 27)), some (.inl v1), some (.inl v2)] [] σ from h))
def sp_X10_peopleGot : List (Nat × List Bool) := [(4, [true, true, true])]
set_option maxRecDepth 100000 in
theorem en_X10_peopleGot_i20 {G : zGT} {d : Nat} {Φ : Int32 → zMem → Prop} {σ : zMem}
  (h : WJ G M_X10_peopleGot d (RI Φ) 4 [some (.inr (.inr 20)), some (.inl (0 : Int32)), some (.inl (0 : Int32))] [] σ) :
  CTI G d Y_X10_peopleGot [.inr (.inr 20)] σ Φ :=
  CT_of (M := M_X10_peopleGot) rfl (Nat.le_of_ble_eq_true rfl) (Or.inr (Or.inl rfl)) (ZP_ok ok_X10_peopleGot 8 0 _ _ _ (show ZP G M_X10_peopleGot d (RI Φ) sp_X10_peopleGot 8 0 [some (.inr (.inr 20)), none, none] [] σ from h))
set_option maxRecDepth 100000 in
theorem rg_X10_peopleGot_i20_4 {G : zGT} {d : Nat} {Φ : Int32 → zMem → Prop} {σ : zMem} {v1 v2 : Int32}
  (h : if (σ 1 6) ≤ v2 then (Φ v1 σ) else (vp_in v2 24 ∧ (if (σ 24 v2.toNatClampNeg) = (-1000000005 : Int32) then (vp_in v2 24 ∧ (WJ G M_X10_peopleGot d (RI Φ) 4 [some (.inr (.inr 20)), some (.inl (v1 + (σ 22 v2.toNatClampNeg))), some (.inl (v2 + 1))] [] σ)) else (WJ G M_X10_peopleGot d (RI Φ) 4 [some (.inr (.inr 20)), some (.inl (v1 + (0 : Int32))), some (.inl (v2 + 1))] [] σ)))) :
  WJ G M_X10_peopleGot d (RI Φ) 4 [some (.inr (.inr 20)), some (.inl v1), some (.inl v2)] [] σ :=
  ZP_ok ok_X10_peopleGot 25 4 _ _ _ (show ZP G M_X10_peopleGot d (RI Φ) sp_X10_peopleGot 25 4 [some (.inr (.inr 20)), some (.inl v1), some (.inl v2)] [] σ from h)
set_option maxRecDepth 100000 in
theorem en_X10_peopleGot_i27 {G : zGT} {d : Nat} {Φ : Int32 → zMem → Prop} {σ : zMem}
  (h : WJ G M_X10_peopleGot d (RI Φ) 4 [some (.inr (.inr 27)), some (.inl (0 : Int32)), some (.inl (0 : Int32))] [] σ) :
  CTI G d Y_X10_peopleGot [.inr (.inr 27)] σ Φ :=
  CT_of (M := M_X10_peopleGot) rfl (Nat.le_of_ble_eq_true rfl) (Or.inr (Or.inl rfl)) (ZP_ok ok_X10_peopleGot 8 0 _ _ _ (show ZP G M_X10_peopleGot d (RI Φ) sp_X10_peopleGot 8 0 [some (.inr (.inr 27)), none, none] [] σ from h))
set_option maxRecDepth 100000 in
theorem rg_X10_peopleGot_i27_4 {G : zGT} {d : Nat} {Φ : Int32 → zMem → Prop} {σ : zMem} {v1 v2 : Int32}
  (h : if (σ 1 6) ≤ v2 then (Φ v1 σ) else (vp_in v2 24 ∧ (if (σ 31 v2.toNatClampNeg) = (-1000000005 : Int32) then (vp_in v2 24 ∧ (WJ G M_X10_peopleGot d (RI Φ) 4 [some (.inr (.inr 27)), some (.inl (v1 + (σ 29 v2.toNatClampNeg))), some (.inl (v2 + 1))] [] σ)) else (WJ G M_X10_peopleGot d (RI Φ) 4 [some (.inr (.inr 27)), some (.inl (v1 + (0 : Int32))), some (.inl (v2 + 1))] [] σ)))) :
  WJ G M_X10_peopleGot d (RI Φ) 4 [some (.inr (.inr 27)), some (.inl v1), some (.inl v2)] [] σ :=
  ZP_ok ok_X10_peopleGot 25 4 _ _ _ (show ZP G M_X10_peopleGot d (RI Φ) sp_X10_peopleGot 25 4 [some (.inr (.inr 27)), some (.inl v1), some (.inl v2)] [] σ from h)
def sp_X10_cashLeft : List (Nat × List Bool) := [(4, [true, true, true])]
set_option maxRecDepth 100000 in
theorem en_X10_cashLeft_i20 {G : zGT} {d : Nat} {Φ : Int32 → zMem → Prop} {σ : zMem}
  (h : WJ G M_X10_cashLeft d (RI Φ) 4 [some (.inr (.inr 20)), some (.inl (0 : Int32)), some (.inl (0 : Int32))] [] σ) :
  CTI G d Y_X10_cashLeft [.inr (.inr 20)] σ Φ :=
  CT_of (M := M_X10_cashLeft) rfl (Nat.le_of_ble_eq_true rfl) (Or.inr (Or.inl rfl)) (ZP_ok ok_X10_cashLeft 8 0 _ _ _ (show ZP G M_X10_cashLeft d (RI Φ) sp_X10_cashLeft 8 0 [some (.inr (.inr 20)), none, none] [] σ from h))
set_option maxRecDepth 100000 in
theorem rg_X10_cashLeft_i20_4 {G : zGT} {d : Nat} {Φ : Int32 → zMem → Prop} {σ : zMem} {v1 v2 : Int32}
  (h : if (6 : Int32) ≤ v2 then (Φ v1 σ) else (vp_in v2 6 ∧ (WJ G M_X10_cashLeft d (RI Φ) 4 [some (.inr (.inr 20)), some (.inl (v1 + (σ 25 v2.toNatClampNeg))), some (.inl (v2 + 1))] [] σ))) :
  WJ G M_X10_cashLeft d (RI Φ) 4 [some (.inr (.inr 20)), some (.inl v1), some (.inl v2)] [] σ :=
  ZP_ok ok_X10_cashLeft 16 4 _ _ _ (show ZP G M_X10_cashLeft d (RI Φ) sp_X10_cashLeft 16 4 [some (.inr (.inr 20)), some (.inl v1), some (.inl v2)] [] σ from h)
set_option maxRecDepth 100000 in
theorem en_X10_cashLeft_i27 {G : zGT} {d : Nat} {Φ : Int32 → zMem → Prop} {σ : zMem}
  (h : WJ G M_X10_cashLeft d (RI Φ) 4 [some (.inr (.inr 27)), some (.inl (0 : Int32)), some (.inl (0 : Int32))] [] σ) :
  CTI G d Y_X10_cashLeft [.inr (.inr 27)] σ Φ :=
  CT_of (M := M_X10_cashLeft) rfl (Nat.le_of_ble_eq_true rfl) (Or.inr (Or.inl rfl)) (ZP_ok ok_X10_cashLeft 8 0 _ _ _ (show ZP G M_X10_cashLeft d (RI Φ) sp_X10_cashLeft 8 0 [some (.inr (.inr 27)), none, none] [] σ from h))
set_option maxRecDepth 100000 in
theorem rg_X10_cashLeft_i27_4 {G : zGT} {d : Nat} {Φ : Int32 → zMem → Prop} {σ : zMem} {v1 v2 : Int32}
  (h : if (6 : Int32) ≤ v2 then (Φ v1 σ) else (vp_in v2 6 ∧ (WJ G M_X10_cashLeft d (RI Φ) 4 [some (.inr (.inr 27)), some (.inl (v1 + (σ 32 v2.toNatClampNeg))), some (.inl (v2 + 1))] [] σ))) :
  WJ G M_X10_cashLeft d (RI Φ) 4 [some (.inr (.inr 27)), some (.inl v1), some (.inl v2)] [] σ :=
  ZP_ok ok_X10_cashLeft 16 4 _ _ _ (show ZP G M_X10_cashLeft d (RI Φ) sp_X10_cashLeft 16 4 [some (.inr (.inr 27)), some (.inl v1), some (.inl v2)] [] σ from h)
def sp_X11_firm : List (Nat × List Bool) := []
set_option maxRecDepth 100000 in
theorem en_X11_firm {G : zGT} {d : Nat} {Φ : Int32 → zMem → Prop} {σ : zMem}
  (h : if (σ 0 15) < (6 : Int32) then (CTV G d Y_X11_changed [.inr (.inr 0)] σ (fun (s1 : zMem) => ∀ s2 : zMem, s2 = zwr s1 0 15 ((s1 0 15) + (1 : Int32)) → (Φ ((s2 0 15) - (1 : Int32)) s2))) else (Φ (-1000000003 : Int32) σ)) :
  CTI G (d + 1) Y_X11_firm [.inr (.inr 0)] σ Φ :=
  CT_of (M := M_X11_firm) rfl (Nat.le_of_ble_eq_true rfl) (Or.inr (Or.inl rfl)) (ZP_ok ok_X11_firm 21 0 _ _ _ (show ZP G M_X11_firm (d + 1) (RI Φ) sp_X11_firm 21 0 [some (.inr (.inr 0))] [] σ from h))
def sp_X11_asset : List (Nat × List Bool) := []
set_option maxRecDepth 100000 in
theorem en_X11_asset {G : zGT} {d : Nat} {Φ : Int32 → zMem → Prop} {σ : zMem} {v1 v2 v3 v4 : Int32}
  (h : CTI G d Y_X11_isFirm [.inr (.inr 0), .inl v1] σ (fun (r2 : Int32) (s1 : zMem) => if r2 = 0 then (Φ (-1000000001 : Int32) s1) else (CTI G d Y_X11_isWithin [.inl v3, .inl (100000 : Int32)] s1 (fun (r4 : Int32) (s3 : zMem) => if r4 = 0 then (Φ (-1000000001 : Int32) s3) else (CTI G d Y_X11_isWithin [.inl v2, .inl v3] s3 (fun (r6 : Int32) (s5 : zMem) => if r6 = 0 then (Φ (-1000000001 : Int32) s5) else (CTI G d Y_X11_isWithin [.inl v4, .inl (24 : Int32)] s5 (fun (r8 : Int32) (s7 : zMem) => if r8 = 0 then (Φ (-1000000001 : Int32) s7) else (if (s7 14 5) < (16 : Int32) then (CTV G d Y_X11_changed [.inr (.inr 0)] s7 (fun (s9 : zMem) => CTI G d Y_X0_add [.inr (.inr 14), .inl v1, .inl v2, .inl v3, .inl v4] s9 (fun (r11 : Int32) (s10 : zMem) => Φ r11 s10))) else (Φ (-1000000003 : Int32) s7)))))))))) :
  CTI G (d + 1) Y_X11_asset [.inr (.inr 0), .inl v1, .inl v2, .inl v3, .inl v4] σ Φ :=
  CT_of (M := M_X11_asset) rfl (Nat.le_of_ble_eq_true rfl) (Or.inr (Or.inl rfl)) (ZP_ok ok_X11_asset 35 0 _ _ _ (show ZP G M_X11_asset (d + 1) (RI Φ) sp_X11_asset 35 0 [some (.inr (.inr 0)), some (.inl v1), some (.inl v2), some (.inl v3), some (.inl v4)] [] σ from h))
def sp_X11_charge : List (Nat × List Bool) := []
set_option maxRecDepth 100000 in
theorem en_X11_charge {G : zGT} {d : Nat} {Φ : Int32 → zMem → Prop} {σ : zMem} {v1 v2 : Int32}
  (h : CTI G d Y_X0_has [.inr (.inr 14), .inl v1] σ (fun (r2 : Int32) (s1 : zMem) => if r2 = 0 then (Φ (-1000000001 : Int32) s1) else (if v2 = (-1000000005 : Int32) then (if v2 = (-1000000005 : Int32) then (vp_in v1 16 ∧ (vp_in v1 16 ∧ ∀ s3 : zMem, s3 = zwr s1 19 v1.toNatClampNeg v2 → (CTV G d Y_X11_changed [.inr (.inr 0)] s3 (fun (s4 : zMem) => Φ (s1 19 v1.toNatClampNeg) s4)))) else (vp_in v2 24 ∧ (if (s1 2 v2.toNatClampNeg) = (1 : Int32) then (vp_in v2 24 ∧ (vp_in v1 16 ∧ (if (s1 3 v2.toNatClampNeg) = (s1 15 v1.toNatClampNeg) then (vp_in v1 16 ∧ (vp_in v1 16 ∧ ∀ s5 : zMem, s5 = zwr s1 19 v1.toNatClampNeg v2 → (CTV G d Y_X11_changed [.inr (.inr 0)] s5 (fun (s6 : zMem) => Φ (s1 19 v1.toNatClampNeg) s6)))) else (Φ (-1000000002 : Int32) s1)))) else (Φ (-1000000002 : Int32) s1)))) else (CTI G d Y_X1_has [.inr (.inr 1), .inl v2] s1 (fun (r8 : Int32) (s7 : zMem) => if r8 = 0 then (Φ (-1000000001 : Int32) s7) else (if v2 = (-1000000005 : Int32) then (vp_in v1 16 ∧ (vp_in v1 16 ∧ ∀ s9 : zMem, s9 = zwr s7 19 v1.toNatClampNeg v2 → (CTV G d Y_X11_changed [.inr (.inr 0)] s9 (fun (s10 : zMem) => Φ (s7 19 v1.toNatClampNeg) s10)))) else (vp_in v2 24 ∧ (if (s7 2 v2.toNatClampNeg) = (1 : Int32) then (vp_in v2 24 ∧ (vp_in v1 16 ∧ (if (s7 3 v2.toNatClampNeg) = (s7 15 v1.toNatClampNeg) then (vp_in v1 16 ∧ (vp_in v1 16 ∧ ∀ s11 : zMem, s11 = zwr s7 19 v1.toNatClampNeg v2 → (CTV G d Y_X11_changed [.inr (.inr 0)] s11 (fun (s12 : zMem) => Φ (s7 19 v1.toNatClampNeg) s12)))) else (Φ (-1000000002 : Int32) s7)))) else (Φ (-1000000002 : Int32) s7))))))))) :
  CTI G (d + 1) Y_X11_charge [.inr (.inr 0), .inl v1, .inl v2] σ Φ :=
  CT_of (M := M_X11_charge) rfl (Nat.le_of_ble_eq_true rfl) (Or.inr (Or.inl rfl)) (ZP_ok ok_X11_charge 54 0 _ _ _ (show ZP G M_X11_charge (d + 1) (RI Φ) sp_X11_charge 54 0 [some (.inr (.inr 0)), some (.inl v1), some (.inl v2), none] [] σ from h))
def sp_X11_brings : List (Nat × List Bool) := []
set_option maxRecDepth 100000 in
theorem en_X11_brings {G : zGT} {d : Nat} {Φ : Int32 → zMem → Prop} {σ : zMem} {v1 v2 : Int32}
  (h : CTI G d Y_X0_has [.inr (.inr 14), .inl v1] σ (fun (r2 : Int32) (s1 : zMem) => if r2 = 0 then (Φ (-1000000001 : Int32) s1) else (CTI G d Y_X11_isSide [.inl v2] s1 (fun (r4 : Int32) (s3 : zMem) => if r4 = 0 then (Φ (-1000000001 : Int32) s3) else (CTI G d Y_X0_proceeds [.inr (.inr 14), .inl v1, .inl v2] s3 (fun (r6 : Int32) (s5 : zMem) => Φ r6 s5)))))) :
  CTI G (d + 1) Y_X11_brings [.inr (.inr 0), .inl v1, .inl v2] σ Φ :=
  CT_of (M := M_X11_brings) rfl (Nat.le_of_ble_eq_true rfl) (Or.inr (Or.inl rfl)) (ZP_ok ok_X11_brings 19 0 _ _ _ (show ZP G M_X11_brings (d + 1) (RI Φ) sp_X11_brings 19 0 [some (.inr (.inr 0)), some (.inl v1), some (.inl v2)] [] σ from h))
def sp_X11_claim : List (Nat × List Bool) := []
set_option maxRecDepth 100000 in
theorem en_X11_claim {G : zGT} {d : Nat} {Φ : Int32 → zMem → Prop} {σ : zMem} {v1 v2 v3 v4 : Int32}
  (h : CTI G d Y_X11_isWithin [.inl v1, .inl (4 : Int32)] σ (fun (r2 : Int32) (s1 : zMem) => if r2 = 0 then (Φ (-1000000001 : Int32) s1) else (CTI G d Y_X11_isFirm [.inr (.inr 0), .inl v2] s1 (fun (r4 : Int32) (s3 : zMem) => if r4 = 0 then (Φ (-1000000001 : Int32) s3) else (CTI G d Y_X11_mayHold [.inr (.inr 0), .inl v3, .inl v2] s3 (fun (r6 : Int32) (s5 : zMem) => if r6 = 0 then (Φ (-1000000001 : Int32) s5) else (if v4 < (1 : Int32) then (Φ (-1000000001 : Int32) s5) else (if v4 ≤ (100000 : Int32) then (if (s5 1 6) < (24 : Int32) then (CTV G d Y_X11_changed [.inr (.inr 0)] s5 (fun (s7 : zMem) => CTI G d Y_X1_add [.inr (.inr 1), .inl v1, .inl v2, .inl v3, .inl v4, .inl (s7 0 16)] s7 (fun (r9 : Int32) (s8 : zMem) => CTV G d Y_X5_begin [.inr (.inr 34), .inl r9] s8 (fun (s10 : zMem) => Φ r9 s10)))) else (Φ (-1000000003 : Int32) s5)) else (Φ (-1000000001 : Int32) s5))))))))) :
  CTI G (d + 1) Y_X11_claim [.inr (.inr 0), .inl v1, .inl v2, .inl v3, .inl v4] σ Φ :=
  CT_of (M := M_X11_claim) rfl (Nat.le_of_ble_eq_true rfl) (Or.inr (Or.inl rfl)) (ZP_ok ok_X11_claim 46 0 _ _ _ (show ZP G M_X11_claim (d + 1) (RI Φ) sp_X11_claim 46 0 [some (.inr (.inr 0)), some (.inl v1), some (.inl v2), some (.inl v3), some (.inl v4), none] [] σ from h))
def sp_X11_isOf : List (Nat × List Bool) := []
set_option maxRecDepth 100000 in
theorem en_X11_isOf {G : zGT} {d : Nat} {Φ : Int32 → zMem → Prop} {σ : zMem} {v1 v2 : Int32}
  (h : CTI G d Y_X1_has [.inr (.inr 1), .inl v1] σ (fun (r2 : Int32) (s1 : zMem) => if r2 = 0 then (Φ (-1000000001 : Int32) s1) else (CTI G d Y_X11_isWithin [.inl v2, .inl (4 : Int32)] s1 (fun (r4 : Int32) (s3 : zMem) => if r4 = 0 then (Φ (-1000000001 : Int32) s3) else (vp_in v1 24 ∧ (if v2 = 0 then (CTI G d Y_X11_truth [.inl (1 : Int32)] s3 (fun (r6 : Int32) (s5 : zMem) => Φ r6 s5)) else (if v2 = (s3 2 v1.toNatClampNeg) then (CTI G d Y_X11_truth [.inl (1 : Int32)] s3 (fun (r8 : Int32) (s7 : zMem) => Φ r8 s7)) else (if v2 = (2 : Int32) then (if (s3 2 v1.toNatClampNeg) = (4 : Int32) then (CTI G d Y_X11_truth [.inl (1 : Int32)] s3 (fun (r10 : Int32) (s9 : zMem) => Φ r10 s9)) else (CTI G d Y_X11_truth [.inl (0 : Int32)] s3 (fun (r12 : Int32) (s11 : zMem) => Φ r12 s11))) else (CTI G d Y_X11_truth [.inl (0 : Int32)] s3 (fun (r14 : Int32) (s13 : zMem) => Φ r14 s13)))))))))) :
  CTI G (d + 1) Y_X11_isOf [.inr (.inr 0), .inl v1, .inl v2] σ Φ :=
  CT_of (M := M_X11_isOf) rfl (Nat.le_of_ble_eq_true rfl) (Or.inr (Or.inl rfl)) (ZP_ok ok_X11_isOf 34 0 _ _ _ (show ZP G M_X11_isOf (d + 1) (RI Φ) sp_X11_isOf 34 0 [some (.inr (.inr 0)), some (.inl v1), some (.inl v2), none] [] σ from h))
def sp_X11_amend : List (Nat × List Bool) := []
set_option maxRecDepth 100000 in
theorem en_X11_amend {G : zGT} {d : Nat} {Φ : Int32 → zMem → Prop} {σ : zMem} {v1 v2 : Int32}
  (h : CTI G d Y_X1_has [.inr (.inr 1), .inl v1] σ (fun (r2 : Int32) (s1 : zMem) => if r2 = 0 then (Φ (-1000000001 : Int32) s1) else (CTI G d Y_X11_isWithin [.inl v2, .inl (100000 : Int32)] s1 (fun (r4 : Int32) (s3 : zMem) => if r4 = 0 then (Φ (-1000000001 : Int32) s3) else (CTI G d Y_X3_isFull [.inr (.inr 6), .inl v1] s3 (fun (r6 : Int32) (s5 : zMem) => if r6 = 0 then (CTI G d Y_X1_amountOn [.inr (.inr 1), .inl v1, .inl (s5 0 16)] s5 (fun (r8 : Int32) (s7 : zMem) => CTV G d Y_X3_write [.inr (.inr 6), .inl v1, .inl (s7 0 16), .inl v2] s7 (fun (s9 : zMem) => CTV G d Y_X11_changed [.inr (.inr 0)] s9 (fun (s10 : zMem) => Φ r8 s10)))) else (Φ (-1000000003 : Int32) s5))))))) :
  CTI G (d + 1) Y_X11_amend [.inr (.inr 0), .inl v1, .inl v2] σ Φ :=
  CT_of (M := M_X11_amend) rfl (Nat.le_of_ble_eq_true rfl) (Or.inr (Or.inl rfl)) (ZP_ok ok_X11_amend 38 0 _ _ _ (show ZP G M_X11_amend (d + 1) (RI Φ) sp_X11_amend 38 0 [some (.inr (.inr 0)), some (.inl v1), some (.inl v2), none] [] σ from h))
def sp_X11_trade : List (Nat × List Bool) := []
set_option maxRecDepth 100000 in
theorem en_X11_trade {G : zGT} {d : Nat} {Φ : Int32 → zMem → Prop} {σ : zMem} {v1 v2 : Int32}
  (h : CTI G d Y_X1_has [.inr (.inr 1), .inl v1] σ (fun (r2 : Int32) (s1 : zMem) => if r2 = 0 then (Φ (-1000000001 : Int32) s1) else (CTI G d Y_X11_isWithin [.inl v2, .inl (9 : Int32)] s1 (fun (r4 : Int32) (s3 : zMem) => if r4 = 0 then (Φ (-1000000001 : Int32) s3) else (CTI G d Y_X1_holderOn [.inr (.inr 1), .inl v1, .inl (s3 0 16)] s3 (fun (r6 : Int32) (s5 : zMem) => if (10 : Int32) ≤ r6 then (Φ (-1000000002 : Int32) s5) else (if r6 = v2 then (Φ (-1000000002 : Int32) s5) else (CTI G d Y_X3_isFull [.inr (.inr 10), .inl v1] s5 (fun (r8 : Int32) (s7 : zMem) => if r8 = 0 then (CTV G d Y_X3_write [.inr (.inr 10), .inl v1, .inl (s7 0 16), .inl v2] s7 (fun (s9 : zMem) => vp_in v1 24 ∧ ∀ s10 : zMem, s10 = zwr s9 36 v1.toNatClampNeg (0 : Int32) → (CTV G d Y_X11_changed [.inr (.inr 0)] s10 (fun (s11 : zMem) => Φ r6 s11)))) else (Φ (-1000000003 : Int32) s7)))))))))) :
  CTI G (d + 1) Y_X11_trade [.inr (.inr 0), .inl v1, .inl v2] σ Φ :=
  CT_of (M := M_X11_trade) rfl (Nat.le_of_ble_eq_true rfl) (Or.inr (Or.inl rfl)) (ZP_ok ok_X11_trade 50 0 _ _ _ (show ZP G M_X11_trade (d + 1) (RI Φ) sp_X11_trade 50 0 [some (.inr (.inr 0)), some (.inl v1), some (.inl v2), none] [] σ from h))
def sp_X11_guard : List (Nat × List Bool) := []
set_option maxRecDepth 100000 in
theorem en_X11_guard {G : zGT} {d : Nat} {Φ : Int32 → zMem → Prop} {σ : zMem} {v1 v2 v3 : Int32}
  (h : CTI G d Y_X1_has [.inr (.inr 1), .inl v1] σ (fun (r2 : Int32) (s1 : zMem) => if r2 = 0 then (Φ (-1000000001 : Int32) s1) else (CTI G d Y_X11_isFirm [.inr (.inr 0), .inl v2] s1 (fun (r4 : Int32) (s3 : zMem) => if r4 = 0 then (Φ (-1000000001 : Int32) s3) else (CTI G d Y_X11_isWithin [.inl v3, .inl (1 : Int32)] s3 (fun (r6 : Int32) (s5 : zMem) => if r6 = 0 then (Φ (-1000000001 : Int32) s5) else (vp_in v1 24 ∧ (if (s5 3 v1.toNatClampNeg) = v2 then (Φ (-1000000002 : Int32) s5) else (CTI G d Y_X1_holderOn [.inr (.inr 1), .inl v1, .inl (s5 0 16)] s5 (fun (r8 : Int32) (s7 : zMem) => if r8 = ((10 : Int32) + v2) then (Φ (-1000000002 : Int32) s7) else (vp_in v1 24 ∧ (vp_in v1 24 ∧ (vp_in v1 24 ∧ ∀ s9 : zMem, s9 = zwr s7 4 v1.toNatClampNeg (((s7 4 v1.toNatClampNeg) &&& (((1 : Int32) <<< (v2 &&& 31)) ^^^ (-1 : Int32))) ||| (v3 <<< (v2 &&& 31))) → (CTV G d Y_X11_changed [.inr (.inr 0)] s9 (fun (s10 : zMem) => Φ (((s7 4 v1.toNatClampNeg) >>> (v2 &&& 31)) &&& (1 : Int32)) s10))))))))))))))) :
  CTI G (d + 1) Y_X11_guard [.inr (.inr 0), .inl v1, .inl v2, .inl v3] σ Φ :=
  CT_of (M := M_X11_guard) rfl (Nat.le_of_ble_eq_true rfl) (Or.inr (Or.inl rfl)) (ZP_ok ok_X11_guard 68 0 _ _ _ (show ZP G M_X11_guard (d + 1) (RI Φ) sp_X11_guard 68 0 [some (.inr (.inr 0)), some (.inl v1), some (.inl v2), some (.inl v3), none] [] σ from h))
def sp_X11_dispute : List (Nat × List Bool) := []
set_option maxRecDepth 100000 in
theorem en_X11_dispute {G : zGT} {d : Nat} {Φ : Int32 → zMem → Prop} {σ : zMem} {v1 v2 : Int32}
  (h : CTI G d Y_X1_has [.inr (.inr 1), .inl v1] σ (fun (r2 : Int32) (s1 : zMem) => if r2 = 0 then (Φ (-1000000001 : Int32) s1) else (if v2 = (-1000000005 : Int32) then (vp_in v1 24 ∧ (vp_in v1 24 ∧ ∀ s3 : zMem, s3 = zwr s1 5 v1.toNatClampNeg v2 → (Φ (s1 5 v1.toNatClampNeg) s3))) else (CTI G d Y_X11_isWithin [.inl v2, .inl (100000 : Int32)] s1 (fun (r5 : Int32) (s4 : zMem) => if r5 = 0 then (Φ (-1000000001 : Int32) s4) else (vp_in v1 24 ∧ (vp_in v1 24 ∧ ∀ s6 : zMem, s6 = zwr s4 5 v1.toNatClampNeg v2 → (Φ (s4 5 v1.toNatClampNeg) s6)))))))) :
  CTI G (d + 1) Y_X11_dispute [.inr (.inr 0), .inl v1, .inl v2] σ Φ :=
  CT_of (M := M_X11_dispute) rfl (Nat.le_of_ble_eq_true rfl) (Or.inr (Or.inl rfl)) (ZP_ok ok_X11_dispute 30 0 _ _ _ (show ZP G M_X11_dispute (d + 1) (RI Φ) sp_X11_dispute 30 0 [some (.inr (.inr 0)), some (.inl v1), some (.inl v2), none] [] σ from h))
def sp_X11_told : List (Nat × List Bool) := []
set_option maxRecDepth 100000 in
theorem en_X11_told {G : zGT} {d : Nat} {Φ : Int32 → zMem → Prop} {σ : zMem} {v1 v2 : Int32}
  (h : CTI G d Y_X1_has [.inr (.inr 1), .inl v1] σ (fun (r2 : Int32) (s1 : zMem) => if r2 = 0 then (Φ (-1000000001 : Int32) s1) else (if v2 = (0 : Int32) then (vp_in v1 24 ∧ (Φ (s1 2 v1.toNatClampNeg) s1)) else if v2 = (1 : Int32) then (vp_in v1 24 ∧ (Φ (s1 3 v1.toNatClampNeg) s1)) else if v2 = (2 : Int32) then (vp_in v1 24 ∧ (Φ (s1 35 v1.toNatClampNeg) s1)) else if v2 = (3 : Int32) then (vp_in v1 24 ∧ (Φ (s1 36 v1.toNatClampNeg) s1)) else if v2 = (4 : Int32) then (CTI G d Y_X2_valueOf [.inr (.inr 55), .inl v1] s1 (fun (r4 : Int32) (s3 : zMem) => Φ r4 s3)) else if v2 = (5 : Int32) then (vp_in v1 24 ∧ (Φ (s1 4 v1.toNatClampNeg) s1)) else (Φ (-1000000001 : Int32) s1)))) :
  CTI G (d + 1) Y_X11_told [.inr (.inr 0), .inl v1, .inl v2] σ Φ :=
  CT_of (M := M_X11_told) rfl (Nat.le_of_ble_eq_true rfl) (Or.inr (Or.inl rfl)) (ZP_ok ok_X11_told 17 0 _ _ _ (show ZP G M_X11_told (d + 1) (RI Φ) sp_X11_told 17 0 [some (.inr (.inr 0)), some (.inl v1), some (.inl v2)] [] σ from h))
def sp_X11_known : List (Nat × List Bool) := []
set_option maxRecDepth 100000 in
theorem en_X11_known {G : zGT} {d : Nat} {Φ : Int32 → zMem → Prop} {σ : zMem} {v1 v2 : Int32}
  (h : CTI G d Y_X1_has [.inr (.inr 1), .inl v1] σ (fun (r2 : Int32) (s1 : zMem) => if r2 = 0 then (Φ (-1000000001 : Int32) s1) else (CTI G d Y_X11_isWithin [.inl v2, .inl (s1 0 16)] s1 (fun (r4 : Int32) (s3 : zMem) => if r4 = 0 then (Φ (-1000000001 : Int32) s3) else (CTI G d Y_X1_amountOn [.inr (.inr 1), .inl v1, .inl v2] s3 (fun (r6 : Int32) (s5 : zMem) => Φ r6 s5)))))) :
  CTI G (d + 1) Y_X11_known [.inr (.inr 0), .inl v1, .inl v2] σ Φ :=
  CT_of (M := M_X11_known) rfl (Nat.le_of_ble_eq_true rfl) (Or.inr (Or.inl rfl)) (ZP_ok ok_X11_known 21 0 _ _ _ (show ZP G M_X11_known (d + 1) (RI Φ) sp_X11_known 21 0 [some (.inr (.inr 0)), some (.inl v1), some (.inl v2)] [] σ from h))
def sp_X11_holder : List (Nat × List Bool) := []
set_option maxRecDepth 100000 in
theorem en_X11_holder {G : zGT} {d : Nat} {Φ : Int32 → zMem → Prop} {σ : zMem} {v1 v2 : Int32}
  (h : CTI G d Y_X1_has [.inr (.inr 1), .inl v1] σ (fun (r2 : Int32) (s1 : zMem) => if r2 = 0 then (Φ (-1000000001 : Int32) s1) else (CTI G d Y_X11_isWithin [.inl v2, .inl (s1 0 16)] s1 (fun (r4 : Int32) (s3 : zMem) => if r4 = 0 then (Φ (-1000000001 : Int32) s3) else (CTI G d Y_X1_holderOn [.inr (.inr 1), .inl v1, .inl v2] s3 (fun (r6 : Int32) (s5 : zMem) => Φ r6 s5)))))) :
  CTI G (d + 1) Y_X11_holder [.inr (.inr 0), .inl v1, .inl v2] σ Φ :=
  CT_of (M := M_X11_holder) rfl (Nat.le_of_ble_eq_true rfl) (Or.inr (Or.inl rfl)) (ZP_ok ok_X11_holder 21 0 _ _ _ (show ZP G M_X11_holder (d + 1) (RI Φ) sp_X11_holder 21 0 [some (.inr (.inr 0)), some (.inl v1), some (.inl v2)] [] σ from h))
def sp_X11_days : List (Nat × List Bool) := []
set_option maxRecDepth 100000 in
theorem en_X11_days {G : zGT} {d : Nat} {Φ : Int32 → zMem → Prop} {σ : zMem} {v1 : Int32}
  (h : if v1 < (1 : Int32) then (Φ (-1000000001 : Int32) σ) else (if (60 : Int32) < v1 then (Φ (-1000000001 : Int32) σ) else (if ((σ 0 16) + v1) ≤ (400 : Int32) then (∀ s1 : zMem, s1 = zwr σ 0 16 ((σ 0 16) + v1) → (CTV G d Y_X11_changed [.inr (.inr 0)] s1 (fun (s2 : zMem) => Φ (s2 0 16) s2))) else (Φ (-1000000001 : Int32) σ)))) :
  CTI G (d + 1) Y_X11_days [.inr (.inr 0), .inl v1] σ Φ :=
  CT_of (M := M_X11_days) rfl (Nat.le_of_ble_eq_true rfl) (Or.inr (Or.inl rfl)) (ZP_ok ok_X11_days 27 0 _ _ _ (show ZP G M_X11_days (d + 1) (RI Φ) sp_X11_days 27 0 [some (.inr (.inr 0)), some (.inl v1)] [] σ from h))
def sp_X11_wind : List (Nat × List Bool) := [(12, [false, false])]
set_option maxRecDepth 100000 in
theorem en_X11_wind {G : zGT} {d : Nat} {Φ : Int32 → zMem → Prop} {σ : zMem} {v1 : Int32}
  (h : CTI G d Y_X11_isSide [.inl v1] σ (fun (r2 : Int32) (s1 : zMem) => if r2 = 0 then (Φ (-1000000001 : Int32) s1) else (CTR G d Y_X11_wound [.inr (.inr 0), .inl v1] s1 (fun (k4 : Nat) (s3 : zMem) => WJ G M_X11_wind (d + 1) (RI Φ) 12 [none, none] [.inr (.inr k4)] s3)))) :
  CTI G (d + 1) Y_X11_wind [.inr (.inr 0), .inl v1] σ Φ :=
  CT_of (M := M_X11_wind) rfl (Nat.le_of_ble_eq_true rfl) (Or.inr (Or.inl rfl)) (ZP_ok ok_X11_wind 10 0 _ _ _ (show ZP G M_X11_wind (d + 1) (RI Φ) sp_X11_wind 10 0 [some (.inr (.inr 0)), some (.inl v1)] [] σ from h))
set_option maxRecDepth 100000 in
theorem rg_X11_wind_12w20 {G : zGT} {d : Nat} {Φ : Int32 → zMem → Prop} {σ : zMem}
  (h : CTI G d Y_X10_peopleGot [.inr (.inr 20)] σ (fun (r2 : Int32) (s1 : zMem) => Φ r2 s1)) :
  WJ G M_X11_wind (d + 1) (RI Φ) 12 [none, none] [.inr (.inr 20)] σ :=
  ZP_ok ok_X11_wind 7 12 _ _ _ (show ZP G M_X11_wind (d + 1) (RI Φ) sp_X11_wind 7 12 [none, none] [.inr (.inr 20)] σ from h)
set_option maxRecDepth 100000 in
theorem rg_X11_wind_12w27 {G : zGT} {d : Nat} {Φ : Int32 → zMem → Prop} {σ : zMem}
  (h : CTI G d Y_X10_peopleGot [.inr (.inr 27)] σ (fun (r2 : Int32) (s1 : zMem) => Φ r2 s1)) :
  WJ G M_X11_wind (d + 1) (RI Φ) 12 [none, none] [.inr (.inr 27)] σ :=
  ZP_ok ok_X11_wind 7 12 _ _ _ (show ZP G M_X11_wind (d + 1) (RI Φ) sp_X11_wind 7 12 [none, none] [.inr (.inr 27)] σ from h)
def sp_X11_gets : List (Nat × List Bool) := [(23, [false, true, false])]
set_option maxRecDepth 100000 in
theorem en_X11_gets {G : zGT} {d : Nat} {Φ : Int32 → zMem → Prop} {σ : zMem} {v1 v2 : Int32}
  (h : CTI G d Y_X1_has [.inr (.inr 1), .inl v1] σ (fun (r2 : Int32) (s1 : zMem) => if r2 = 0 then (Φ (-1000000001 : Int32) s1) else (CTI G d Y_X11_isSide [.inl v2] s1 (fun (r4 : Int32) (s3 : zMem) => if r4 = 0 then (Φ (-1000000001 : Int32) s3) else (CTR G d Y_X11_wound [.inr (.inr 0), .inl v2] s3 (fun (k6 : Nat) (s5 : zMem) => WJ G M_X11_gets (d + 1) (RI Φ) 23 [none, some (.inl v1), none] [.inr (.inr k6)] s5)))))) :
  CTI G (d + 1) Y_X11_gets [.inr (.inr 0), .inl v1, .inl v2] σ Φ :=
  CT_of (M := M_X11_gets) rfl (Nat.le_of_ble_eq_true rfl) (Or.inr (Or.inl rfl)) (ZP_ok ok_X11_gets 15 0 _ _ _ (show ZP G M_X11_gets (d + 1) (RI Φ) sp_X11_gets 15 0 [some (.inr (.inr 0)), some (.inl v1), some (.inl v2)] [] σ from h))
set_option maxRecDepth 100000 in
theorem rg_X11_gets_23w20 {G : zGT} {d : Nat} {Φ : Int32 → zMem → Prop} {σ : zMem} {v1 : Int32}
  (h : vp_in v1 24 ∧ (Φ (σ 22 v1.toNatClampNeg) σ)) :
  WJ G M_X11_gets (d + 1) (RI Φ) 23 [none, some (.inl v1), none] [.inr (.inr 20)] σ :=
  ZP_ok ok_X11_gets 9 23 _ _ _ (show ZP G M_X11_gets (d + 1) (RI Φ) sp_X11_gets 9 23 [none, some (.inl v1), none] [.inr (.inr 20)] σ from h)
set_option maxRecDepth 100000 in
theorem rg_X11_gets_23w27 {G : zGT} {d : Nat} {Φ : Int32 → zMem → Prop} {σ : zMem} {v1 : Int32}
  (h : vp_in v1 24 ∧ (Φ (σ 29 v1.toNatClampNeg) σ)) :
  WJ G M_X11_gets (d + 1) (RI Φ) 23 [none, some (.inl v1), none] [.inr (.inr 27)] σ :=
  ZP_ok ok_X11_gets 9 23 _ _ _ (show ZP G M_X11_gets (d + 1) (RI Φ) sp_X11_gets 9 23 [none, some (.inl v1), none] [.inr (.inr 27)] σ from h)
def sp_X11_ends : List (Nat × List Bool) := [(41, [false, false, false]), (50, [false, false, false]), (59, [false, false, false])]
set_option maxRecDepth 100000 in
theorem en_X11_ends {G : zGT} {d : Nat} {Φ : Int32 → zMem → Prop} {σ : zMem} {v1 v2 : Int32}
  (h : CTI G d Y_X11_isSide [.inl v1] σ (fun (r2 : Int32) (s1 : zMem) => if r2 = 0 then (Φ (-1000000001 : Int32) s1) else (if v2 = (0 : Int32) then (CTR G d Y_X11_wound [.inr (.inr 0), .inl v1] s1 (fun (k4 : Nat) (s3 : zMem) => WJ G M_X11_ends (d + 1) (RI Φ) 41 [none, none, none] [.inr (.inr k4)] s3)) else if v2 = (1 : Int32) then (CTR G d Y_X11_wound [.inr (.inr 0), .inl v1] s1 (fun (k6 : Nat) (s5 : zMem) => WJ G M_X11_ends (d + 1) (RI Φ) 50 [none, none, none] [.inr (.inr k6)] s5)) else if v2 = (2 : Int32) then (CTR G d Y_X11_wound [.inr (.inr 0), .inl v1] s1 (fun (k8 : Nat) (s7 : zMem) => WJ G M_X11_ends (d + 1) (RI Φ) 59 [none, none, none] [.inr (.inr k8)] s7)) else (Φ (-1000000001 : Int32) s1)))) :
  CTI G (d + 1) Y_X11_ends [.inr (.inr 0), .inl v1, .inl v2] σ Φ :=
  CT_of (M := M_X11_ends) rfl (Nat.le_of_ble_eq_true rfl) (Or.inr (Or.inl rfl)) (ZP_ok ok_X11_ends 12 0 _ _ _ (show ZP G M_X11_ends (d + 1) (RI Φ) sp_X11_ends 12 0 [some (.inr (.inr 0)), some (.inl v1), some (.inl v2)] [] σ from h))
set_option maxRecDepth 100000 in
theorem rg_X11_ends_41w20 {G : zGT} {d : Nat} {Φ : Int32 → zMem → Prop} {σ : zMem}
  (h : Φ (σ 20 9) σ) :
  WJ G M_X11_ends (d + 1) (RI Φ) 41 [none, none, none] [.inr (.inr 20)] σ :=
  ZP_ok ok_X11_ends 6 41 _ _ _ (show ZP G M_X11_ends (d + 1) (RI Φ) sp_X11_ends 6 41 [none, none, none] [.inr (.inr 20)] σ from h)
set_option maxRecDepth 100000 in
theorem rg_X11_ends_41w27 {G : zGT} {d : Nat} {Φ : Int32 → zMem → Prop} {σ : zMem}
  (h : Φ (σ 27 9) σ) :
  WJ G M_X11_ends (d + 1) (RI Φ) 41 [none, none, none] [.inr (.inr 27)] σ :=
  ZP_ok ok_X11_ends 6 41 _ _ _ (show ZP G M_X11_ends (d + 1) (RI Φ) sp_X11_ends 6 41 [none, none, none] [.inr (.inr 27)] σ from h)
set_option maxRecDepth 100000 in
theorem rg_X11_ends_50w20 {G : zGT} {d : Nat} {Φ : Int32 → zMem → Prop} {σ : zMem}
  (h : Φ (σ 20 10) σ) :
  WJ G M_X11_ends (d + 1) (RI Φ) 50 [none, none, none] [.inr (.inr 20)] σ :=
  ZP_ok ok_X11_ends 6 50 _ _ _ (show ZP G M_X11_ends (d + 1) (RI Φ) sp_X11_ends 6 50 [none, none, none] [.inr (.inr 20)] σ from h)
set_option maxRecDepth 100000 in
theorem rg_X11_ends_50w27 {G : zGT} {d : Nat} {Φ : Int32 → zMem → Prop} {σ : zMem}
  (h : Φ (σ 27 10) σ) :
  WJ G M_X11_ends (d + 1) (RI Φ) 50 [none, none, none] [.inr (.inr 27)] σ :=
  ZP_ok ok_X11_ends 6 50 _ _ _ (show ZP G M_X11_ends (d + 1) (RI Φ) sp_X11_ends 6 50 [none, none, none] [.inr (.inr 27)] σ from h)
set_option maxRecDepth 100000 in
theorem rg_X11_ends_59w20 {G : zGT} {d : Nat} {Φ : Int32 → zMem → Prop} {σ : zMem}
  (h : CTI G d Y_X10_cashLeft [.inr (.inr 20)] σ (fun (r2 : Int32) (s1 : zMem) => Φ r2 s1)) :
  WJ G M_X11_ends (d + 1) (RI Φ) 59 [none, none, none] [.inr (.inr 20)] σ :=
  ZP_ok ok_X11_ends 6 59 _ _ _ (show ZP G M_X11_ends (d + 1) (RI Φ) sp_X11_ends 6 59 [none, none, none] [.inr (.inr 20)] σ from h)
set_option maxRecDepth 100000 in
theorem rg_X11_ends_59w27 {G : zGT} {d : Nat} {Φ : Int32 → zMem → Prop} {σ : zMem}
  (h : CTI G d Y_X10_cashLeft [.inr (.inr 27)] σ (fun (r2 : Int32) (s1 : zMem) => Φ r2 s1)) :
  WJ G M_X11_ends (d + 1) (RI Φ) 59 [none, none, none] [.inr (.inr 27)] σ :=
  ZP_ok ok_X11_ends 6 59 _ _ _ (show ZP G M_X11_ends (d + 1) (RI Φ) sp_X11_ends 6 59 [none, none, none] [.inr (.inr 27)] σ from h)
def sp_X11_cash : List (Nat × List Bool) := [(20, [false, true, false])]
set_option maxRecDepth 100000 in
theorem en_X11_cash {G : zGT} {d : Nat} {Φ : Int32 → zMem → Prop} {σ : zMem} {v1 v2 : Int32}
  (h : CTI G d Y_X11_isFirm [.inr (.inr 0), .inl v1] σ (fun (r2 : Int32) (s1 : zMem) => if r2 = 0 then (Φ (-1000000001 : Int32) s1) else (CTI G d Y_X11_isSide [.inl v2] s1 (fun (r4 : Int32) (s3 : zMem) => if r4 = 0 then (Φ (-1000000001 : Int32) s3) else (CTR G d Y_X11_wound [.inr (.inr 0), .inl v2] s3 (fun (k6 : Nat) (s5 : zMem) => WJ G M_X11_cash (d + 1) (RI Φ) 20 [none, some (.inl v1), none] [.inr (.inr k6)] s5)))))) :
  CTI G (d + 1) Y_X11_cash [.inr (.inr 0), .inl v1, .inl v2] σ Φ :=
  CT_of (M := M_X11_cash) rfl (Nat.le_of_ble_eq_true rfl) (Or.inr (Or.inl rfl)) (ZP_ok ok_X11_cash 14 0 _ _ _ (show ZP G M_X11_cash (d + 1) (RI Φ) sp_X11_cash 14 0 [some (.inr (.inr 0)), some (.inl v1), some (.inl v2)] [] σ from h))
set_option maxRecDepth 100000 in
theorem rg_X11_cash_20w20 {G : zGT} {d : Nat} {Φ : Int32 → zMem → Prop} {σ : zMem} {v1 : Int32}
  (h : vp_in v1 6 ∧ (Φ (σ 25 v1.toNatClampNeg) σ)) :
  WJ G M_X11_cash (d + 1) (RI Φ) 20 [none, some (.inl v1), none] [.inr (.inr 20)] σ :=
  ZP_ok ok_X11_cash 9 20 _ _ _ (show ZP G M_X11_cash (d + 1) (RI Φ) sp_X11_cash 9 20 [none, some (.inl v1), none] [.inr (.inr 20)] σ from h)
set_option maxRecDepth 100000 in
theorem rg_X11_cash_20w27 {G : zGT} {d : Nat} {Φ : Int32 → zMem → Prop} {σ : zMem} {v1 : Int32}
  (h : vp_in v1 6 ∧ (Φ (σ 32 v1.toNatClampNeg) σ)) :
  WJ G M_X11_cash (d + 1) (RI Φ) 20 [none, some (.inl v1), none] [.inr (.inr 27)] σ :=
  ZP_ok ok_X11_cash 9 20 _ _ _ (show ZP G M_X11_cash (d + 1) (RI Φ) sp_X11_cash 9 20 [none, some (.inl v1), none] [.inr (.inr 27)] σ from h)
def sp_X11_row : List (Nat × List Bool) := [(27, [false, false, true, true])]
set_option maxRecDepth 100000 in
theorem en_X11_row {G : zGT} {d : Nat} {Φ : Int32 → zMem → Prop} {σ : zMem} {v1 v2 v3 : Int32}
  (h : CTI G d Y_X11_isSide [.inl v1] σ (fun (r2 : Int32) (s1 : zMem) => if r2 = 0 then (Φ (-1000000001 : Int32) s1) else (if v2 < 0 then (Φ (-1000000001 : Int32) s1) else (CTI G d Y_X11_isWithin [.inl v3, .inl (3 : Int32)] s1 (fun (r4 : Int32) (s3 : zMem) => if r4 = 0 then (Φ (-1000000001 : Int32) s3) else (CTR G d Y_X11_wound [.inr (.inr 0), .inl v1] s3 (fun (k6 : Nat) (s5 : zMem) => WJ G M_X11_row (d + 1) (RI Φ) 27 [none, none, some (.inl v2), some (.inl v3)] [.inr (.inr k6)] s5))))))) :
  CTI G (d + 1) Y_X11_row [.inr (.inr 0), .inl v1, .inl v2, .inl v3] σ Φ :=
  CT_of (M := M_X11_row) rfl (Nat.le_of_ble_eq_true rfl) (Or.inr (Or.inl rfl)) (ZP_ok ok_X11_row 16 0 _ _ _ (show ZP G M_X11_row (d + 1) (RI Φ) sp_X11_row 16 0 [some (.inr (.inr 0)), some (.inl v1), some (.inl v2), some (.inl v3)] [] σ from h))
set_option maxRecDepth 100000 in
theorem rg_X11_row_27w20 {G : zGT} {d : Nat} {Φ : Int32 → zMem → Prop} {σ : zMem} {v2 v3 : Int32}
  (h : CTI G d Y_X10_rowPart [.inr (.inr 20), .inl v2, .inl v3] σ (fun (r2 : Int32) (s1 : zMem) => Φ r2 s1)) :
  WJ G M_X11_row (d + 1) (RI Φ) 27 [none, none, some (.inl v2), some (.inl v3)] [.inr (.inr 20)] σ :=
  ZP_ok ok_X11_row 8 27 _ _ _ (show ZP G M_X11_row (d + 1) (RI Φ) sp_X11_row 8 27 [none, none, some (.inl v2), some (.inl v3)] [.inr (.inr 20)] σ from h)
set_option maxRecDepth 100000 in
theorem rg_X11_row_27w27 {G : zGT} {d : Nat} {Φ : Int32 → zMem → Prop} {σ : zMem} {v2 v3 : Int32}
  (h : CTI G d Y_X10_rowPart [.inr (.inr 27), .inl v2, .inl v3] σ (fun (r2 : Int32) (s1 : zMem) => Φ r2 s1)) :
  WJ G M_X11_row (d + 1) (RI Φ) 27 [none, none, some (.inl v2), some (.inl v3)] [.inr (.inr 27)] σ :=
  ZP_ok ok_X11_row 8 27 _ _ _ (show ZP G M_X11_row (d + 1) (RI Φ) sp_X11_row 8 27 [none, none, some (.inl v2), some (.inl v3)] [.inr (.inr 27)] σ from h)
def sp_X11_tell : List (Nat × List Bool) := []
set_option maxRecDepth 100000 in
theorem en_X11_tell {G : zGT} {d : Nat} {Φ : Int32 → zMem → Prop} {σ : zMem} {v1 : Int32}
  (h : if (σ 0 13) < (200 : Int32) then (vp_in (σ 0 13) 200 ∧ ∀ s1 : zMem, s1 = zwr σ 69 (σ 0 13).toNatClampNeg v1 → (∀ s2 : zMem, s2 = zwr s1 0 13 ((s1 0 13) + (1 : Int32)) → (Φ (s2 0 13) s2))) else (Φ (-1000000003 : Int32) σ)) :
  CTI G d Y_X11_tell [.inr (.inr 0), .inl v1] σ Φ :=
  CT_of (M := M_X11_tell) rfl (Nat.le_of_ble_eq_true rfl) (Or.inr (Or.inl rfl)) (ZP_ok ok_X11_tell 23 0 _ _ _ (show ZP G M_X11_tell d (RI Φ) sp_X11_tell 23 0 [some (.inr (.inr 0)), some (.inl v1)] [] σ from h))
def sp_X11_check : List (Nat × List Bool) := [(23, [false, false, true])]
set_option maxRecDepth 100000 in
theorem en_X11_check {G : zGT} {d : Nat} {Φ : Int32 → zMem → Prop} {σ : zMem} {v1 : Int32}
  (h : ∀ s1 : zMem, s1 = zwr σ 0 13 (0 : Int32) → (CTI G d Y_X11_isSide [.inl v1] s1 (fun (r3 : Int32) (s2 : zMem) => if r3 = 0 then (Φ (-1000000001 : Int32) s2) else (CTR G d Y_X11_wound [.inr (.inr 0), .inl v1] s2 (fun (k5 : Nat) (s4 : zMem) => WJ G M_X11_check (d + 1) (RI Φ) 23 [none, none, some (.inl (σ 0 13))] [.inr (.inr k5), .inr (.inr 0)] s4))))) :
  CTI G (d + 1) Y_X11_check [.inr (.inr 0), .inl v1] σ Φ :=
  CT_of (M := M_X11_check) rfl (Nat.le_of_ble_eq_true rfl) (Or.inr (Or.inl rfl)) (ZP_ok ok_X11_check 17 0 _ _ _ (show ZP G M_X11_check (d + 1) (RI Φ) sp_X11_check 17 0 [some (.inr (.inr 0)), some (.inl v1), none] [] σ from h))
set_option maxRecDepth 100000 in
theorem rg_X11_check_23w20 {G : zGT} {d : Nat} {Φ : Int32 → zMem → Prop} {σ : zMem} {v2 : Int32}
  (h : CTI G d Y_X11_firstWrong [.inr (.inr 0), .inr (.inr 20), .inl v2] σ (fun (r2 : Int32) (s1 : zMem) => Φ r2 s1)) :
  WJ G M_X11_check (d + 1) (RI Φ) 23 [none, none, some (.inl v2)] [.inr (.inr 20), .inr (.inr 0)] σ :=
  ZP_ok ok_X11_check 8 23 _ _ _ (show ZP G M_X11_check (d + 1) (RI Φ) sp_X11_check 8 23 [none, none, some (.inl v2)] [.inr (.inr 20), .inr (.inr 0)] σ from h)
set_option maxRecDepth 100000 in
theorem rg_X11_check_23w27 {G : zGT} {d : Nat} {Φ : Int32 → zMem → Prop} {σ : zMem} {v2 : Int32}
  (h : CTI G d Y_X11_firstWrong [.inr (.inr 0), .inr (.inr 27), .inl v2] σ (fun (r2 : Int32) (s1 : zMem) => Φ r2 s1)) :
  WJ G M_X11_check (d + 1) (RI Φ) 23 [none, none, some (.inl v2)] [.inr (.inr 27), .inr (.inr 0)] σ :=
  ZP_ok ok_X11_check 8 23 _ _ _ (show ZP G M_X11_check (d + 1) (RI Φ) sp_X11_check 8 23 [none, none, some (.inl v2)] [.inr (.inr 27), .inr (.inr 0)] σ from h)
def sp_X11_put : List (Nat × List Bool) := []
set_option maxRecDepth 100000 in
theorem en_X11_put {G : zGT} {d : Nat} {Φ : Int32 → zMem → Prop} {σ : zMem} {v1 v2 : Int32}
  (h : CTI G d Y_X1_has [.inr (.inr 1), .inl v1] σ (fun (r2 : Int32) (s1 : zMem) => if r2 = 0 then (Φ (-1000000001 : Int32) s1) else (if v2 = (-1000000005 : Int32) then (vp_in v1 24 ∧ (vp_in v1 24 ∧ ∀ s3 : zMem, s3 = zwr s1 35 v1.toNatClampNeg v2 → (Φ (s1 35 v1.toNatClampNeg) s3))) else (CTI G d Y_X11_isClass [.inl v2] s1 (fun (r5 : Int32) (s4 : zMem) => if r5 = 0 then (Φ (-1000000001 : Int32) s4) else (vp_in v1 24 ∧ (vp_in v1 24 ∧ ∀ s6 : zMem, s6 = zwr s4 35 v1.toNatClampNeg v2 → (Φ (s4 35 v1.toNatClampNeg) s6)))))))) :
  CTI G (d + 1) Y_X11_put [.inr (.inr 0), .inl v1, .inl v2] σ Φ :=
  CT_of (M := M_X11_put) rfl (Nat.le_of_ble_eq_true rfl) (Or.inr (Or.inl rfl)) (ZP_ok ok_X11_put 29 0 _ _ _ (show ZP G M_X11_put (d + 1) (RI Φ) sp_X11_put 29 0 [some (.inr (.inr 0)), some (.inl v1), some (.inl v2), none] [] σ from h))
def sp_X11_quarrel : List (Nat × List Bool) := []
set_option maxRecDepth 100000 in
theorem en_X11_quarrel {G : zGT} {d : Nat} {Φ : Int32 → zMem → Prop} {σ : zMem} {v1 : Int32}
  (h : CTI G d Y_X11_isClass [.inl v1] σ (fun (r2 : Int32) (s1 : zMem) => if r2 = 0 then (Φ (-1000000001 : Int32) s1) else (CTI G d Y_X11_firstQuarrel [.inr (.inr 0), .inl v1] s1 (fun (r4 : Int32) (s3 : zMem) => Φ r4 s3)))) :
  CTI G (d + 1) Y_X11_quarrel [.inr (.inr 0), .inl v1] σ Φ :=
  CT_of (M := M_X11_quarrel) rfl (Nat.le_of_ble_eq_true rfl) (Or.inr (Or.inl rfl)) (ZP_ok ok_X11_quarrel 12 0 _ _ _ (show ZP G M_X11_quarrel (d + 1) (RI Φ) sp_X11_quarrel 12 0 [some (.inr (.inr 0)), some (.inl v1)] [] σ from h))
def sp_X11_terms : List (Nat × List Bool) := []
set_option maxRecDepth 100000 in
theorem en_X11_terms {G : zGT} {d : Nat} {Φ : Int32 → zMem → Prop} {σ : zMem} {v1 v2 v3 v4 : Int32}
  (h : CTI G d Y_X11_isClass [.inl v1] σ (fun (r2 : Int32) (s1 : zMem) => if r2 = 0 then (Φ (-1000000001 : Int32) s1) else (CTI G d Y_X11_isWithin [.inl v2, .inl (100 : Int32)] s1 (fun (r4 : Int32) (s3 : zMem) => if r4 = 0 then (Φ (-1000000001 : Int32) s3) else (CTI G d Y_X11_isWithin [.inl v3, .inl (100 : Int32)] s3 (fun (r6 : Int32) (s5 : zMem) => if r6 = 0 then (Φ (-1000000001 : Int32) s5) else (CTI G d Y_X11_isWithin [.inl v4, .inl (60 : Int32)] s5 (fun (r8 : Int32) (s7 : zMem) => if r8 = 0 then (Φ (-1000000001 : Int32) s7) else (vp_in v1 6 ∧ ∀ s9 : zMem, s9 = zwr s7 37 v1.toNatClampNeg v2 → (vp_in v1 6 ∧ ∀ s10 : zMem, s10 = zwr s9 38 v1.toNatClampNeg v3 → (vp_in v1 6 ∧ ∀ s11 : zMem, s11 = zwr s10 39 v1.toNatClampNeg v4 → (Φ (0 : Int32) s11)))))))))))) :
  CTI G (d + 1) Y_X11_terms [.inr (.inr 0), .inl v1, .inl v2, .inl v3, .inl v4] σ Φ :=
  CT_of (M := M_X11_terms) rfl (Nat.le_of_ble_eq_true rfl) (Or.inr (Or.inl rfl)) (ZP_ok ok_X11_terms 39 0 _ _ _ (show ZP G M_X11_terms (d + 1) (RI Φ) sp_X11_terms 39 0 [some (.inr (.inr 0)), some (.inl v1), some (.inl v2), some (.inl v3), some (.inl v4)] [] σ from h))
def sp_X11_worth : List (Nat × List Bool) := []
set_option maxRecDepth 100000 in
theorem en_X11_worth {G : zGT} {d : Nat} {Φ : Int32 → zMem → Prop} {σ : zMem} {v1 : Int32}
  (h : CTI G d Y_X1_has [.inr (.inr 1), .inl v1] σ (fun (r2 : Int32) (s1 : zMem) => if r2 = 0 then (Φ (-1000000001 : Int32) s1) else (CTI G d Y_X11_worthOf [.inr (.inr 0), .inl v1] s1 (fun (r4 : Int32) (s3 : zMem) => Φ r4 s3)))) :
  CTI G (d + 1) Y_X11_worth [.inr (.inr 0), .inl v1] σ Φ :=
  CT_of (M := M_X11_worth) rfl (Nat.le_of_ble_eq_true rfl) (Or.inr (Or.inl rfl)) (ZP_ok ok_X11_worth 14 0 _ _ _ (show ZP G M_X11_worth (d + 1) (RI Φ) sp_X11_worth 14 0 [some (.inr (.inr 0)), some (.inl v1)] [] σ from h))
def sp_X11_worse : List (Nat × List Bool) := [(21, [false, false, false])]
set_option maxRecDepth 100000 in
theorem en_X11_worse {G : zGT} {d : Nat} {Φ : Int32 → zMem → Prop} {σ : zMem} {v1 v2 : Int32}
  (h : CTI G d Y_X11_isClass [.inl v1] σ (fun (r2 : Int32) (s1 : zMem) => if r2 = 0 then (Φ (-1000000001 : Int32) s1) else (CTI G d Y_X11_isSide [.inl v2] s1 (fun (r4 : Int32) (s3 : zMem) => if r4 = 0 then (Φ (-1000000001 : Int32) s3) else (CTR G d Y_X11_wound [.inr (.inr 0), .inl v2] s3 (fun (k6 : Nat) (s5 : zMem) => WJ G M_X11_worse (d + 1) (RI Φ) 21 [none, none, none] [.inr (.inr k6), .inl v1, .inr (.inr 0)] s5)))))) :
  CTI G (d + 1) Y_X11_worse [.inr (.inr 0), .inl v1, .inl v2] σ Φ :=
  CT_of (M := M_X11_worse) rfl (Nat.le_of_ble_eq_true rfl) (Or.inr (Or.inl rfl)) (ZP_ok ok_X11_worse 15 0 _ _ _ (show ZP G M_X11_worse (d + 1) (RI Φ) sp_X11_worse 15 0 [some (.inr (.inr 0)), some (.inl v1), some (.inl v2)] [] σ from h))
set_option maxRecDepth 100000 in
theorem rg_X11_worse_21w20 {G : zGT} {d : Nat} {Φ : Int32 → zMem → Prop} {σ : zMem} {t0 : Int32}
  (h : CTI G d Y_X11_isWorse [.inr (.inr 0), .inl t0, .inr (.inr 20)] σ (fun (r2 : Int32) (s1 : zMem) => CTI G d Y_X11_truth [.inl r2] s1 (fun (r4 : Int32) (s3 : zMem) => Φ r4 s3))) :
  WJ G M_X11_worse (d + 1) (RI Φ) 21 [none, none, none] [.inr (.inr 20), .inl t0, .inr (.inr 0)] σ :=
  ZP_ok ok_X11_worse 8 21 _ _ _ (show ZP G M_X11_worse (d + 1) (RI Φ) sp_X11_worse 8 21 [none, none, none] [.inr (.inr 20), .inl t0, .inr (.inr 0)] σ from h)
set_option maxRecDepth 100000 in
theorem rg_X11_worse_21w27 {G : zGT} {d : Nat} {Φ : Int32 → zMem → Prop} {σ : zMem} {t0 : Int32}
  (h : CTI G d Y_X11_isWorse [.inr (.inr 0), .inl t0, .inr (.inr 27)] σ (fun (r2 : Int32) (s1 : zMem) => CTI G d Y_X11_truth [.inl r2] s1 (fun (r4 : Int32) (s3 : zMem) => Φ r4 s3))) :
  WJ G M_X11_worse (d + 1) (RI Φ) 21 [none, none, none] [.inr (.inr 27), .inl t0, .inr (.inr 0)] σ :=
  ZP_ok ok_X11_worse 8 21 _ _ _ (show ZP G M_X11_worse (d + 1) (RI Φ) sp_X11_worse 8 21 [none, none, none] [.inr (.inr 27), .inl t0, .inr (.inr 0)] σ from h)
def sp_X11_vote : List (Nat × List Bool) := []
set_option maxRecDepth 100000 in
theorem en_X11_vote {G : zGT} {d : Nat} {Φ : Int32 → zMem → Prop} {σ : zMem} {v1 v2 : Int32}
  (h : CTI G d Y_X1_has [.inr (.inr 1), .inl v1] σ (fun (r2 : Int32) (s1 : zMem) => if r2 = 0 then (Φ (-1000000001 : Int32) s1) else (CTI G d Y_X11_isWithin [.inl v2, .inl (2 : Int32)] s1 (fun (r4 : Int32) (s3 : zMem) => if r4 = 0 then (Φ (-1000000001 : Int32) s3) else (vp_in v1 24 ∧ (vp_in v1 24 ∧ ∀ s5 : zMem, s5 = zwr s3 36 v1.toNatClampNeg v2 → (Φ (s3 36 v1.toNatClampNeg) s5))))))) :
  CTI G (d + 1) Y_X11_vote [.inr (.inr 0), .inl v1, .inl v2] σ Φ :=
  CT_of (M := M_X11_vote) rfl (Nat.le_of_ble_eq_true rfl) (Or.inr (Or.inl rfl)) (ZP_ok ok_X11_vote 27 0 _ _ _ (show ZP G M_X11_vote (d + 1) (RI Φ) sp_X11_vote 27 0 [some (.inr (.inr 0)), some (.inl v1), some (.inl v2), none] [] σ from h))
def sp_X11_votes : List (Nat × List Bool) := [(42, [true, true, true, true, false])]
set_option maxRecDepth 100000 in
theorem en_X11_votes {G : zGT} {d : Nat} {Φ : Int32 → zMem → Prop} {σ : zMem} {v1 : Int32}
  (h : CTI G d Y_X11_isSheet [.inl v1] σ (fun (r2 : Int32) (s1 : zMem) => if r2 = 0 then (Φ (-1000000001 : Int32) s1) else (vp_in v1 2 ∧ (if 0 ≤ (s1 71 v1.toNatClampNeg) then (vp_in v1 2 ∧ (WJ G M_X11_votes (d + 1) (RI Φ) 42 [some (.inr (.inr 0)), some (.inl v1), some (.inl (if (s1 1 6) < (s1 71 v1.toNatClampNeg) then (s1 1 6) else (s1 71 v1.toNatClampNeg))), some (.inl (0 : Int32)), none] [] s1)) else (Φ (-1000000011 : Int32) s1))))) :
  CTI G (d + 1) Y_X11_votes [.inr (.inr 0), .inl v1] σ Φ :=
  CT_of (M := M_X11_votes) rfl (Nat.le_of_ble_eq_true rfl) (Or.inr (Or.inl rfl)) (ZP_ok ok_X11_votes 23 0 _ _ _ (show ZP G M_X11_votes (d + 1) (RI Φ) sp_X11_votes 23 0 [some (.inr (.inr 0)), some (.inl v1), none, none, none] [] σ from h))
set_option maxRecDepth 100000 in
theorem rg_X11_votes_42 {G : zGT} {d : Nat} {Φ : Int32 → zMem → Prop} {σ : zMem} {v1 v2 v3 : Int32}
  (h : if v2 ≤ v3 then (Φ v2 σ) else (vp_in ((v1 * (24 : Int32)) + v3) 48 ∧ (CTI G d Y_X11_isWithin [.inl (σ 70 ((v1 * (24 : Int32)) + v3).toNatClampNeg), .inl (2 : Int32)] σ (fun (r2 : Int32) (s1 : zMem) => if r2 = 0 then (vp_in v3 24 ∧ ∀ s3 : zMem, s3 = zwr s1 36 v3.toNatClampNeg (0 : Int32) → (WJ G M_X11_votes (d + 1) (RI Φ) 42 [some (.inr (.inr 0)), some (.inl v1), some (.inl v2), some (.inl (v3 + 1)), none] [] s3)) else (vp_in v3 24 ∧ ∀ s4 : zMem, s4 = zwr s1 36 v3.toNatClampNeg (σ 70 ((v1 * (24 : Int32)) + v3).toNatClampNeg) → (WJ G M_X11_votes (d + 1) (RI Φ) 42 [some (.inr (.inr 0)), some (.inl v1), some (.inl v2), some (.inl (v3 + 1)), none] [] s4)))))) :
  WJ G M_X11_votes (d + 1) (RI Φ) 42 [some (.inr (.inr 0)), some (.inl v1), some (.inl v2), some (.inl v3), none] [] σ :=
  ZP_ok ok_X11_votes 29 42 _ _ _ (show ZP G M_X11_votes (d + 1) (RI Φ) sp_X11_votes 29 42 [some (.inr (.inr 0)), some (.inl v1), some (.inl v2), some (.inl v3), none] [] σ from h)
def sp_X11_record : List (Nat × List Bool) := []
set_option maxRecDepth 100000 in
theorem en_X11_record {G : zGT} {d : Nat} {Φ : Int32 → zMem → Prop} {σ : zMem} {v1 : Int32}
  (h : CTI G d Y_X11_isWithin [.inl v1, .inl (σ 0 16)] σ (fun (r2 : Int32) (s1 : zMem) => if r2 = 0 then (Φ (-1000000001 : Int32) s1) else (∀ s3 : zMem, s3 = zwr s1 55 7 v1 → (Φ (s1 55 7) s3)))) :
  CTI G (d + 1) Y_X11_record [.inr (.inr 0), .inl v1] σ Φ :=
  CT_of (M := M_X11_record) rfl (Nat.le_of_ble_eq_true rfl) (Or.inr (Or.inl rfl)) (ZP_ok ok_X11_record 19 0 _ _ _ (show ZP G M_X11_record (d + 1) (RI Φ) sp_X11_record 19 0 [some (.inr (.inr 0)), some (.inl v1), none] [] σ from h))
def sp_X11_rule : List (Nat × List Bool) := []
set_option maxRecDepth 100000 in
theorem en_X11_rule {G : zGT} {d : Nat} {Φ : Int32 → zMem → Prop} {σ : zMem} {v1 v2 : Int32}
  (h : if v1 = 0 then (CTI G d Y_X11_isWithin [.inl v2, .inl (4 : Int32)] σ (fun (r2 : Int32) (s1 : zMem) => if r2 = 0 then (if v1 = (1 : Int32) then (CTI G d Y_X11_isWithin [.inl v2, .inl (20 : Int32)] s1 (fun (r4 : Int32) (s3 : zMem) => if r4 = 0 then (Φ (-1000000001 : Int32) s3) else (∀ s5 : zMem, s5 = zwr s3 0 17 v2 → (Φ (s3 0 17) s5)))) else (Φ (-1000000001 : Int32) s1)) else (∀ s6 : zMem, s6 = zwr s1 14 6 v2 → (CTV G d Y_X11_changed [.inr (.inr 0)] s6 (fun (s7 : zMem) => Φ (s1 14 6) s7))))) else (if v1 = (1 : Int32) then (CTI G d Y_X11_isWithin [.inl v2, .inl (20 : Int32)] σ (fun (r9 : Int32) (s8 : zMem) => if r9 = 0 then (Φ (-1000000001 : Int32) s8) else (∀ s10 : zMem, s10 = zwr s8 0 17 v2 → (Φ (s8 0 17) s10)))) else (Φ (-1000000001 : Int32) σ))) :
  CTI G (d + 1) Y_X11_rule [.inr (.inr 0), .inl v1, .inl v2] σ Φ :=
  CT_of (M := M_X11_rule) rfl (Nat.le_of_ble_eq_true rfl) (Or.inr (Or.inl rfl)) (ZP_ok ok_X11_rule 25 0 _ _ _ (show ZP G M_X11_rule (d + 1) (RI Φ) sp_X11_rule 25 0 [some (.inr (.inr 0)), some (.inl v1), some (.inl v2), none] [] σ from h))
def sp_X11_feed : List (Nat × List Bool) := []
set_option maxRecDepth 100000 in
theorem en_X11_feed {G : zGT} {d : Nat} {Φ : Int32 → zMem → Prop} {σ : zMem} {v1 v2 v3 : Int32}
  (h : if ((σ 46 1) + (12 : Int32)) ≤ (96 : Int32) then (CTV G d Y_X9_write [.inr (.inr 46), .inl v1] σ (fun (s1 : zMem) => CTV G d Y_X9_write [.inr (.inr 46), .inl v2] s1 (fun (s2 : zMem) => CTV G d Y_X9_write [.inr (.inr 46), .inl v3] s2 (fun (s3 : zMem) => Φ (s3 46 1) s3)))) else (Φ (-1000000003 : Int32) σ)) :
  CTI G (d + 1) Y_X11_feed [.inr (.inr 0), .inl v1, .inl v2, .inl v3] σ Φ :=
  CT_of (M := M_X11_feed) rfl (Nat.le_of_ble_eq_true rfl) (Or.inr (Or.inl rfl)) (ZP_ok ok_X11_feed 27 0 _ _ _ (show ZP G M_X11_feed (d + 1) (RI Φ) sp_X11_feed 27 0 [some (.inr (.inr 0)), some (.inl v1), some (.inl v2), some (.inl v3)] [] σ from h))
def sp_X11_trim : List (Nat × List Bool) := []
set_option maxRecDepth 100000 in
theorem en_X11_trim {G : zGT} {d : Nat} {Φ : Int32 → zMem → Prop} {σ : zMem} {v1 : Int32}
  (h : CTI G d Y_X11_isWithin [.inl v1, .inl (σ 46 1)] σ (fun (r2 : Int32) (s1 : zMem) => if r2 = 0 then (Φ (-1000000001 : Int32) s1) else (∀ s3 : zMem, s3 = zwr s1 46 1 v1 → (Φ v1 s3)))) :
  CTI G (d + 1) Y_X11_trim [.inr (.inr 0), .inl v1] σ Φ :=
  CT_of (M := M_X11_trim) rfl (Nat.le_of_ble_eq_true rfl) (Or.inr (Or.inl rfl)) (ZP_ok ok_X11_trim 16 0 _ _ _ (show ZP G M_X11_trim (d + 1) (RI Φ) sp_X11_trim 16 0 [some (.inr (.inr 0)), some (.inl v1)] [] σ from h))
def sp_X11_law : List (Nat × List Bool) := []
set_option maxRecDepth 100000 in
theorem en_X11_law {G : zGT} {d : Nat} {Φ : Int32 → zMem → Prop} {σ : zMem}
  (h : CTI G d Y_X6_readsLaw [.inr (.inr 48)] σ (fun (r2 : Int32) (s1 : zMem) => ∀ s3 : zMem, s3 = zwr s1 46 1 (0 : Int32) → (if r2 = 0 then (Φ ((-100 : Int32) - (s3 46 2)) s3) else (CTV G d Y_X4_take [.inr (.inr 56), .inr (.inr 49)] s3 (fun (s4 : zMem) => CTV G d Y_X4_take [.inr (.inr 59), .inr (.inr 52)] s4 (fun (s5 : zMem) => ∀ s6 : zMem, s6 = zwr s5 55 6 (s5 48 5) → (Φ (s6 55 6) s6))))))) :
  CTI G (d + 1) Y_X11_law [.inr (.inr 0)] σ Φ :=
  CT_of (M := M_X11_law) rfl (Nat.le_of_ble_eq_true rfl) (Or.inr (Or.inl rfl)) (ZP_ok ok_X11_law 38 0 _ _ _ (show ZP G M_X11_law (d + 1) (RI Φ) sp_X11_law 38 0 [some (.inr (.inr 0)), none] [] σ from h))
def sp_X11_says : List (Nat × List Bool) := []
set_option maxRecDepth 100000 in
theorem en_X11_says {G : zGT} {d : Nat} {Φ : Int32 → zMem → Prop} {σ : zMem} {v1 : Int32}
  (h : CTI G d Y_X11_isClass [.inl v1] σ (fun (r2 : Int32) (s1 : zMem) => if r2 = 0 then (Φ (-1000000001 : Int32) s1) else (CTI G d Y_X2_hasClaims [.inr (.inr 55), .inl v1] s1 (fun (r4 : Int32) (s3 : zMem) => if r4 = 0 then (Φ (-1000000001 : Int32) s3) else (CTI G d Y_X2_hasLaw [.inr (.inr 55)] s3 (fun (r6 : Int32) (s5 : zMem) => if r6 = 0 then (Φ (-1000000002 : Int32) s5) else (CTV G d Y_X2_tallyClass [.inr (.inr 55), .inr (.inr 62), .inl v1] s5 (fun (s7 : zMem) => CTI G d Y_X2_passGives [.inr (.inr 55), .inr (.inr 62)] s7 (fun (r9 : Int32) (s8 : zMem) => Φ r9 s8))))))))) :
  CTI G (d + 1) Y_X11_says [.inr (.inr 0), .inl v1] σ Φ :=
  CT_of (M := M_X11_says) rfl (Nat.le_of_ble_eq_true rfl) (Or.inr (Or.inl rfl)) (ZP_ok ok_X11_says 30 0 _ _ _ (show ZP G M_X11_says (d + 1) (RI Φ) sp_X11_says 30 0 [some (.inr (.inr 0)), some (.inl v1)] [] σ from h))
def sp_X11_binds : List (Nat × List Bool) := [(15, [true, true, false])]
set_option maxRecDepth 100000 in
theorem en_X11_binds {G : zGT} {d : Nat} {Φ : Int32 → zMem → Prop} {σ : zMem}
  (h : CTI G d Y_X2_hasLaw [.inr (.inr 55)] σ (fun (r2 : Int32) (s1 : zMem) => if r2 = 0 then (Φ (-1000000002 : Int32) s1) else (WJ G M_X11_binds (d + 1) (RI Φ) 15 [some (.inr (.inr 0)), some (.inl (0 : Int32)), none] [] s1))) :
  CTI G (d + 1) Y_X11_binds [.inr (.inr 0)] σ Φ :=
  CT_of (M := M_X11_binds) rfl (Nat.le_of_ble_eq_true rfl) (Or.inr (Or.inl rfl)) (ZP_ok ok_X11_binds 10 0 _ _ _ (show ZP G M_X11_binds (d + 1) (RI Φ) sp_X11_binds 10 0 [some (.inr (.inr 0)), none, none] [] σ from h))
set_option maxRecDepth 100000 in
theorem rg_X11_binds_15 {G : zGT} {d : Nat} {Φ : Int32 → zMem → Prop} {σ : zMem} {v1 : Int32}
  (h : CTI G d Y_J0_length_8abf5 [.inr (.inr 1001)] σ (fun (r2 : Int32) (s1 : zMem) => if r2 ≤ v1 then (CTI G d Y_X4_work [.inr (.inr 59), .inr (.inr 63)] s1 (fun (r4 : Int32) (s3 : zMem) => Φ r4 s3)) else (CTI G d Y_J0_charAt_5068e [.inr (.inr 1001), .inl v1] s1 (fun (r6 : Int32) (s5 : zMem) => CTI G d Y_X4_uses [.inr (.inr 59), .inl r6] s5 (fun (r8 : Int32) (s7 : zMem) => if r8 = 0 then (WJ G M_X11_binds (d + 1) (RI Φ) 15 [some (.inr (.inr 0)), some (.inl (v1 + 1)), none] [] s7) else (CTI G d Y_X11_bindName [.inr (.inr 0), .inl r6] s7 (fun (r10 : Int32) (s9 : zMem) => CTV G d Y_X2_setName [.inr (.inr 55), .inl r6, .inl r10] s9 (fun (s11 : zMem) => WJ G M_X11_binds (d + 1) (RI Φ) 15 [some (.inr (.inr 0)), some (.inl (v1 + 1)), none] [] s11)))))))) :
  WJ G M_X11_binds (d + 1) (RI Φ) 15 [some (.inr (.inr 0)), some (.inl v1), none] [] σ :=
  ZP_ok ok_X11_binds 27 15 _ _ _ (show ZP G M_X11_binds (d + 1) (RI Φ) sp_X11_binds 27 15 [some (.inr (.inr 0)), some (.inl v1), none] [] σ from h)
def sp_X11_passes : List (Nat × List Bool) := []
set_option maxRecDepth 100000 in
theorem en_X11_passes {G : zGT} {d : Nat} {Φ : Int32 → zMem → Prop} {σ : zMem} {v1 : Int32}
  (h : CTI G d Y_X11_isClass [.inl v1] σ (fun (r2 : Int32) (s1 : zMem) => if r2 = 0 then (Φ (-1000000001 : Int32) s1) else (CTI G d Y_X2_classPasses [.inr (.inr 55), .inl v1] s1 (fun (r4 : Int32) (s3 : zMem) => CTI G d Y_X11_truth [.inl r4] s3 (fun (r6 : Int32) (s5 : zMem) => Φ r6 s5))))) :
  CTI G (d + 1) Y_X11_passes [.inr (.inr 0), .inl v1] σ Φ :=
  CT_of (M := M_X11_passes) rfl (Nat.le_of_ble_eq_true rfl) (Or.inr (Or.inl rfl)) (ZP_ok ok_X11_passes 14 0 _ _ _ (show ZP G M_X11_passes (d + 1) (RI Φ) sp_X11_passes 14 0 [some (.inr (.inr 0)), some (.inl v1)] [] σ from h))
def sp_X11_name : List (Nat × List Bool) := []
set_option maxRecDepth 100000 in
theorem en_X11_name {G : zGT} {d : Nat} {Φ : Int32 → zMem → Prop} {σ : zMem} {v1 v2 : Int32}
  (h : if v2 = (-1000000005 : Int32) then (CTI G d Y_X11_isAmong [.inr (.inr 1001), .inl v1] σ (fun (r2 : Int32) (s1 : zMem) => if r2 = 0 then (Φ (-1000000001 : Int32) s1) else (CTI G d Y_X11_bindName [.inr (.inr 0), .inl v1] s1 (fun (r4 : Int32) (s3 : zMem) => Φ r4 s3)))) else (CTI G d Y_X11_isAmong [.inr (.inr 1000), .inl v1] σ (fun (r6 : Int32) (s5 : zMem) => if r6 = 0 then (Φ (-1000000001 : Int32) s5) else (CTI G d Y_X11_isClass [.inl v2] s5 (fun (r8 : Int32) (s7 : zMem) => if r8 = 0 then (Φ (-1000000001 : Int32) s7) else (CTI G d Y_X2_hasClaims [.inr (.inr 55), .inl v2] s7 (fun (r10 : Int32) (s9 : zMem) => if r10 = 0 then (Φ (-1000000001 : Int32) s9) else (CTV G d Y_X2_tallyClass [.inr (.inr 55), .inr (.inr 62), .inl v2] s9 (fun (s11 : zMem) => CTI G d Y_X8_nameValue [.inr (.inr 62), .inl v1] s11 (fun (r13 : Int32) (s12 : zMem) => Φ r13 s12)))))))))) :
  CTI G (d + 1) Y_X11_name [.inr (.inr 0), .inl v1, .inl v2] σ Φ :=
  CT_of (M := M_X11_name) rfl (Nat.le_of_ble_eq_true rfl) (Or.inr (Or.inl rfl)) (ZP_ok ok_X11_name 32 0 _ _ _ (show ZP G M_X11_name (d + 1) (RI Φ) sp_X11_name 32 0 [some (.inr (.inr 0)), some (.inl v1), some (.inl v2)] [] σ from h))
def sp_X11_buy : List (Nat × List Bool) := []
set_option maxRecDepth 100000 in
theorem en_X11_buy {G : zGT} {d : Nat} {Φ : Int32 → zMem → Prop} {σ : zMem} {v1 v2 : Int32}
  (h : CTI G d Y_X11_isClass [.inl v1] σ (fun (r2 : Int32) (s1 : zMem) => if r2 = 0 then (Φ (-1000000001 : Int32) s1) else (CTI G d Y_X11_isPrice [.inl v2] s1 (fun (r4 : Int32) (s3 : zMem) => if r4 = 0 then (Φ (-1000000001 : Int32) s3) else (CTV G d Y_X7_findPurchase [.inr (.inr 64), .inl v1, .inl v2] s3 (fun (s5 : zMem) => if (s5 64 6) = 0 then (Φ (-1000000002 : Int32) s5) else (Φ (s5 64 9) s5))))))) :
  CTI G (d + 1) Y_X11_buy [.inr (.inr 0), .inl v1, .inl v2] σ Φ :=
  CT_of (M := M_X11_buy) rfl (Nat.le_of_ble_eq_true rfl) (Or.inr (Or.inl rfl)) (ZP_ok ok_X11_buy 24 0 _ _ _ (show ZP G M_X11_buy (d + 1) (RI Φ) sp_X11_buy 24 0 [some (.inr (.inr 0)), some (.inl v1), some (.inl v2)] [] σ from h))
def sp_X11_bought : List (Nat × List Bool) := []
set_option maxRecDepth 100000 in
theorem en_X11_bought {G : zGT} {d : Nat} {Φ : Int32 → zMem → Prop} {σ : zMem} {v1 v2 v3 : Int32}
  (h : CTI G d Y_X11_isClass [.inl v1] σ (fun (r2 : Int32) (s1 : zMem) => if r2 = 0 then (Φ (-1000000001 : Int32) s1) else (CTI G d Y_X11_isPrice [.inl v2] s1 (fun (r4 : Int32) (s3 : zMem) => if r4 = 0 then (Φ (-1000000001 : Int32) s3) else (if 0 ≤ v3 then (CTV G d Y_X7_findPurchase [.inr (.inr 64), .inl v1, .inl v2] s3 (fun (s5 : zMem) => if (s5 64 6) = 0 then (Φ (-1000000002 : Int32) s5) else (CTI G d Y_X7_member [.inr (.inr 64), .inl v3] s5 (fun (r7 : Int32) (s6 : zMem) => Φ r7 s6)))) else (Φ (-1000000001 : Int32) s3)))))) :
  CTI G (d + 1) Y_X11_bought [.inr (.inr 0), .inl v1, .inl v2, .inl v3] σ Φ :=
  CT_of (M := M_X11_bought) rfl (Nat.le_of_ble_eq_true rfl) (Or.inr (Or.inl rfl)) (ZP_ok ok_X11_bought 27 0 _ _ _ (show ZP G M_X11_bought (d + 1) (RI Φ) sp_X11_bought 27 0 [some (.inr (.inr 0)), some (.inl v1), some (.inl v2), some (.inl v3)] [] σ from h))
def sp_X11_part : List (Nat × List Bool) := []
set_option maxRecDepth 100000 in
theorem en_X11_part {G : zGT} {d : Nat} {Φ : Int32 → zMem → Prop} {σ : zMem} {v1 : Int32}
  (h : CTI G d Y_X11_isClass [.inl v1] σ (fun (r2 : Int32) (s1 : zMem) => if r2 = 0 then (Φ (-1000000001 : Int32) s1) else (CTV G d Y_X7_findPart [.inr (.inr 64), .inl v1] s1 (fun (s3 : zMem) => if (s3 64 6) = 0 then (Φ (-1000000002 : Int32) s3) else (Φ (s3 64 8) s3))))) :
  CTI G (d + 1) Y_X11_part [.inr (.inr 0), .inl v1] σ Φ :=
  CT_of (M := M_X11_part) rfl (Nat.le_of_ble_eq_true rfl) (Or.inr (Or.inl rfl)) (ZP_ok ok_X11_part 20 0 _ _ _ (show ZP G M_X11_part (d + 1) (RI Φ) sp_X11_part 20 0 [some (.inr (.inr 0)), some (.inl v1)] [] σ from h))
def sp_X11_parted : List (Nat × List Bool) := []
set_option maxRecDepth 100000 in
theorem en_X11_parted {G : zGT} {d : Nat} {Φ : Int32 → zMem → Prop} {σ : zMem} {v1 v2 : Int32}
  (h : CTI G d Y_X11_isClass [.inl v1] σ (fun (r2 : Int32) (s1 : zMem) => if r2 = 0 then (Φ (-1000000001 : Int32) s1) else (if 0 ≤ v2 then (CTV G d Y_X7_findPart [.inr (.inr 64), .inl v1] s1 (fun (s3 : zMem) => if (s3 64 6) = 0 then (Φ (-1000000002 : Int32) s3) else (CTI G d Y_X7_member [.inr (.inr 64), .inl v2] s3 (fun (r5 : Int32) (s4 : zMem) => Φ r5 s4)))) else (Φ (-1000000001 : Int32) s1)))) :
  CTI G (d + 1) Y_X11_parted [.inr (.inr 0), .inl v1, .inl v2] σ Φ :=
  CT_of (M := M_X11_parted) rfl (Nat.le_of_ble_eq_true rfl) (Or.inr (Or.inl rfl)) (ZP_ok ok_X11_parted 23 0 _ _ _ (show ZP G M_X11_parted (d + 1) (RI Φ) sp_X11_parted 23 0 [some (.inr (.inr 0)), some (.inl v1), some (.inl v2)] [] σ from h))
def sp_X11_keep : List (Nat × List Bool) := []
set_option maxRecDepth 100000 in
theorem en_X11_keep {G : zGT} {d : Nat} {Φ : Int32 → zMem → Prop} {σ : zMem}
  (h : ∀ s1 : zMem, s1 = zwr σ 0 14 (σ 1 6) → (CTV G d Y_X5_take [.inr (.inr 40), .inr (.inr 34), .inl (s1 0 14)] s1 (fun (s2 : zMem) => Φ (s2 0 14) s2))) :
  CTI G (d + 1) Y_X11_keep [.inr (.inr 0)] σ Φ :=
  CT_of (M := M_X11_keep) rfl (Nat.le_of_ble_eq_true rfl) (Or.inr (Or.inl rfl)) (ZP_ok ok_X11_keep 19 0 _ _ _ (show ZP G M_X11_keep (d + 1) (RI Φ) sp_X11_keep 19 0 [some (.inr (.inr 0))] [] σ from h))
def sp_X11_back : List (Nat × List Bool) := []
set_option maxRecDepth 100000 in
theorem en_X11_back {G : zGT} {d : Nat} {Φ : Int32 → zMem → Prop} {σ : zMem}
  (h : if 0 ≤ (σ 0 14) then (CTV G d Y_X5_take [.inr (.inr 34), .inr (.inr 40), .inl (σ 0 14)] σ (fun (s1 : zMem) => Φ (s1 0 14) s1)) else (Φ (-1000000002 : Int32) σ)) :
  CTI G (d + 1) Y_X11_back [.inr (.inr 0)] σ Φ :=
  CT_of (M := M_X11_back) rfl (Nat.le_of_ble_eq_true rfl) (Or.inr (Or.inl rfl)) (ZP_ok ok_X11_back 17 0 _ _ _ (show ZP G M_X11_back (d + 1) (RI Φ) sp_X11_back 17 0 [some (.inr (.inr 0))] [] σ from h))
def sp_X11_sheet : List (Nat × List Bool) := [(33, [true, true, true, true])]
set_option maxRecDepth 100000 in
theorem en_X11_sheet {G : zGT} {d : Nat} {Φ : Int32 → zMem → Prop} {σ : zMem} {v1 v2 : Int32}
  (h : CTI G d Y_X11_isSheet [.inl v1] σ (fun (r2 : Int32) (s1 : zMem) => if r2 = 0 then (Φ (-1000000001 : Int32) s1) else (if v2 ≤ (24 : Int32) then (if 0 ≤ v2 then (vp_in v1 2 ∧ ∀ s3 : zMem, s3 = zwr s1 71 v1.toNatClampNeg v2 → (WJ G M_X11_sheet (d + 1) (RI Φ) 33 [some (.inr (.inr 0)), some (.inl v1), some (.inl v2), some (.inl (0 : Int32))] [] s3)) else (Φ (-1000000014 : Int32) s1)) else (Φ (-1000000001 : Int32) s1)))) :
  CTI G (d + 1) Y_X11_sheet [.inr (.inr 0), .inl v1, .inl v2] σ Φ :=
  CT_of (M := M_X11_sheet) rfl (Nat.le_of_ble_eq_true rfl) (Or.inr (Or.inl rfl)) (ZP_ok ok_X11_sheet 19 0 _ _ _ (show ZP G M_X11_sheet (d + 1) (RI Φ) sp_X11_sheet 19 0 [some (.inr (.inr 0)), some (.inl v1), some (.inl v2), none] [] σ from h))
set_option maxRecDepth 100000 in
theorem rg_X11_sheet_33 {G : zGT} {d : Nat} {Φ : Int32 → zMem → Prop} {σ : zMem} {v1 v2 v3 : Int32}
  (h : if v2 ≤ v3 then (Φ v2 σ) else (vp_in ((v1 * (24 : Int32)) + v3) 48 ∧ ∀ s1 : zMem, s1 = zwr σ 70 ((v1 * (24 : Int32)) + v3).toNatClampNeg (0 : Int32).toInt8.toInt32 → (WJ G M_X11_sheet (d + 1) (RI Φ) 33 [some (.inr (.inr 0)), some (.inl v1), some (.inl v2), some (.inl (v3 + 1))] [] s1))) :
  WJ G M_X11_sheet (d + 1) (RI Φ) 33 [some (.inr (.inr 0)), some (.inl v1), some (.inl v2), some (.inl v3)] [] σ :=
  ZP_ok ok_X11_sheet 18 33 _ _ _ (show ZP G M_X11_sheet (d + 1) (RI Φ) sp_X11_sheet 18 33 [some (.inr (.inr 0)), some (.inl v1), some (.inl v2), some (.inl v3)] [] σ from h)
def sp_X11_mark : List (Nat × List Bool) := []
set_option maxRecDepth 100000 in
theorem en_X11_mark {G : zGT} {d : Nat} {Φ : Int32 → zMem → Prop} {σ : zMem} {v1 v2 v3 : Int32}
  (h : CTI G d Y_X11_isSheet [.inl v1] σ (fun (r2 : Int32) (s1 : zMem) => if r2 = 0 then (Φ (-1000000001 : Int32) s1) else (vp_in v1 2 ∧ (if 0 ≤ (s1 71 v1.toNatClampNeg) then (if v2 < 0 then (Φ (-1000000013 : Int32) s1) else (vp_in v1 2 ∧ (if v2 < (s1 71 v1.toNatClampNeg) then (vp_in ((v1 * (24 : Int32)) + v2) 48 ∧ (vp_in ((v1 * (24 : Int32)) + v2) 48 ∧ ∀ s3 : zMem, s3 = zwr s1 70 ((v1 * (24 : Int32)) + v2).toNatClampNeg v3.toInt8.toInt32.toInt8.toInt32 → (Φ (s1 70 ((v1 * (24 : Int32)) + v2).toNatClampNeg) s3))) else (Φ (-1000000013 : Int32) s1)))) else (Φ (-1000000011 : Int32) s1))))) :
  CTI G (d + 1) Y_X11_mark [.inr (.inr 0), .inl v1, .inl v2, .inl v3] σ Φ :=
  CT_of (M := M_X11_mark) rfl (Nat.le_of_ble_eq_true rfl) (Or.inr (Or.inl rfl)) (ZP_ok ok_X11_mark 41 0 _ _ _ (show ZP G M_X11_mark (d + 1) (RI Φ) sp_X11_mark 41 0 [some (.inr (.inr 0)), some (.inl v1), some (.inl v2), some (.inl v3), none] [] σ from h))
def sp_X11_copy : List (Nat × List Bool) := [(86, [true, false, false, false, false, true, true, true, true, false])]
set_option maxRecDepth 100000 in
theorem en_X11_copy {G : zGT} {d : Nat} {Φ : Int32 → zMem → Prop} {σ : zMem} {v1 v2 v3 v4 v5 : Int32}
  (h : CTI G d Y_X11_isSheet [.inl v1] σ (fun (r2 : Int32) (s1 : zMem) => if r2 = 0 then (Φ (-1000000001 : Int32) s1) else (CTI G d Y_X11_isSheet [.inl v3] s1 (fun (r4 : Int32) (s3 : zMem) => if r4 = 0 then (Φ (-1000000001 : Int32) s3) else (vp_in v1 2 ∧ (if (s3 71 v1.toNatClampNeg) < 0 then (Φ (-1000000011 : Int32) s3) else (vp_in v3 2 ∧ (if 0 ≤ (s3 71 v3.toNatClampNeg) then (CTI G d Y_X11_hasPlaces [.inr (.inr 0), .inl v1, .inl v2, .inl v5] s3 (fun (r6 : Int32) (s5 : zMem) => if r6 = 0 then (Φ (-1000000013 : Int32) s5) else (CTI G d Y_X11_hasPlaces [.inr (.inr 0), .inl v3, .inl v4, .inl v5] s5 (fun (r8 : Int32) (s7 : zMem) => if r8 = 0 then (Φ (-1000000013 : Int32) s7) else (WJ G M_X11_copy (d + 1) (RI Φ) 86 [some (.inr (.inr 0)), none, none, none, none, some (.inl v5), some (.inl ((v1 * (24 : Int32)) + v2)), some (.inl ((v3 * (24 : Int32)) + v4)), some (.inl (0 : Int32)), none] [] s7))))) else (Φ (-1000000011 : Int32) s3))))))))) :
  CTI G (d + 1) Y_X11_copy [.inr (.inr 0), .inl v1, .inl v2, .inl v3, .inl v4, .inl v5] σ Φ :=
  CT_of (M := M_X11_copy) rfl (Nat.le_of_ble_eq_true rfl) (Or.inr (Or.inl rfl)) (ZP_ok ok_X11_copy 46 0 _ _ _ (show ZP G M_X11_copy (d + 1) (RI Φ) sp_X11_copy 46 0 [some (.inr (.inr 0)), some (.inl v1), some (.inl v2), some (.inl v3), some (.inl v4), some (.inl v5), none, none, none, none] [] σ from h))
set_option maxRecDepth 100000 in
theorem rg_X11_copy_86 {G : zGT} {d : Nat} {Φ : Int32 → zMem → Prop} {σ : zMem} {v5 v6 v7 v8 : Int32}
  (h : if v5 ≤ v8 then (Φ v5 σ) else (if v6 < v7 then (vp_in (v6 + ((v5 - (1 : Int32)) - v8)) 48 ∧ (vp_in (v7 + ((v5 - (1 : Int32)) - v8)) 48 ∧ ∀ s1 : zMem, s1 = zwr σ 70 (v7 + ((v5 - (1 : Int32)) - v8)).toNatClampNeg (σ 70 (v6 + ((v5 - (1 : Int32)) - v8)).toNatClampNeg).toInt8.toInt32 → (WJ G M_X11_copy (d + 1) (RI Φ) 86 [some (.inr (.inr 0)), none, none, none, none, some (.inl v5), some (.inl v6), some (.inl v7), some (.inl (v8 + 1)), none] [] s1))) else (vp_in (v6 + v8) 48 ∧ (vp_in (v7 + v8) 48 ∧ ∀ s2 : zMem, s2 = zwr σ 70 (v7 + v8).toNatClampNeg (σ 70 (v6 + v8).toNatClampNeg).toInt8.toInt32 → (WJ G M_X11_copy (d + 1) (RI Φ) 86 [some (.inr (.inr 0)), none, none, none, none, some (.inl v5), some (.inl v6), some (.inl v7), some (.inl (v8 + 1)), none] [] s2))))) :
  WJ G M_X11_copy (d + 1) (RI Φ) 86 [some (.inr (.inr 0)), none, none, none, none, some (.inl v5), some (.inl v6), some (.inl v7), some (.inl v8), none] [] σ :=
  ZP_ok ok_X11_copy 30 86 _ _ _ (show ZP G M_X11_copy (d + 1) (RI Φ) sp_X11_copy 30 86 [some (.inr (.inr 0)), none, none, none, none, some (.inl v5), some (.inl v6), some (.inl v7), some (.inl v8), none] [] σ from h)
def sp_X11_count : List (Nat × List Bool) := []
set_option maxRecDepth 100000 in
theorem en_X11_count {G : zGT} {d : Nat} {Φ : Int32 → zMem → Prop} {σ : zMem} {v1 : Int32}
  (h : if v1 = (0 : Int32) then (Φ (σ 0 15) σ) else if v1 = (1 : Int32) then (Φ (σ 14 5) σ) else if v1 = (2 : Int32) then (Φ (σ 1 6) σ) else if v1 = (3 : Int32) then (Φ (σ 0 16) σ) else if v1 = (4 : Int32) then (Φ (σ 0 13) σ) else if v1 = (5 : Int32) then (Φ (σ 46 1) σ) else if v1 = (6 : Int32) then (Φ (σ 55 7) σ) else if v1 = (7 : Int32) then (CTI G d Y_X11_claimsInNoClass [.inr (.inr 0)] σ (fun (r2 : Int32) (s1 : zMem) => Φ r2 s1)) else if v1 = (8 : Int32) then (Φ (σ 55 6) σ) else (Φ (-1000000001 : Int32) σ)) :
  CTI G (d + 1) Y_X11_count [.inr (.inr 0), .inl v1] σ Φ :=
  CT_of (M := M_X11_count) rfl (Nat.le_of_ble_eq_true rfl) (Or.inr (Or.inl rfl)) (ZP_ok ok_X11_count 10 0 _ _ _ (show ZP G M_X11_count (d + 1) (RI Φ) sp_X11_count 10 0 [some (.inr (.inr 0)), some (.inl v1)] [] σ from h))
def sp_X11_truth : List (Nat × List Bool) := []
set_option maxRecDepth 100000 in
theorem en_X11_truth {G : zGT} {d : Nat} {Φ : Int32 → zMem → Prop} {σ : zMem} {v0 : Int32}
  (h : if v0 = 0 then (Φ (0 : Int32) σ) else (Φ (1 : Int32) σ)) :
  CTI G d Y_X11_truth [.inl v0] σ Φ :=
  CT_of (M := M_X11_truth) rfl (Nat.le_of_ble_eq_true rfl) (Or.inr (Or.inl rfl)) (ZP_ok ok_X11_truth 9 0 _ _ _ (show ZP G M_X11_truth d (RI Φ) sp_X11_truth 9 0 [some (.inl v0)] [] σ from h))
def sp_X11_isWithin : List (Nat × List Bool) := []
set_option maxRecDepth 100000 in
theorem en_X11_isWithin {G : zGT} {d : Nat} {Φ : Int32 → zMem → Prop} {σ : zMem} {v0 v1 : Int32}
  (h : if v0 < 0 then (Φ (0 : Int32) σ) else (if v1 < v0 then (Φ (0 : Int32) σ) else (Φ (1 : Int32) σ))) :
  CTI G d Y_X11_isWithin [.inl v0, .inl v1] σ Φ :=
  CT_of (M := M_X11_isWithin) rfl (Nat.le_of_ble_eq_true rfl) (Or.inr (Or.inr (Or.inl rfl))) (ZP_ok ok_X11_isWithin 12 0 _ _ _ (show ZP G M_X11_isWithin d (RI Φ) sp_X11_isWithin 12 0 [some (.inl v0), some (.inl v1)] [] σ from h))
def sp_X11_isSide : List (Nat × List Bool) := []
set_option maxRecDepth 100000 in
theorem en_X11_isSide {G : zGT} {d : Nat} {Φ : Int32 → zMem → Prop} {σ : zMem} {v0 : Int32}
  (h : CTI G d Y_X11_isWithin [.inl v0, .inl (1 : Int32)] σ (fun (r2 : Int32) (s1 : zMem) => if r2 = 0 ∨ r2 = 1 then (Φ r2 s1) else False)) :
  CTI G (d + 1) Y_X11_isSide [.inl v0] σ Φ :=
  CT_of (M := M_X11_isSide) rfl (Nat.le_of_ble_eq_true rfl) (Or.inr (Or.inr (Or.inl rfl))) (ZP_ok ok_X11_isSide 8 0 _ _ _ (show ZP G M_X11_isSide (d + 1) (RI Φ) sp_X11_isSide 8 0 [some (.inl v0)] [] σ from h))
def sp_X11_isClass : List (Nat × List Bool) := []
set_option maxRecDepth 100000 in
theorem en_X11_isClass {G : zGT} {d : Nat} {Φ : Int32 → zMem → Prop} {σ : zMem} {v0 : Int32}
  (h : CTI G d Y_X11_isWithin [.inl v0, .inl (5 : Int32)] σ (fun (r2 : Int32) (s1 : zMem) => if r2 = 0 ∨ r2 = 1 then (Φ r2 s1) else False)) :
  CTI G (d + 1) Y_X11_isClass [.inl v0] σ Φ :=
  CT_of (M := M_X11_isClass) rfl (Nat.le_of_ble_eq_true rfl) (Or.inr (Or.inr (Or.inl rfl))) (ZP_ok ok_X11_isClass 8 0 _ _ _ (show ZP G M_X11_isClass (d + 1) (RI Φ) sp_X11_isClass 8 0 [some (.inl v0)] [] σ from h))
def sp_X11_isPrice : List (Nat × List Bool) := []
set_option maxRecDepth 100000 in
theorem en_X11_isPrice {G : zGT} {d : Nat} {Φ : Int32 → zMem → Prop} {σ : zMem} {v0 : Int32}
  (h : if v0 < (1 : Int32) then (Φ (0 : Int32) σ) else (if (200 : Int32) < v0 then (Φ (0 : Int32) σ) else (Φ (1 : Int32) σ))) :
  CTI G d Y_X11_isPrice [.inl v0] σ Φ :=
  CT_of (M := M_X11_isPrice) rfl (Nat.le_of_ble_eq_true rfl) (Or.inr (Or.inr (Or.inl rfl))) (ZP_ok ok_X11_isPrice 13 0 _ _ _ (show ZP G M_X11_isPrice d (RI Φ) sp_X11_isPrice 13 0 [some (.inl v0)] [] σ from h))
def sp_X11_isSheet : List (Nat × List Bool) := []
set_option maxRecDepth 100000 in
theorem en_X11_isSheet {G : zGT} {d : Nat} {Φ : Int32 → zMem → Prop} {σ : zMem} {v0 : Int32}
  (h : CTI G d Y_X11_isWithin [.inl v0, .inl (1 : Int32)] σ (fun (r2 : Int32) (s1 : zMem) => if r2 = 0 ∨ r2 = 1 then (Φ r2 s1) else False)) :
  CTI G (d + 1) Y_X11_isSheet [.inl v0] σ Φ :=
  CT_of (M := M_X11_isSheet) rfl (Nat.le_of_ble_eq_true rfl) (Or.inr (Or.inr (Or.inl rfl))) (ZP_ok ok_X11_isSheet 8 0 _ _ _ (show ZP G M_X11_isSheet (d + 1) (RI Φ) sp_X11_isSheet 8 0 [some (.inl v0)] [] σ from h))
def sp_X11_isAmong : List (Nat × List Bool) := [(2, [true, true, true])]
set_option maxRecDepth 100000 in
theorem en_X11_isAmong_i1000 {G : zGT} {d : Nat} {Φ : Int32 → zMem → Prop} {σ : zMem} {v1 : Int32}
  (h : WJ G M_X11_isAmong (d + 1) (RI Φ) 2 [some (.inr (.inr 1000)), some (.inl v1), some (.inl (0 : Int32))] [] σ) :
  CTI G (d + 1) Y_X11_isAmong [.inr (.inr 1000), .inl v1] σ Φ :=
  CT_of (M := M_X11_isAmong) rfl (Nat.le_of_ble_eq_true rfl) (Or.inr (Or.inr (Or.inl rfl))) (ZP_ok ok_X11_isAmong 6 0 _ _ _ (show ZP G M_X11_isAmong (d + 1) (RI Φ) sp_X11_isAmong 6 0 [some (.inr (.inr 1000)), some (.inl v1), none] [] σ from h))
set_option maxRecDepth 100000 in
theorem rg_X11_isAmong_i1000_2 {G : zGT} {d : Nat} {Φ : Int32 → zMem → Prop} {σ : zMem} {v1 v2 : Int32}
  (h : CTI G d Y_J0_length_8abf5 [.inr (.inr 1000)] σ (fun (r2 : Int32) (s1 : zMem) => if r2 ≤ v2 then (Φ (0 : Int32) s1) else (CTI G d Y_J0_charAt_5068e [.inr (.inr 1000), .inl v2] s1 (fun (r4 : Int32) (s3 : zMem) => if r4 = v1 then (Φ (1 : Int32) s3) else (WJ G M_X11_isAmong (d + 1) (RI Φ) 2 [some (.inr (.inr 1000)), some (.inl v1), some (.inl (v2 + 1))] [] s3))))) :
  WJ G M_X11_isAmong (d + 1) (RI Φ) 2 [some (.inr (.inr 1000)), some (.inl v1), some (.inl v2)] [] σ :=
  ZP_ok ok_X11_isAmong 15 2 _ _ _ (show ZP G M_X11_isAmong (d + 1) (RI Φ) sp_X11_isAmong 15 2 [some (.inr (.inr 1000)), some (.inl v1), some (.inl v2)] [] σ from h)
set_option maxRecDepth 100000 in
theorem en_X11_isAmong_i1001 {G : zGT} {d : Nat} {Φ : Int32 → zMem → Prop} {σ : zMem} {v1 : Int32}
  (h : WJ G M_X11_isAmong (d + 1) (RI Φ) 2 [some (.inr (.inr 1001)), some (.inl v1), some (.inl (0 : Int32))] [] σ) :
  CTI G (d + 1) Y_X11_isAmong [.inr (.inr 1001), .inl v1] σ Φ :=
  CT_of (M := M_X11_isAmong) rfl (Nat.le_of_ble_eq_true rfl) (Or.inr (Or.inr (Or.inl rfl))) (ZP_ok ok_X11_isAmong 6 0 _ _ _ (show ZP G M_X11_isAmong (d + 1) (RI Φ) sp_X11_isAmong 6 0 [some (.inr (.inr 1001)), some (.inl v1), none] [] σ from h))
set_option maxRecDepth 100000 in
theorem rg_X11_isAmong_i1001_2 {G : zGT} {d : Nat} {Φ : Int32 → zMem → Prop} {σ : zMem} {v1 v2 : Int32}
  (h : CTI G d Y_J0_length_8abf5 [.inr (.inr 1001)] σ (fun (r2 : Int32) (s1 : zMem) => if r2 ≤ v2 then (Φ (0 : Int32) s1) else (CTI G d Y_J0_charAt_5068e [.inr (.inr 1001), .inl v2] s1 (fun (r4 : Int32) (s3 : zMem) => if r4 = v1 then (Φ (1 : Int32) s3) else (WJ G M_X11_isAmong (d + 1) (RI Φ) 2 [some (.inr (.inr 1001)), some (.inl v1), some (.inl (v2 + 1))] [] s3))))) :
  WJ G M_X11_isAmong (d + 1) (RI Φ) 2 [some (.inr (.inr 1001)), some (.inl v1), some (.inl v2)] [] σ :=
  ZP_ok ok_X11_isAmong 15 2 _ _ _ (show ZP G M_X11_isAmong (d + 1) (RI Φ) sp_X11_isAmong 15 2 [some (.inr (.inr 1001)), some (.inl v1), some (.inl v2)] [] σ from h)
def sp_X11_isFirm : List (Nat × List Bool) := []
set_option maxRecDepth 100000 in
theorem en_X11_isFirm {G : zGT} {d : Nat} {Φ : Int32 → zMem → Prop} {σ : zMem} {v1 : Int32}
  (h : if v1 < 0 then (Φ (0 : Int32) σ) else (if (σ 0 15) ≤ v1 then (Φ (0 : Int32) σ) else (Φ (1 : Int32) σ))) :
  CTI G d Y_X11_isFirm [.inr (.inr 0), .inl v1] σ Φ :=
  CT_of (M := M_X11_isFirm) rfl (Nat.le_of_ble_eq_true rfl) (Or.inr (Or.inr (Or.inl rfl))) (ZP_ok ok_X11_isFirm 13 0 _ _ _ (show ZP G M_X11_isFirm d (RI Φ) sp_X11_isFirm 13 0 [some (.inr (.inr 0)), some (.inl v1)] [] σ from h))
def sp_X11_mayHold : List (Nat × List Bool) := []
set_option maxRecDepth 100000 in
theorem en_X11_mayHold {G : zGT} {d : Nat} {Φ : Int32 → zMem → Prop} {σ : zMem} {v1 v2 : Int32}
  (h : CTI G d Y_X11_isWithin [.inl v1, .inl (9 : Int32)] σ (fun (r2 : Int32) (s1 : zMem) => if r2 = 0 then (if v1 < (10 : Int32) then (Φ (0 : Int32) s1) else (CTI G d Y_X11_isFirm [.inr (.inr 0), .inl (v1 - (10 : Int32))] s1 (fun (r4 : Int32) (s3 : zMem) => if r4 = 0 then (Φ (0 : Int32) s3) else (if (v1 - (10 : Int32)) = v2 then (Φ (0 : Int32) s3) else (Φ (1 : Int32) s3))))) else (Φ (1 : Int32) s1))) :
  CTI G (d + 1) Y_X11_mayHold [.inr (.inr 0), .inl v1, .inl v2] σ Φ :=
  CT_of (M := M_X11_mayHold) rfl (Nat.le_of_ble_eq_true rfl) (Or.inr (Or.inr (Or.inl rfl))) (ZP_ok ok_X11_mayHold 25 0 _ _ _ (show ZP G M_X11_mayHold (d + 1) (RI Φ) sp_X11_mayHold 25 0 [some (.inr (.inr 0)), some (.inl v1), some (.inl v2)] [] σ from h))
def sp_X11_hasPlaces : List (Nat × List Bool) := []
set_option maxRecDepth 100000 in
theorem en_X11_hasPlaces {G : zGT} {d : Nat} {Φ : Int32 → zMem → Prop} {σ : zMem} {v1 v2 v3 : Int32}
  (h : if v3 < 0 then (Φ (0 : Int32) σ) else (if v2 < 0 then (Φ (0 : Int32) σ) else (vp_in v1 2 ∧ (if (σ 71 v1.toNatClampNeg) < v2 then (Φ (0 : Int32) σ) else (vp_in v1 2 ∧ (if ((σ 71 v1.toNatClampNeg) - v2) < v3 then (Φ (0 : Int32) σ) else (Φ (1 : Int32) σ))))))) :
  CTI G d Y_X11_hasPlaces [.inr (.inr 0), .inl v1, .inl v2, .inl v3] σ Φ :=
  CT_of (M := M_X11_hasPlaces) rfl (Nat.le_of_ble_eq_true rfl) (Or.inr (Or.inr (Or.inl rfl))) (ZP_ok ok_X11_hasPlaces 25 0 _ _ _ (show ZP G M_X11_hasPlaces d (RI Φ) sp_X11_hasPlaces 25 0 [some (.inr (.inr 0)), some (.inl v1), some (.inl v2), some (.inl v3)] [] σ from h))
def sp_X11_changed : List (Nat × List Bool) := []
set_option maxRecDepth 100000 in
theorem en_X11_changed {G : zGT} {d : Nat} {Φ : zMem → Prop} {σ : zMem}
  (h : ∀ s1 : zMem, s1 = zwr σ 20 11 (0 : Int32) → (∀ s2 : zMem, s2 = zwr s1 27 11 (0 : Int32) → (Φ s2))) :
  CTV G d Y_X11_changed [.inr (.inr 0)] σ Φ :=
  CT_of (M := M_X11_changed) rfl (Nat.le_of_ble_eq_true rfl) (Or.inl rfl) (ZP_ok ok_X11_changed 13 0 _ _ _ (show ZP G M_X11_changed d (RV Φ) sp_X11_changed 13 0 [some (.inr (.inr 0))] [] σ from h))
def sp_X11_wound : List (Nat × List Bool) := []
set_option maxRecDepth 100000 in
theorem en_X11_wound {G : zGT} {d : Nat} {Φ : Nat → zMem → Prop} {σ : zMem} {v1 : Int32}
  (h : if v1 = 0 then (if (σ 20 11) = 0 then (CTV G d Y_X10_windUp [.inr (.inr 20), .inl (σ 0 15), .inl (σ 0 16)] σ (fun (s1 : zMem) => Φ 20 s1)) else (Φ 20 σ)) else (if (σ 27 11) = 0 then (CTV G d Y_X10_windUp [.inr (.inr 27), .inl (σ 0 15), .inl (σ 0 16)] σ (fun (s2 : zMem) => Φ 27 s2)) else (Φ 27 σ))) :
  CTR G (d + 1) Y_X11_wound [.inr (.inr 0), .inl v1] σ Φ :=
  CT_of (M := M_X11_wound) rfl (Nat.le_of_ble_eq_true rfl) (Or.inr (Or.inr (Or.inr (Or.inr (Or.inr ⟨_, rfl⟩))))) (ZP_ok ok_X11_wound 21 0 _ _ _ (show ZP G M_X11_wound (d + 1) (RR Φ) sp_X11_wound 21 0 [some (.inr (.inr 0)), some (.inl v1), none] [] σ from h))
def sp_X11_firstWrong : List (Nat × List Bool) := [(2, [true, true, true, true, false])]
set_option maxRecDepth 100000 in
theorem en_X11_firstWrong_i0_20 {G : zGT} {d : Nat} {Φ : Int32 → zMem → Prop} {σ : zMem} {v2 : Int32}
  (h : WJ G M_X11_firstWrong (d + 1) (RI Φ) 2 [some (.inr (.inr 0)), some (.inr (.inr 20)), some (.inl v2), some (.inl (0 : Int32)), none] [] σ) :
  CTI G (d + 1) Y_X11_firstWrong [.inr (.inr 0), .inr (.inr 20), .inl v2] σ Φ :=
  CT_of (M := M_X11_firstWrong) rfl (Nat.le_of_ble_eq_true rfl) (Or.inr (Or.inl rfl)) (ZP_ok ok_X11_firstWrong 6 0 _ _ _ (show ZP G M_X11_firstWrong (d + 1) (RI Φ) sp_X11_firstWrong 6 0 [some (.inr (.inr 0)), some (.inr (.inr 20)), some (.inl v2), none, none] [] σ from h))
set_option maxRecDepth 100000 in
theorem rg_X11_firstWrong_i0_20_2 {G : zGT} {d : Nat} {Φ : Int32 → zMem → Prop} {σ : zMem} {v2 v3 : Int32}
  (h : if v2 ≤ v3 then (if v2 = ((σ 20 10) * (4 : Int32)) then (Φ (0 : Int32) σ) else (Φ ((1 : Int32) + v2) σ)) else (¬ (4 : Int32) = 0 ∧ (if (σ 20 10) ≤ (v3 / (4 : Int32)) then (Φ ((1 : Int32) + v3) σ) else (¬ (4 : Int32) = 0 ∧ (CTI G d Y_X10_rowPart [.inr (.inr 20), .inl (v3 / (4 : Int32)), .inl (v3 - v3 / (4 : Int32) * (4 : Int32))] σ (fun (r2 : Int32) (s1 : zMem) => vp_in v3 200 ∧ (if r2 = (s1 69 v3.toNatClampNeg) then (WJ G M_X11_firstWrong (d + 1) (RI Φ) 2 [some (.inr (.inr 0)), some (.inr (.inr 20)), some (.inl v2), some (.inl (v3 + 1)), none] [] s1) else (Φ ((1 : Int32) + v3) s1)))))))) :
  WJ G M_X11_firstWrong (d + 1) (RI Φ) 2 [some (.inr (.inr 0)), some (.inr (.inr 20)), some (.inl v2), some (.inl v3), none] [] σ :=
  ZP_ok ok_X11_firstWrong 30 2 _ _ _ (show ZP G M_X11_firstWrong (d + 1) (RI Φ) sp_X11_firstWrong 30 2 [some (.inr (.inr 0)), some (.inr (.inr 20)), some (.inl v2), some (.inl v3), none] [] σ from h)
set_option maxRecDepth 100000 in
theorem en_X11_firstWrong_i0_27 {G : zGT} {d : Nat} {Φ : Int32 → zMem → Prop} {σ : zMem} {v2 : Int32}
  (h : WJ G M_X11_firstWrong (d + 1) (RI Φ) 2 [some (.inr (.inr 0)), some (.inr (.inr 27)), some (.inl v2), some (.inl (0 : Int32)), none] [] σ) :
  CTI G (d + 1) Y_X11_firstWrong [.inr (.inr 0), .inr (.inr 27), .inl v2] σ Φ :=
  CT_of (M := M_X11_firstWrong) rfl (Nat.le_of_ble_eq_true rfl) (Or.inr (Or.inl rfl)) (ZP_ok ok_X11_firstWrong 6 0 _ _ _ (show ZP G M_X11_firstWrong (d + 1) (RI Φ) sp_X11_firstWrong 6 0 [some (.inr (.inr 0)), some (.inr (.inr 27)), some (.inl v2), none, none] [] σ from h))
set_option maxRecDepth 100000 in
theorem rg_X11_firstWrong_i0_27_2 {G : zGT} {d : Nat} {Φ : Int32 → zMem → Prop} {σ : zMem} {v2 v3 : Int32}
  (h : if v2 ≤ v3 then (if v2 = ((σ 27 10) * (4 : Int32)) then (Φ (0 : Int32) σ) else (Φ ((1 : Int32) + v2) σ)) else (¬ (4 : Int32) = 0 ∧ (if (σ 27 10) ≤ (v3 / (4 : Int32)) then (Φ ((1 : Int32) + v3) σ) else (¬ (4 : Int32) = 0 ∧ (CTI G d Y_X10_rowPart [.inr (.inr 27), .inl (v3 / (4 : Int32)), .inl (v3 - v3 / (4 : Int32) * (4 : Int32))] σ (fun (r2 : Int32) (s1 : zMem) => vp_in v3 200 ∧ (if r2 = (s1 69 v3.toNatClampNeg) then (WJ G M_X11_firstWrong (d + 1) (RI Φ) 2 [some (.inr (.inr 0)), some (.inr (.inr 27)), some (.inl v2), some (.inl (v3 + 1)), none] [] s1) else (Φ ((1 : Int32) + v3) s1)))))))) :
  WJ G M_X11_firstWrong (d + 1) (RI Φ) 2 [some (.inr (.inr 0)), some (.inr (.inr 27)), some (.inl v2), some (.inl v3), none] [] σ :=
  ZP_ok ok_X11_firstWrong 30 2 _ _ _ (show ZP G M_X11_firstWrong (d + 1) (RI Φ) sp_X11_firstWrong 30 2 [some (.inr (.inr 0)), some (.inr (.inr 27)), some (.inl v2), some (.inl v3), none] [] σ from h)
def sp_X11_claimsInNoClass : List (Nat × List Bool) := [(4, [true, true, true])]
set_option maxRecDepth 100000 in
theorem en_X11_claimsInNoClass {G : zGT} {d : Nat} {Φ : Int32 → zMem → Prop} {σ : zMem}
  (h : WJ G M_X11_claimsInNoClass (d + 1) (RI Φ) 4 [some (.inr (.inr 0)), some (.inl (0 : Int32)), some (.inl (0 : Int32))] [] σ) :
  CTI G (d + 1) Y_X11_claimsInNoClass [.inr (.inr 0)] σ Φ :=
  CT_of (M := M_X11_claimsInNoClass) rfl (Nat.le_of_ble_eq_true rfl) (Or.inr (Or.inl rfl)) (ZP_ok ok_X11_claimsInNoClass 8 0 _ _ _ (show ZP G M_X11_claimsInNoClass (d + 1) (RI Φ) sp_X11_claimsInNoClass 8 0 [some (.inr (.inr 0)), none, none] [] σ from h))
set_option maxRecDepth 100000 in
theorem rg_X11_claimsInNoClass_4 {G : zGT} {d : Nat} {Φ : Int32 → zMem → Prop} {σ : zMem} {v1 v2 : Int32}
  (h : if (σ 1 6) ≤ v2 then (Φ v1 σ) else (vp_in v2 24 ∧ (if (σ 35 v2.toNatClampNeg) = (-1000000005 : Int32) then (CTI G d Y_X11_truth [.inl (1 : Int32)] σ (fun (r2 : Int32) (s1 : zMem) => WJ G M_X11_claimsInNoClass (d + 1) (RI Φ) 4 [some (.inr (.inr 0)), some (.inl (v1 + r2)), some (.inl (v2 + 1))] [] s1)) else (CTI G d Y_X11_truth [.inl (0 : Int32)] σ (fun (r4 : Int32) (s3 : zMem) => WJ G M_X11_claimsInNoClass (d + 1) (RI Φ) 4 [some (.inr (.inr 0)), some (.inl (v1 + r4)), some (.inl (v2 + 1))] [] s3))))) :
  WJ G M_X11_claimsInNoClass (d + 1) (RI Φ) 4 [some (.inr (.inr 0)), some (.inl v1), some (.inl v2)] [] σ :=
  ZP_ok ok_X11_claimsInNoClass 24 4 _ _ _ (show ZP G M_X11_claimsInNoClass (d + 1) (RI Φ) sp_X11_claimsInNoClass 24 4 [some (.inr (.inr 0)), some (.inl v1), some (.inl v2)] [] σ from h)
def sp_X11_firstQuarrel : List (Nat × List Bool) := [(2, [true, true, true, false]), (17, [true, true, true, true])]
set_option maxRecDepth 100000 in
theorem en_X11_firstQuarrel {G : zGT} {d : Nat} {Φ : Int32 → zMem → Prop} {σ : zMem} {v1 : Int32}
  (h : WJ G M_X11_firstQuarrel (d + 1) (RI Φ) 2 [some (.inr (.inr 0)), some (.inl v1), some (.inl (0 : Int32)), none] [] σ) :
  CTI G (d + 1) Y_X11_firstQuarrel [.inr (.inr 0), .inl v1] σ Φ :=
  CT_of (M := M_X11_firstQuarrel) rfl (Nat.le_of_ble_eq_true rfl) (Or.inr (Or.inl rfl)) (ZP_ok ok_X11_firstQuarrel 6 0 _ _ _ (show ZP G M_X11_firstQuarrel (d + 1) (RI Φ) sp_X11_firstQuarrel 6 0 [some (.inr (.inr 0)), some (.inl v1), none, none] [] σ from h))
set_option maxRecDepth 100000 in
theorem rg_X11_firstQuarrel_2 {G : zGT} {d : Nat} {Φ : Int32 → zMem → Prop} {σ : zMem} {v1 v2 : Int32}
  (h : if (σ 1 6) ≤ v2 then (Φ (-1000000005 : Int32) σ) else (WJ G M_X11_firstQuarrel (d + 1) (RI Φ) 17 [some (.inr (.inr 0)), some (.inl v1), some (.inl v2), some (.inl (v2 + (1 : Int32)))] [] σ)) :
  WJ G M_X11_firstQuarrel (d + 1) (RI Φ) 2 [some (.inr (.inr 0)), some (.inl v1), some (.inl v2), none] [] σ :=
  ZP_ok ok_X11_firstQuarrel 13 2 _ _ _ (show ZP G M_X11_firstQuarrel (d + 1) (RI Φ) sp_X11_firstQuarrel 13 2 [some (.inr (.inr 0)), some (.inl v1), some (.inl v2), none] [] σ from h)
set_option maxRecDepth 100000 in
theorem rg_X11_firstQuarrel_17 {G : zGT} {d : Nat} {Φ : Int32 → zMem → Prop} {σ : zMem} {v1 v2 v3 : Int32}
  (h : if (σ 1 6) ≤ v3 then (WJ G M_X11_firstQuarrel (d + 1) (RI Φ) 2 [some (.inr (.inr 0)), some (.inl v1), some (.inl (v2 + 1)), none] [] σ) else (vp_in v2 24 ∧ (if (σ 35 v2.toNatClampNeg) = v1 then (vp_in v3 24 ∧ (if (σ 35 v3.toNatClampNeg) = v1 then (CTI G d Y_X11_areAlike [.inr (.inr 0), .inl v2, .inl v3] σ (fun (r2 : Int32) (s1 : zMem) => if r2 = 0 then (Φ (((100 : Int32) * v2) + v3) s1) else (WJ G M_X11_firstQuarrel (d + 1) (RI Φ) 17 [some (.inr (.inr 0)), some (.inl v1), some (.inl v2), some (.inl (v3 + 1))] [] s1))) else (WJ G M_X11_firstQuarrel (d + 1) (RI Φ) 17 [some (.inr (.inr 0)), some (.inl v1), some (.inl v2), some (.inl (v3 + 1))] [] σ))) else (WJ G M_X11_firstQuarrel (d + 1) (RI Φ) 17 [some (.inr (.inr 0)), some (.inl v1), some (.inl v2), some (.inl (v3 + 1))] [] σ)))) :
  WJ G M_X11_firstQuarrel (d + 1) (RI Φ) 17 [some (.inr (.inr 0)), some (.inl v1), some (.inl v2), some (.inl v3)] [] σ :=
  ZP_ok ok_X11_firstQuarrel 34 17 _ _ _ (show ZP G M_X11_firstQuarrel (d + 1) (RI Φ) sp_X11_firstQuarrel 34 17 [some (.inr (.inr 0)), some (.inl v1), some (.inl v2), some (.inl v3)] [] σ from h)
def sp_X11_areAlike : List (Nat × List Bool) := []
set_option maxRecDepth 100000 in
theorem en_X11_areAlike {G : zGT} {d : Nat} {Φ : Int32 → zMem → Prop} {σ : zMem} {v1 v2 : Int32}
  (h : vp_in v1 24 ∧ (vp_in v2 24 ∧ (if (σ 3 v1.toNatClampNeg) = (σ 3 v2.toNatClampNeg) then (vp_in v1 24 ∧ (vp_in v2 24 ∧ (if (σ 2 v1.toNatClampNeg) = (σ 2 v2.toNatClampNeg) then (vp_in v1 24 ∧ (if (σ 2 v1.toNatClampNeg) = (1 : Int32) then (CTI G d Y_X0_haveSameCharged [.inr (.inr 14), .inl v1, .inl v2] σ (fun (r2 : Int32) (s1 : zMem) => if r2 = 0 then (Φ (0 : Int32) s1) else (Φ (1 : Int32) s1))) else (Φ (1 : Int32) σ))) else (Φ (0 : Int32) σ)))) else (Φ (0 : Int32) σ)))) :
  CTI G (d + 1) Y_X11_areAlike [.inr (.inr 0), .inl v1, .inl v2] σ Φ :=
  CT_of (M := M_X11_areAlike) rfl (Nat.le_of_ble_eq_true rfl) (Or.inr (Or.inr (Or.inl rfl))) (ZP_ok ok_X11_areAlike 42 0 _ _ _ (show ZP G M_X11_areAlike (d + 1) (RI Φ) sp_X11_areAlike 42 0 [some (.inr (.inr 0)), some (.inl v1), some (.inl v2)] [] σ from h))
def sp_X11_worthOf : List (Nat × List Bool) := []
set_option maxRecDepth 100000 in
theorem en_X11_worthOf {G : zGT} {d : Nat} {Φ : Int32 → zMem → Prop} {σ : zMem} {v1 : Int32}
  (h : vp_in v1 24 ∧ (CTI G d Y_X11_isClass [.inl (σ 35 v1.toNatClampNeg)] σ (fun (r2 : Int32) (s1 : zMem) => if r2 = 0 then (Φ (0 : Int32) s1) else (CTI G d Y_X1_amountOn [.inr (.inr 1), .inl v1, .inl (s1 0 16)] s1 (fun (r4 : Int32) (s3 : zMem) => vp_in (σ 35 v1.toNatClampNeg) 6 ∧ (¬ (100 : Int32) = 0 ∧ (vp_in (σ 35 v1.toNatClampNeg) 6 ∧ (¬ (100 : Int32) = 0 ∧ (vp_in (σ 35 v1.toNatClampNeg) 6 ∧ (¬ (1200 : Int32) = 0 ∧ (Φ (((r4 * (s3 37 (σ 35 v1.toNatClampNeg).toNatClampNeg)) / (100 : Int32)) + ((((r4 * (s3 38 (σ 35 v1.toNatClampNeg).toNatClampNeg)) / (100 : Int32)) * ((1200 : Int32) - ((s3 0 17) * (s3 39 (σ 35 v1.toNatClampNeg).toNatClampNeg)))) / (1200 : Int32))) s3))))))))))) :
  CTI G (d + 1) Y_X11_worthOf [.inr (.inr 0), .inl v1] σ Φ :=
  CT_of (M := M_X11_worthOf) rfl (Nat.le_of_ble_eq_true rfl) (Or.inr (Or.inl rfl)) (ZP_ok ok_X11_worthOf 57 0 _ _ _ (show ZP G M_X11_worthOf (d + 1) (RI Φ) sp_X11_worthOf 57 0 [some (.inr (.inr 0)), some (.inl v1), none, none, none, none] [] σ from h))
def sp_X11_isWorse : List (Nat × List Bool) := [(2, [true, true, true, true])]
set_option maxRecDepth 100000 in
theorem en_X11_isWorse_i0_20 {G : zGT} {d : Nat} {Φ : Int32 → zMem → Prop} {σ : zMem} {v1 : Int32}
  (h : WJ G M_X11_isWorse (d + 1) (RI Φ) 2 [some (.inr (.inr 0)), some (.inl v1), some (.inr (.inr 20)), some (.inl (0 : Int32))] [] σ) :
  CTI G (d + 1) Y_X11_isWorse [.inr (.inr 0), .inl v1, .inr (.inr 20)] σ Φ :=
  CT_of (M := M_X11_isWorse) rfl (Nat.le_of_ble_eq_true rfl) (Or.inr (Or.inr (Or.inl rfl))) (ZP_ok ok_X11_isWorse 6 0 _ _ _ (show ZP G M_X11_isWorse (d + 1) (RI Φ) sp_X11_isWorse 6 0 [some (.inr (.inr 0)), some (.inl v1), some (.inr (.inr 20)), none] [] σ from h))
set_option maxRecDepth 100000 in
theorem rg_X11_isWorse_i0_20_2 {G : zGT} {d : Nat} {Φ : Int32 → zMem → Prop} {σ : zMem} {v1 v3 : Int32}
  (h : if (σ 1 6) ≤ v3 then (Φ (0 : Int32) σ) else (vp_in v3 24 ∧ (if (σ 35 v3.toNatClampNeg) = v1 then (vp_in v3 24 ∧ (CTI G d Y_X11_worthOf [.inr (.inr 0), .inl v3] σ (fun (r2 : Int32) (s1 : zMem) => if (σ 22 v3.toNatClampNeg) ≤ r2 then (WJ G M_X11_isWorse (d + 1) (RI Φ) 2 [some (.inr (.inr 0)), some (.inl v1), some (.inr (.inr 20)), some (.inl (v3 + 1))] [] s1) else (Φ (1 : Int32) s1)))) else (WJ G M_X11_isWorse (d + 1) (RI Φ) 2 [some (.inr (.inr 0)), some (.inl v1), some (.inr (.inr 20)), some (.inl (v3 + 1))] [] σ)))) :
  WJ G M_X11_isWorse (d + 1) (RI Φ) 2 [some (.inr (.inr 0)), some (.inl v1), some (.inr (.inr 20)), some (.inl v3)] [] σ :=
  ZP_ok ok_X11_isWorse 26 2 _ _ _ (show ZP G M_X11_isWorse (d + 1) (RI Φ) sp_X11_isWorse 26 2 [some (.inr (.inr 0)), some (.inl v1), some (.inr (.inr 20)), some (.inl v3)] [] σ from h)
set_option maxRecDepth 100000 in
theorem en_X11_isWorse_i0_27 {G : zGT} {d : Nat} {Φ : Int32 → zMem → Prop} {σ : zMem} {v1 : Int32}
  (h : WJ G M_X11_isWorse (d + 1) (RI Φ) 2 [some (.inr (.inr 0)), some (.inl v1), some (.inr (.inr 27)), some (.inl (0 : Int32))] [] σ) :
  CTI G (d + 1) Y_X11_isWorse [.inr (.inr 0), .inl v1, .inr (.inr 27)] σ Φ :=
  CT_of (M := M_X11_isWorse) rfl (Nat.le_of_ble_eq_true rfl) (Or.inr (Or.inr (Or.inl rfl))) (ZP_ok ok_X11_isWorse 6 0 _ _ _ (show ZP G M_X11_isWorse (d + 1) (RI Φ) sp_X11_isWorse 6 0 [some (.inr (.inr 0)), some (.inl v1), some (.inr (.inr 27)), none] [] σ from h))
set_option maxRecDepth 100000 in
theorem rg_X11_isWorse_i0_27_2 {G : zGT} {d : Nat} {Φ : Int32 → zMem → Prop} {σ : zMem} {v1 v3 : Int32}
  (h : if (σ 1 6) ≤ v3 then (Φ (0 : Int32) σ) else (vp_in v3 24 ∧ (if (σ 35 v3.toNatClampNeg) = v1 then (vp_in v3 24 ∧ (CTI G d Y_X11_worthOf [.inr (.inr 0), .inl v3] σ (fun (r2 : Int32) (s1 : zMem) => if (σ 29 v3.toNatClampNeg) ≤ r2 then (WJ G M_X11_isWorse (d + 1) (RI Φ) 2 [some (.inr (.inr 0)), some (.inl v1), some (.inr (.inr 27)), some (.inl (v3 + 1))] [] s1) else (Φ (1 : Int32) s1)))) else (WJ G M_X11_isWorse (d + 1) (RI Φ) 2 [some (.inr (.inr 0)), some (.inl v1), some (.inr (.inr 27)), some (.inl (v3 + 1))] [] σ)))) :
  WJ G M_X11_isWorse (d + 1) (RI Φ) 2 [some (.inr (.inr 0)), some (.inl v1), some (.inr (.inr 27)), some (.inl v3)] [] σ :=
  ZP_ok ok_X11_isWorse 26 2 _ _ _ (show ZP G M_X11_isWorse (d + 1) (RI Φ) sp_X11_isWorse 26 2 [some (.inr (.inr 0)), some (.inl v1), some (.inr (.inr 27)), some (.inl v3)] [] σ from h)
def sp_X11_bindName : List (Nat × List Bool) := [(4, [true, true, true, true, false]), (105, [true, true, true, true, false]), (120, [true, true, true, true, false])]
set_option maxRecDepth 100000 in
theorem en_X11_bindName {G : zGT} {d : Nat} {Φ : Int32 → zMem → Prop} {σ : zMem} {v1 : Int32}
  (h : WJ G M_X11_bindName (d + 1) (RI Φ) 4 [some (.inr (.inr 0)), some (.inl v1), some (.inl (0 : Int32)), some (.inl (0 : Int32)), none] [] σ) :
  CTI G (d + 1) Y_X11_bindName [.inr (.inr 0), .inl v1] σ Φ :=
  CT_of (M := M_X11_bindName) rfl (Nat.le_of_ble_eq_true rfl) (Or.inr (Or.inl rfl)) (ZP_ok ok_X11_bindName 8 0 _ _ _ (show ZP G M_X11_bindName (d + 1) (RI Φ) sp_X11_bindName 8 0 [some (.inr (.inr 0)), some (.inl v1), none, none, none] [] σ from h))
set_option maxRecDepth 100000 in
theorem rg_X11_bindName_4 {G : zGT} {d : Nat} {Φ : Int32 → zMem → Prop} {σ : zMem} {v1 v2 v3 : Int32}
  (h : if (6 : Int32) ≤ v3 then (if v1 = (115 : Int32) then (Φ (if (1 : Int32) < v2 then (1 : Int32) else v2) σ) else (if v1 = (113 : Int32) then (Φ (if (1 : Int32) < v2 then (1 : Int32) else v2) σ) else (Φ v2 σ))) else (if v1 = (99 : Int32) then (CTI G d Y_X2_hasClaims [.inr (.inr 55), .inl v3] σ (fun (r2 : Int32) (s1 : zMem) => CTI G d Y_X11_truth [.inl r2] s1 (fun (r4 : Int32) (s3 : zMem) => WJ G M_X11_bindName (d + 1) (RI Φ) 4 [some (.inr (.inr 0)), some (.inl v1), some (.inl (v2 + r4)), some (.inl (v3 + 1)), none] [] s3))) else if v1 = (113 : Int32) then (CTI G d Y_X11_firstQuarrel [.inr (.inr 0), .inl v3] σ (fun (r6 : Int32) (s5 : zMem) => if r6 = (-1000000005 : Int32) then (CTI G d Y_X11_truth [.inl (0 : Int32)] s5 (fun (r8 : Int32) (s7 : zMem) => WJ G M_X11_bindName (d + 1) (RI Φ) 4 [some (.inr (.inr 0)), some (.inl v1), some (.inl (v2 + r8)), some (.inl (v3 + 1)), none] [] s7)) else (CTI G d Y_X11_truth [.inl (1 : Int32)] s5 (fun (r10 : Int32) (s9 : zMem) => WJ G M_X11_bindName (d + 1) (RI Φ) 4 [some (.inr (.inr 0)), some (.inl v1), some (.inl (v2 + r10)), some (.inl (v3 + 1)), none] [] s9)))) else if v1 = (115 : Int32) then (CTI G d Y_X2_isSecuredAtFirst [.inr (.inr 55), .inl v3] σ (fun (r12 : Int32) (s11 : zMem) => if r12 = 0 then (CTI G d Y_X11_truth [.inl (0 : Int32)] s11 (fun (r14 : Int32) (s13 : zMem) => WJ G M_X11_bindName (d + 1) (RI Φ) 4 [some (.inr (.inr 0)), some (.inl v1), some (.inl (v2 + r14)), some (.inl (v3 + 1)), none] [] s13)) else (CTI G d Y_X2_classPasses [.inr (.inr 55), .inl v3] s11 (fun (r16 : Int32) (s15 : zMem) => if r16 = 0 then (CTI G d Y_X11_truth [.inl (0 : Int32)] s15 (fun (r18 : Int32) (s17 : zMem) => WJ G M_X11_bindName (d + 1) (RI Φ) 4 [some (.inr (.inr 0)), some (.inl v1), some (.inl (v2 + r18)), some (.inl (v3 + 1)), none] [] s17)) else (CTI G d Y_X11_truth [.inl (1 : Int32)] s15 (fun (r20 : Int32) (s19 : zMem) => WJ G M_X11_bindName (d + 1) (RI Φ) 4 [some (.inr (.inr 0)), some (.inl v1), some (.inl (v2 + r20)), some (.inl (v3 + 1)), none] [] s19)))))) else if v1 = (117 : Int32) then (CTR G d Y_X11_wound [.inr (.inr 0), .inl (1 : Int32)] σ (fun (k22 : Nat) (s21 : zMem) => WJ G M_X11_bindName (d + 1) (RI Φ) 120 [some (.inr (.inr 0)), some (.inl v1), some (.inl v2), some (.inl v3), none] [.inr (.inr k22), .inl v3, .inr (.inr 0)] s21)) else if v1 = (119 : Int32) then (CTR G d Y_X11_wound [.inr (.inr 0), .inl (0 : Int32)] σ (fun (k24 : Nat) (s23 : zMem) => WJ G M_X11_bindName (d + 1) (RI Φ) 105 [some (.inr (.inr 0)), some (.inl v1), some (.inl v2), some (.inl v3), none] [.inr (.inr k24), .inl v3, .inr (.inr 0)] s23)) else if v1 = (121 : Int32) then (CTI G d Y_X2_classPasses [.inr (.inr 55), .inl v3] σ (fun (r26 : Int32) (s25 : zMem) => CTI G d Y_X11_truth [.inl r26] s25 (fun (r28 : Int32) (s27 : zMem) => WJ G M_X11_bindName (d + 1) (RI Φ) 4 [some (.inr (.inr 0)), some (.inl v1), some (.inl (v2 + r28)), some (.inl (v3 + 1)), none] [] s27))) else (CTI G d Y_X11_truth [.inl (0 : Int32)] σ (fun (r30 : Int32) (s29 : zMem) => WJ G M_X11_bindName (d + 1) (RI Φ) 4 [some (.inr (.inr 0)), some (.inl v1), some (.inl (v2 + r30)), some (.inl (v3 + 1)), none] [] s29)))) :
  WJ G M_X11_bindName (d + 1) (RI Φ) 4 [some (.inr (.inr 0)), some (.inl v1), some (.inl v2), some (.inl v3), none] [] σ :=
  ZP_ok ok_X11_bindName 32 4 _ _ _ (show ZP G M_X11_bindName (d + 1) (RI Φ) sp_X11_bindName 32 4 [some (.inr (.inr 0)), some (.inl v1), some (.inl v2), some (.inl v3), none] [] σ from h)
set_option maxRecDepth 100000 in
theorem rg_X11_bindName_105w20 {G : zGT} {d : Nat} {Φ : Int32 → zMem → Prop} {σ : zMem} {v1 v2 v3 t0 : Int32}
  (h : CTI G d Y_X11_isWorse [.inr (.inr 0), .inl t0, .inr (.inr 20)] σ (fun (r2 : Int32) (s1 : zMem) => CTI G d Y_X11_truth [.inl r2] s1 (fun (r4 : Int32) (s3 : zMem) => WJ G M_X11_bindName (d + 1) (RI Φ) 4 [some (.inr (.inr 0)), some (.inl v1), some (.inl (v2 + r4)), some (.inl (v3 + 1)), none] [] s3))) :
  WJ G M_X11_bindName (d + 1) (RI Φ) 105 [some (.inr (.inr 0)), some (.inl v1), some (.inl v2), some (.inl v3), none] [.inr (.inr 20), .inl t0, .inr (.inr 0)] σ :=
  ZP_ok ok_X11_bindName 14 105 _ _ _ (show ZP G M_X11_bindName (d + 1) (RI Φ) sp_X11_bindName 14 105 [some (.inr (.inr 0)), some (.inl v1), some (.inl v2), some (.inl v3), none] [.inr (.inr 20), .inl t0, .inr (.inr 0)] σ from h)
set_option maxRecDepth 100000 in
theorem rg_X11_bindName_105w27 {G : zGT} {d : Nat} {Φ : Int32 → zMem → Prop} {σ : zMem} {v1 v2 v3 t0 : Int32}
  (h : CTI G d Y_X11_isWorse [.inr (.inr 0), .inl t0, .inr (.inr 27)] σ (fun (r2 : Int32) (s1 : zMem) => CTI G d Y_X11_truth [.inl r2] s1 (fun (r4 : Int32) (s3 : zMem) => WJ G M_X11_bindName (d + 1) (RI Φ) 4 [some (.inr (.inr 0)), some (.inl v1), some (.inl (v2 + r4)), some (.inl (v3 + 1)), none] [] s3))) :
  WJ G M_X11_bindName (d + 1) (RI Φ) 105 [some (.inr (.inr 0)), some (.inl v1), some (.inl v2), some (.inl v3), none] [.inr (.inr 27), .inl t0, .inr (.inr 0)] σ :=
  ZP_ok ok_X11_bindName 14 105 _ _ _ (show ZP G M_X11_bindName (d + 1) (RI Φ) sp_X11_bindName 14 105 [some (.inr (.inr 0)), some (.inl v1), some (.inl v2), some (.inl v3), none] [.inr (.inr 27), .inl t0, .inr (.inr 0)] σ from h)
set_option maxRecDepth 100000 in
theorem rg_X11_bindName_120w20 {G : zGT} {d : Nat} {Φ : Int32 → zMem → Prop} {σ : zMem} {v1 v2 v3 t0 : Int32}
  (h : CTI G d Y_X11_isWorse [.inr (.inr 0), .inl t0, .inr (.inr 20)] σ (fun (r2 : Int32) (s1 : zMem) => CTI G d Y_X11_truth [.inl r2] s1 (fun (r4 : Int32) (s3 : zMem) => WJ G M_X11_bindName (d + 1) (RI Φ) 4 [some (.inr (.inr 0)), some (.inl v1), some (.inl (v2 + r4)), some (.inl (v3 + 1)), none] [] s3))) :
  WJ G M_X11_bindName (d + 1) (RI Φ) 120 [some (.inr (.inr 0)), some (.inl v1), some (.inl v2), some (.inl v3), none] [.inr (.inr 20), .inl t0, .inr (.inr 0)] σ :=
  ZP_ok ok_X11_bindName 14 120 _ _ _ (show ZP G M_X11_bindName (d + 1) (RI Φ) sp_X11_bindName 14 120 [some (.inr (.inr 0)), some (.inl v1), some (.inl v2), some (.inl v3), none] [.inr (.inr 20), .inl t0, .inr (.inr 0)] σ from h)
set_option maxRecDepth 100000 in
theorem rg_X11_bindName_120w27 {G : zGT} {d : Nat} {Φ : Int32 → zMem → Prop} {σ : zMem} {v1 v2 v3 t0 : Int32}
  (h : CTI G d Y_X11_isWorse [.inr (.inr 0), .inl t0, .inr (.inr 27)] σ (fun (r2 : Int32) (s1 : zMem) => CTI G d Y_X11_truth [.inl r2] s1 (fun (r4 : Int32) (s3 : zMem) => WJ G M_X11_bindName (d + 1) (RI Φ) 4 [some (.inr (.inr 0)), some (.inl v1), some (.inl (v2 + r4)), some (.inl (v3 + 1)), none] [] s3))) :
  WJ G M_X11_bindName (d + 1) (RI Φ) 120 [some (.inr (.inr 0)), some (.inl v1), some (.inl v2), some (.inl v3), none] [.inr (.inr 27), .inl t0, .inr (.inr 0)] σ :=
  ZP_ok ok_X11_bindName 14 120 _ _ _ (show ZP G M_X11_bindName (d + 1) (RI Φ) sp_X11_bindName 14 120 [some (.inr (.inr 0)), some (.inl v1), some (.inl v2), some (.inl v3), none] [.inr (.inr 27), .inl t0, .inr (.inr 0)] σ from h)
def sp_J6_bitCount_0f7a4 : List (Nat × List Bool) := []
set_option maxRecDepth 100000 in
theorem en_J6_bitCount_0f7a4 {G : zGT} {d : Nat} {Φ : Int32 → zMem → Prop} {σ : zMem} {v0 : Int32}
  (h : Φ ((((((((v0 - (((v0.toUInt32 >>> ((1 : Int32).toUInt32 &&& Int32.toUInt32 31)).toInt32) &&& (1431655765 : Int32))) &&& (858993459 : Int32)) + ((((v0 - (((v0.toUInt32 >>> ((1 : Int32).toUInt32 &&& Int32.toUInt32 31)).toInt32) &&& (1431655765 : Int32))).toUInt32 >>> ((2 : Int32).toUInt32 &&& Int32.toUInt32 31)).toInt32) &&& (858993459 : Int32))) + (((((v0 - (((v0.toUInt32 >>> ((1 : Int32).toUInt32 &&& Int32.toUInt32 31)).toInt32) &&& (1431655765 : Int32))) &&& (858993459 : Int32)) + ((((v0 - (((v0.toUInt32 >>> ((1 : Int32).toUInt32 &&& Int32.toUInt32 31)).toInt32) &&& (1431655765 : Int32))).toUInt32 >>> ((2 : Int32).toUInt32 &&& Int32.toUInt32 31)).toInt32) &&& (858993459 : Int32))).toUInt32 >>> ((4 : Int32).toUInt32 &&& Int32.toUInt32 31)).toInt32)) &&& (252645135 : Int32)) + (((((((v0 - (((v0.toUInt32 >>> ((1 : Int32).toUInt32 &&& Int32.toUInt32 31)).toInt32) &&& (1431655765 : Int32))) &&& (858993459 : Int32)) + ((((v0 - (((v0.toUInt32 >>> ((1 : Int32).toUInt32 &&& Int32.toUInt32 31)).toInt32) &&& (1431655765 : Int32))).toUInt32 >>> ((2 : Int32).toUInt32 &&& Int32.toUInt32 31)).toInt32) &&& (858993459 : Int32))) + (((((v0 - (((v0.toUInt32 >>> ((1 : Int32).toUInt32 &&& Int32.toUInt32 31)).toInt32) &&& (1431655765 : Int32))) &&& (858993459 : Int32)) + ((((v0 - (((v0.toUInt32 >>> ((1 : Int32).toUInt32 &&& Int32.toUInt32 31)).toInt32) &&& (1431655765 : Int32))).toUInt32 >>> ((2 : Int32).toUInt32 &&& Int32.toUInt32 31)).toInt32) &&& (858993459 : Int32))).toUInt32 >>> ((4 : Int32).toUInt32 &&& Int32.toUInt32 31)).toInt32)) &&& (252645135 : Int32)).toUInt32 >>> ((8 : Int32).toUInt32 &&& Int32.toUInt32 31)).toInt32)) + ((((((((v0 - (((v0.toUInt32 >>> ((1 : Int32).toUInt32 &&& Int32.toUInt32 31)).toInt32) &&& (1431655765 : Int32))) &&& (858993459 : Int32)) + ((((v0 - (((v0.toUInt32 >>> ((1 : Int32).toUInt32 &&& Int32.toUInt32 31)).toInt32) &&& (1431655765 : Int32))).toUInt32 >>> ((2 : Int32).toUInt32 &&& Int32.toUInt32 31)).toInt32) &&& (858993459 : Int32))) + (((((v0 - (((v0.toUInt32 >>> ((1 : Int32).toUInt32 &&& Int32.toUInt32 31)).toInt32) &&& (1431655765 : Int32))) &&& (858993459 : Int32)) + ((((v0 - (((v0.toUInt32 >>> ((1 : Int32).toUInt32 &&& Int32.toUInt32 31)).toInt32) &&& (1431655765 : Int32))).toUInt32 >>> ((2 : Int32).toUInt32 &&& Int32.toUInt32 31)).toInt32) &&& (858993459 : Int32))).toUInt32 >>> ((4 : Int32).toUInt32 &&& Int32.toUInt32 31)).toInt32)) &&& (252645135 : Int32)) + (((((((v0 - (((v0.toUInt32 >>> ((1 : Int32).toUInt32 &&& Int32.toUInt32 31)).toInt32) &&& (1431655765 : Int32))) &&& (858993459 : Int32)) + ((((v0 - (((v0.toUInt32 >>> ((1 : Int32).toUInt32 &&& Int32.toUInt32 31)).toInt32) &&& (1431655765 : Int32))).toUInt32 >>> ((2 : Int32).toUInt32 &&& Int32.toUInt32 31)).toInt32) &&& (858993459 : Int32))) + (((((v0 - (((v0.toUInt32 >>> ((1 : Int32).toUInt32 &&& Int32.toUInt32 31)).toInt32) &&& (1431655765 : Int32))) &&& (858993459 : Int32)) + ((((v0 - (((v0.toUInt32 >>> ((1 : Int32).toUInt32 &&& Int32.toUInt32 31)).toInt32) &&& (1431655765 : Int32))).toUInt32 >>> ((2 : Int32).toUInt32 &&& Int32.toUInt32 31)).toInt32) &&& (858993459 : Int32))).toUInt32 >>> ((4 : Int32).toUInt32 &&& Int32.toUInt32 31)).toInt32)) &&& (252645135 : Int32)).toUInt32 >>> ((8 : Int32).toUInt32 &&& Int32.toUInt32 31)).toInt32)).toUInt32 >>> ((16 : Int32).toUInt32 &&& Int32.toUInt32 31)).toInt32)) &&& (63 : Int32)) σ) :
  CTI G d Y_J6_bitCount_0f7a4 [.inl v0] σ Φ :=
  CT_of (M := M_J6_bitCount_0f7a4) rfl (Nat.le_of_ble_eq_true rfl) (Or.inr (Or.inl rfl)) (ZP_ok ok_J6_bitCount_0f7a4 46 0 _ _ _ (show ZP G M_J6_bitCount_0f7a4 d (RI Φ) sp_J6_bitCount_0f7a4 46 0 [some (.inl v0)] [] σ from h))
def sp_J0_length_8abf5 : List (Nat × List Bool) := []
set_option maxRecDepth 100000 in
theorem en_J0_length_8abf5_i1000 {G : zGT} {d : Nat} {Φ : Int32 → zMem → Prop} {σ : zMem}
  (h : CTI G d Y_J0_coder_7d493 [.inr (.inr 1000)] σ (fun (r2 : Int32) (s1 : zMem) => Φ ((Int32.ofNat 5) >>> (r2 &&& 31)) s1)) :
  CTI G (d + 1) Y_J0_length_8abf5 [.inr (.inr 1000)] σ Φ :=
  CT_of (M := M_J0_length_8abf5) rfl (Nat.le_of_ble_eq_true rfl) (Or.inr (Or.inl rfl)) (ZP_ok ok_J0_length_8abf5 11 0 _ _ _ (show ZP G M_J0_length_8abf5 (d + 1) (RI Φ) sp_J0_length_8abf5 11 0 [some (.inr (.inr 1000))] [] σ from h))
set_option maxRecDepth 100000 in
theorem en_J0_length_8abf5_i1001 {G : zGT} {d : Nat} {Φ : Int32 → zMem → Prop} {σ : zMem}
  (h : CTI G d Y_J0_coder_7d493 [.inr (.inr 1001)] σ (fun (r2 : Int32) (s1 : zMem) => Φ ((Int32.ofNat 6) >>> (r2 &&& 31)) s1)) :
  CTI G (d + 1) Y_J0_length_8abf5 [.inr (.inr 1001)] σ Φ :=
  CT_of (M := M_J0_length_8abf5) rfl (Nat.le_of_ble_eq_true rfl) (Or.inr (Or.inl rfl)) (ZP_ok ok_J0_length_8abf5 11 0 _ _ _ (show ZP G M_J0_length_8abf5 (d + 1) (RI Φ) sp_J0_length_8abf5 11 0 [some (.inr (.inr 1001))] [] σ from h))
set_option maxRecDepth 100000 in
theorem en_J0_length_8abf5_i1002 {G : zGT} {d : Nat} {Φ : Int32 → zMem → Prop} {σ : zMem}
  (h : CTI G d Y_J0_coder_7d493 [.inr (.inr 1002)] σ (fun (r2 : Int32) (s1 : zMem) => Φ ((Int32.ofNat 4) >>> (r2 &&& 31)) s1)) :
  CTI G (d + 1) Y_J0_length_8abf5 [.inr (.inr 1002)] σ Φ :=
  CT_of (M := M_J0_length_8abf5) rfl (Nat.le_of_ble_eq_true rfl) (Or.inr (Or.inl rfl)) (ZP_ok ok_J0_length_8abf5 11 0 _ _ _ (show ZP G M_J0_length_8abf5 (d + 1) (RI Φ) sp_J0_length_8abf5 11 0 [some (.inr (.inr 1002))] [] σ from h))
set_option maxRecDepth 100000 in
theorem en_J0_length_8abf5_i1003 {G : zGT} {d : Nat} {Φ : Int32 → zMem → Prop} {σ : zMem}
  (h : CTI G d Y_J0_coder_7d493 [.inr (.inr 1003)] σ (fun (r2 : Int32) (s1 : zMem) => Φ ((Int32.ofNat 4) >>> (r2 &&& 31)) s1)) :
  CTI G (d + 1) Y_J0_length_8abf5 [.inr (.inr 1003)] σ Φ :=
  CT_of (M := M_J0_length_8abf5) rfl (Nat.le_of_ble_eq_true rfl) (Or.inr (Or.inl rfl)) (ZP_ok ok_J0_length_8abf5 11 0 _ _ _ (show ZP G M_J0_length_8abf5 (d + 1) (RI Φ) sp_J0_length_8abf5 11 0 [some (.inr (.inr 1003))] [] σ from h))
def sp_J0_charAt_5068e : List (Nat × List Bool) := []
set_option maxRecDepth 100000 in
theorem en_J0_charAt_5068e_i1000 {G : zGT} {d : Nat} {Φ : Int32 → zMem → Prop} {σ : zMem} {v1 : Int32}
  (h : CTI G d Y_J0_isLatin1_aae02 [.inr (.inr 1000)] σ (fun (r2 : Int32) (s1 : zMem) => if r2 = 0 then (CTI G d Y_J2_charAt_3b067 [.inr (.inr 1100), .inl v1] s1 (fun (r4 : Int32) (s3 : zMem) => narrow .char (.int r4) = .int r4 ∧ (Φ r4 s3))) else (CTI G d Y_J1_charAt_3b067 [.inr (.inr 1100), .inl v1] s1 (fun (r6 : Int32) (s5 : zMem) => narrow .char (.int r6) = .int r6 ∧ (Φ r6 s5))))) :
  CTI G (d + 1) Y_J0_charAt_5068e [.inr (.inr 1000), .inl v1] σ Φ :=
  CT_of (M := M_J0_charAt_5068e) rfl (Nat.le_of_ble_eq_true rfl) (Or.inr (Or.inr (Or.inr (Or.inl rfl)))) (ZP_ok ok_J0_charAt_5068e 12 0 _ _ _ (show ZP G M_J0_charAt_5068e (d + 1) (RI Φ) sp_J0_charAt_5068e 12 0 [some (.inr (.inr 1000)), some (.inl v1)] [] σ from h))
set_option maxRecDepth 100000 in
theorem en_J0_charAt_5068e_i1001 {G : zGT} {d : Nat} {Φ : Int32 → zMem → Prop} {σ : zMem} {v1 : Int32}
  (h : CTI G d Y_J0_isLatin1_aae02 [.inr (.inr 1001)] σ (fun (r2 : Int32) (s1 : zMem) => if r2 = 0 then (CTI G d Y_J2_charAt_3b067 [.inr (.inr 1101), .inl v1] s1 (fun (r4 : Int32) (s3 : zMem) => narrow .char (.int r4) = .int r4 ∧ (Φ r4 s3))) else (CTI G d Y_J1_charAt_3b067 [.inr (.inr 1101), .inl v1] s1 (fun (r6 : Int32) (s5 : zMem) => narrow .char (.int r6) = .int r6 ∧ (Φ r6 s5))))) :
  CTI G (d + 1) Y_J0_charAt_5068e [.inr (.inr 1001), .inl v1] σ Φ :=
  CT_of (M := M_J0_charAt_5068e) rfl (Nat.le_of_ble_eq_true rfl) (Or.inr (Or.inr (Or.inr (Or.inl rfl)))) (ZP_ok ok_J0_charAt_5068e 12 0 _ _ _ (show ZP G M_J0_charAt_5068e (d + 1) (RI Φ) sp_J0_charAt_5068e 12 0 [some (.inr (.inr 1001)), some (.inl v1)] [] σ from h))
set_option maxRecDepth 100000 in
theorem en_J0_charAt_5068e_i1002 {G : zGT} {d : Nat} {Φ : Int32 → zMem → Prop} {σ : zMem} {v1 : Int32}
  (h : CTI G d Y_J0_isLatin1_aae02 [.inr (.inr 1002)] σ (fun (r2 : Int32) (s1 : zMem) => if r2 = 0 then (CTI G d Y_J2_charAt_3b067 [.inr (.inr 1102), .inl v1] s1 (fun (r4 : Int32) (s3 : zMem) => narrow .char (.int r4) = .int r4 ∧ (Φ r4 s3))) else (CTI G d Y_J1_charAt_3b067 [.inr (.inr 1102), .inl v1] s1 (fun (r6 : Int32) (s5 : zMem) => narrow .char (.int r6) = .int r6 ∧ (Φ r6 s5))))) :
  CTI G (d + 1) Y_J0_charAt_5068e [.inr (.inr 1002), .inl v1] σ Φ :=
  CT_of (M := M_J0_charAt_5068e) rfl (Nat.le_of_ble_eq_true rfl) (Or.inr (Or.inr (Or.inr (Or.inl rfl)))) (ZP_ok ok_J0_charAt_5068e 12 0 _ _ _ (show ZP G M_J0_charAt_5068e (d + 1) (RI Φ) sp_J0_charAt_5068e 12 0 [some (.inr (.inr 1002)), some (.inl v1)] [] σ from h))
set_option maxRecDepth 100000 in
theorem en_J0_charAt_5068e_i1003 {G : zGT} {d : Nat} {Φ : Int32 → zMem → Prop} {σ : zMem} {v1 : Int32}
  (h : CTI G d Y_J0_isLatin1_aae02 [.inr (.inr 1003)] σ (fun (r2 : Int32) (s1 : zMem) => if r2 = 0 then (CTI G d Y_J2_charAt_3b067 [.inr (.inr 1103), .inl v1] s1 (fun (r4 : Int32) (s3 : zMem) => narrow .char (.int r4) = .int r4 ∧ (Φ r4 s3))) else (CTI G d Y_J1_charAt_3b067 [.inr (.inr 1103), .inl v1] s1 (fun (r6 : Int32) (s5 : zMem) => narrow .char (.int r6) = .int r6 ∧ (Φ r6 s5))))) :
  CTI G (d + 1) Y_J0_charAt_5068e [.inr (.inr 1003), .inl v1] σ Φ :=
  CT_of (M := M_J0_charAt_5068e) rfl (Nat.le_of_ble_eq_true rfl) (Or.inr (Or.inr (Or.inr (Or.inl rfl)))) (ZP_ok ok_J0_charAt_5068e 12 0 _ _ _ (show ZP G M_J0_charAt_5068e (d + 1) (RI Φ) sp_J0_charAt_5068e 12 0 [some (.inr (.inr 1003)), some (.inl v1)] [] σ from h))
def sp_J0_coder_7d493 : List (Nat × List Bool) := []
set_option maxRecDepth 100000 in
theorem en_J0_coder_7d493_i1000 {G : zGT} {d : Nat} {Φ : Int32 → zMem → Prop} {σ : zMem}
  (h : narrow .byte (.int (0 : Int32)) = .int (0 : Int32) ∧ (Φ (0 : Int32) σ)) :
  CTI G d Y_J0_coder_7d493 [.inr (.inr 1000)] σ Φ :=
  CT_of (M := M_J0_coder_7d493) rfl (Nat.le_of_ble_eq_true rfl) (Or.inr (Or.inr (Or.inr (Or.inr (Or.inl rfl))))) (ZP_ok ok_J0_coder_7d493 10 0 _ _ _ (show ZP G M_J0_coder_7d493 d (RI Φ) sp_J0_coder_7d493 10 0 [some (.inr (.inr 1000))] [] σ from h))
set_option maxRecDepth 100000 in
theorem en_J0_coder_7d493_i1001 {G : zGT} {d : Nat} {Φ : Int32 → zMem → Prop} {σ : zMem}
  (h : narrow .byte (.int (0 : Int32)) = .int (0 : Int32) ∧ (Φ (0 : Int32) σ)) :
  CTI G d Y_J0_coder_7d493 [.inr (.inr 1001)] σ Φ :=
  CT_of (M := M_J0_coder_7d493) rfl (Nat.le_of_ble_eq_true rfl) (Or.inr (Or.inr (Or.inr (Or.inr (Or.inl rfl))))) (ZP_ok ok_J0_coder_7d493 10 0 _ _ _ (show ZP G M_J0_coder_7d493 d (RI Φ) sp_J0_coder_7d493 10 0 [some (.inr (.inr 1001))] [] σ from h))
set_option maxRecDepth 100000 in
theorem en_J0_coder_7d493_i1002 {G : zGT} {d : Nat} {Φ : Int32 → zMem → Prop} {σ : zMem}
  (h : narrow .byte (.int (0 : Int32)) = .int (0 : Int32) ∧ (Φ (0 : Int32) σ)) :
  CTI G d Y_J0_coder_7d493 [.inr (.inr 1002)] σ Φ :=
  CT_of (M := M_J0_coder_7d493) rfl (Nat.le_of_ble_eq_true rfl) (Or.inr (Or.inr (Or.inr (Or.inr (Or.inl rfl))))) (ZP_ok ok_J0_coder_7d493 10 0 _ _ _ (show ZP G M_J0_coder_7d493 d (RI Φ) sp_J0_coder_7d493 10 0 [some (.inr (.inr 1002))] [] σ from h))
set_option maxRecDepth 100000 in
theorem en_J0_coder_7d493_i1003 {G : zGT} {d : Nat} {Φ : Int32 → zMem → Prop} {σ : zMem}
  (h : narrow .byte (.int (0 : Int32)) = .int (0 : Int32) ∧ (Φ (0 : Int32) σ)) :
  CTI G d Y_J0_coder_7d493 [.inr (.inr 1003)] σ Φ :=
  CT_of (M := M_J0_coder_7d493) rfl (Nat.le_of_ble_eq_true rfl) (Or.inr (Or.inr (Or.inr (Or.inr (Or.inl rfl))))) (ZP_ok ok_J0_coder_7d493 10 0 _ _ _ (show ZP G M_J0_coder_7d493 d (RI Φ) sp_J0_coder_7d493 10 0 [some (.inr (.inr 1003))] [] σ from h))
def sp_J0_isLatin1_aae02 : List (Nat × List Bool) := []
set_option maxRecDepth 100000 in
theorem en_J0_isLatin1_aae02_i1000 {G : zGT} {d : Nat} {Φ : Int32 → zMem → Prop} {σ : zMem}
  (h : Φ (1 : Int32) σ) :
  CTI G d Y_J0_isLatin1_aae02 [.inr (.inr 1000)] σ Φ :=
  CT_of (M := M_J0_isLatin1_aae02) rfl (Nat.le_of_ble_eq_true rfl) (Or.inr (Or.inr (Or.inl rfl))) (ZP_ok ok_J0_isLatin1_aae02 12 0 _ _ _ (show ZP G M_J0_isLatin1_aae02 d (RI Φ) sp_J0_isLatin1_aae02 12 0 [some (.inr (.inr 1000))] [] σ from h))
set_option maxRecDepth 100000 in
theorem en_J0_isLatin1_aae02_i1001 {G : zGT} {d : Nat} {Φ : Int32 → zMem → Prop} {σ : zMem}
  (h : Φ (1 : Int32) σ) :
  CTI G d Y_J0_isLatin1_aae02 [.inr (.inr 1001)] σ Φ :=
  CT_of (M := M_J0_isLatin1_aae02) rfl (Nat.le_of_ble_eq_true rfl) (Or.inr (Or.inr (Or.inl rfl))) (ZP_ok ok_J0_isLatin1_aae02 12 0 _ _ _ (show ZP G M_J0_isLatin1_aae02 d (RI Φ) sp_J0_isLatin1_aae02 12 0 [some (.inr (.inr 1001))] [] σ from h))
set_option maxRecDepth 100000 in
theorem en_J0_isLatin1_aae02_i1002 {G : zGT} {d : Nat} {Φ : Int32 → zMem → Prop} {σ : zMem}
  (h : Φ (1 : Int32) σ) :
  CTI G d Y_J0_isLatin1_aae02 [.inr (.inr 1002)] σ Φ :=
  CT_of (M := M_J0_isLatin1_aae02) rfl (Nat.le_of_ble_eq_true rfl) (Or.inr (Or.inr (Or.inl rfl))) (ZP_ok ok_J0_isLatin1_aae02 12 0 _ _ _ (show ZP G M_J0_isLatin1_aae02 d (RI Φ) sp_J0_isLatin1_aae02 12 0 [some (.inr (.inr 1002))] [] σ from h))
set_option maxRecDepth 100000 in
theorem en_J0_isLatin1_aae02_i1003 {G : zGT} {d : Nat} {Φ : Int32 → zMem → Prop} {σ : zMem}
  (h : Φ (1 : Int32) σ) :
  CTI G d Y_J0_isLatin1_aae02 [.inr (.inr 1003)] σ Φ :=
  CT_of (M := M_J0_isLatin1_aae02) rfl (Nat.le_of_ble_eq_true rfl) (Or.inr (Or.inr (Or.inl rfl))) (ZP_ok ok_J0_isLatin1_aae02 12 0 _ _ _ (show ZP G M_J0_isLatin1_aae02 d (RI Φ) sp_J0_isLatin1_aae02 12 0 [some (.inr (.inr 1003))] [] σ from h))
def sp_J1_charAt_3b067 : List (Nat × List Bool) := []
set_option maxRecDepth 100000 in
theorem en_J1_charAt_3b067_i1100 {G : zGT} {d : Nat} {Φ : Int32 → zMem → Prop} {σ : zMem} {v1 : Int32}
  (h : CTV G d Y_J0_checkIndex_df160 [.inl v1, .inl (Int32.ofNat 5)] σ (fun (s1 : zMem) => vp_in v1 5 ∧ (narrow .char (.int ((((ztx.getD 0 []).getD v1.toNatClampNeg 0) &&& (255 : Int32)).toUInt32 % 65536).toInt32) = .int ((((ztx.getD 0 []).getD v1.toNatClampNeg 0) &&& (255 : Int32)).toUInt32 % 65536).toInt32 ∧ (Φ ((((ztx.getD 0 []).getD v1.toNatClampNeg 0) &&& (255 : Int32)).toUInt32 % 65536).toInt32 s1)))) :
  CTI G (d + 1) Y_J1_charAt_3b067 [.inr (.inr 1100), .inl v1] σ Φ :=
  CT_of (M := M_J1_charAt_3b067) rfl (Nat.le_of_ble_eq_true rfl) (Or.inr (Or.inr (Or.inr (Or.inl rfl)))) (ZP_ok ok_J1_charAt_3b067 15 0 _ _ _ (show ZP G M_J1_charAt_3b067 (d + 1) (RI Φ) sp_J1_charAt_3b067 15 0 [some (.inr (.inr 1100)), some (.inl v1)] [] σ from h))
set_option maxRecDepth 100000 in
theorem en_J1_charAt_3b067_i1101 {G : zGT} {d : Nat} {Φ : Int32 → zMem → Prop} {σ : zMem} {v1 : Int32}
  (h : CTV G d Y_J0_checkIndex_df160 [.inl v1, .inl (Int32.ofNat 6)] σ (fun (s1 : zMem) => vp_in v1 6 ∧ (narrow .char (.int ((((ztx.getD 1 []).getD v1.toNatClampNeg 0) &&& (255 : Int32)).toUInt32 % 65536).toInt32) = .int ((((ztx.getD 1 []).getD v1.toNatClampNeg 0) &&& (255 : Int32)).toUInt32 % 65536).toInt32 ∧ (Φ ((((ztx.getD 1 []).getD v1.toNatClampNeg 0) &&& (255 : Int32)).toUInt32 % 65536).toInt32 s1)))) :
  CTI G (d + 1) Y_J1_charAt_3b067 [.inr (.inr 1101), .inl v1] σ Φ :=
  CT_of (M := M_J1_charAt_3b067) rfl (Nat.le_of_ble_eq_true rfl) (Or.inr (Or.inr (Or.inr (Or.inl rfl)))) (ZP_ok ok_J1_charAt_3b067 15 0 _ _ _ (show ZP G M_J1_charAt_3b067 (d + 1) (RI Φ) sp_J1_charAt_3b067 15 0 [some (.inr (.inr 1101)), some (.inl v1)] [] σ from h))
set_option maxRecDepth 100000 in
theorem en_J1_charAt_3b067_i1102 {G : zGT} {d : Nat} {Φ : Int32 → zMem → Prop} {σ : zMem} {v1 : Int32}
  (h : CTV G d Y_J0_checkIndex_df160 [.inl v1, .inl (Int32.ofNat 4)] σ (fun (s1 : zMem) => vp_in v1 4 ∧ (narrow .char (.int ((((ztx.getD 2 []).getD v1.toNatClampNeg 0) &&& (255 : Int32)).toUInt32 % 65536).toInt32) = .int ((((ztx.getD 2 []).getD v1.toNatClampNeg 0) &&& (255 : Int32)).toUInt32 % 65536).toInt32 ∧ (Φ ((((ztx.getD 2 []).getD v1.toNatClampNeg 0) &&& (255 : Int32)).toUInt32 % 65536).toInt32 s1)))) :
  CTI G (d + 1) Y_J1_charAt_3b067 [.inr (.inr 1102), .inl v1] σ Φ :=
  CT_of (M := M_J1_charAt_3b067) rfl (Nat.le_of_ble_eq_true rfl) (Or.inr (Or.inr (Or.inr (Or.inl rfl)))) (ZP_ok ok_J1_charAt_3b067 15 0 _ _ _ (show ZP G M_J1_charAt_3b067 (d + 1) (RI Φ) sp_J1_charAt_3b067 15 0 [some (.inr (.inr 1102)), some (.inl v1)] [] σ from h))
set_option maxRecDepth 100000 in
theorem en_J1_charAt_3b067_i1103 {G : zGT} {d : Nat} {Φ : Int32 → zMem → Prop} {σ : zMem} {v1 : Int32}
  (h : CTV G d Y_J0_checkIndex_df160 [.inl v1, .inl (Int32.ofNat 4)] σ (fun (s1 : zMem) => vp_in v1 4 ∧ (narrow .char (.int ((((ztx.getD 3 []).getD v1.toNatClampNeg 0) &&& (255 : Int32)).toUInt32 % 65536).toInt32) = .int ((((ztx.getD 3 []).getD v1.toNatClampNeg 0) &&& (255 : Int32)).toUInt32 % 65536).toInt32 ∧ (Φ ((((ztx.getD 3 []).getD v1.toNatClampNeg 0) &&& (255 : Int32)).toUInt32 % 65536).toInt32 s1)))) :
  CTI G (d + 1) Y_J1_charAt_3b067 [.inr (.inr 1103), .inl v1] σ Φ :=
  CT_of (M := M_J1_charAt_3b067) rfl (Nat.le_of_ble_eq_true rfl) (Or.inr (Or.inr (Or.inr (Or.inl rfl)))) (ZP_ok ok_J1_charAt_3b067 15 0 _ _ _ (show ZP G M_J1_charAt_3b067 (d + 1) (RI Φ) sp_J1_charAt_3b067 15 0 [some (.inr (.inr 1103)), some (.inl v1)] [] σ from h))
def sp_J3_checkIndex_8e157 : List (Nat × List Bool) := []
set_option maxRecDepth 100000 in
theorem en_J3_checkIndex_8e157 {G : zGT} {d : Nat} {Φ : Int32 → zMem → Prop} {σ : zMem} {v0 v1 : Int32}
  (h : if v0 < 0 then (False) else (if v0 < v1 then (Φ v0 σ) else (False))) :
  CTI G d Y_J3_checkIndex_8e157 [.inl v0, .inl v1, .inr (.inr 3000)] σ Φ :=
  CT_of (M := M_J3_checkIndex_8e157) rfl (Nat.le_of_ble_eq_true rfl) (Or.inr (Or.inl rfl)) (ZP_ok ok_J3_checkIndex_8e157 13 0 _ _ _ (show ZP G M_J3_checkIndex_8e157 d (RI Φ) sp_J3_checkIndex_8e157 13 0 [some (.inl v0), some (.inl v1), some (.inr (.inr 3000))] [] σ from h))
