theorem dfX0 : ∀ j, j < 7 → defaultValue (tyX0 j) = vp_V [.null, .null, .null, .null, .null, .int 0, .int 0] j := by
  intro j hj
  match j, hj with
  | 0, _ => rfl
  | 1, _ => rfl
  | 2, _ => rfl
  | 3, _ => rfl
  | 4, _ => rfl
  | 5, _ => rfl
  | 6, _ => rfl
  | _ + 7, h => omega
theorem dfX1 : ∀ j, j < 7 → defaultValue (tyX1 j) = vp_V [.null, .null, .null, .null, .null, .null, .int 0] j := by
  intro j hj
  match j, hj with
  | 0, _ => rfl
  | 1, _ => rfl
  | 2, _ => rfl
  | 3, _ => rfl
  | 4, _ => rfl
  | 5, _ => rfl
  | 6, _ => rfl
  | _ + 7, h => omega
theorem dfX2 : ∀ j, j < 8 → defaultValue (tyX2 j) = vp_V [.null, .null, .null, .null, .null, .null, .int 0, .int 0] j := by
  intro j hj
  match j, hj with
  | 0, _ => rfl
  | 1, _ => rfl
  | 2, _ => rfl
  | 3, _ => rfl
  | 4, _ => rfl
  | 5, _ => rfl
  | 6, _ => rfl
  | 7, _ => rfl
  | _ + 8, h => omega
theorem dfX3 : ∀ j, j < 3 → defaultValue (tyX3 j) = vp_V [.null, .null, .null] j := by
  intro j hj
  match j, hj with
  | 0, _ => rfl
  | 1, _ => rfl
  | 2, _ => rfl
  | _ + 3, h => omega
theorem dfX4 : ∀ j, j < 3 → defaultValue (tyX4 j) = vp_V [.null, .null, .int 0] j := by
  intro j hj
  match j, hj with
  | 0, _ => rfl
  | 1, _ => rfl
  | 2, _ => rfl
  | _ + 3, h => omega
theorem dfX5 : ∀ j, j < 5 → defaultValue (tyX5 j) = vp_V [.null, .null, .null, .null, .null] j := by
  intro j hj
  match j, hj with
  | 0, _ => rfl
  | 1, _ => rfl
  | 2, _ => rfl
  | 3, _ => rfl
  | 4, _ => rfl
  | _ + 5, h => omega
theorem dfX6 : ∀ j, j < 6 → defaultValue (tyX6 j) = vp_V [.null, .null, .null, .null, .null, .int 0] j := by
  intro j hj
  match j, hj with
  | 0, _ => rfl
  | 1, _ => rfl
  | 2, _ => rfl
  | 3, _ => rfl
  | 4, _ => rfl
  | 5, _ => rfl
  | _ + 6, h => omega
theorem dfX7 : ∀ j, j < 10 → defaultValue (tyX7 j) = vp_V [.null, .null, .null, .null, .null, .int 0, .int 0, .int 0, .int 0, .int 0] j := by
  intro j hj
  match j, hj with
  | 0, _ => rfl
  | 1, _ => rfl
  | 2, _ => rfl
  | 3, _ => rfl
  | 4, _ => rfl
  | 5, _ => rfl
  | 6, _ => rfl
  | 7, _ => rfl
  | 8, _ => rfl
  | 9, _ => rfl
  | _ + 10, h => omega
theorem dfX8 : ∀ j, j < 7 → defaultValue (tyX8 j) = vp_V [.int 0, .int 0, .int 0, .int 0, .int 0, .int 0, .int 0] j := by
  intro j hj
  match j, hj with
  | 0, _ => rfl
  | 1, _ => rfl
  | 2, _ => rfl
  | 3, _ => rfl
  | 4, _ => rfl
  | 5, _ => rfl
  | 6, _ => rfl
  | _ + 7, h => omega
theorem dfX9 : ∀ j, j < 3 → defaultValue (tyX9 j) = vp_V [.null, .int 0, .int 0] j := by
  intro j hj
  match j, hj with
  | 0, _ => rfl
  | 1, _ => rfl
  | 2, _ => rfl
  | _ + 3, h => omega
theorem dfX10 : ∀ j, j < 12 → defaultValue (tyX10 j) = vp_V [.null, .null, .int 0, .null, .null, .null, .null, .null, .null, .int 0, .int 0, .int 0] j := by
  intro j hj
  match j, hj with
  | 0, _ => rfl
  | 1, _ => rfl
  | 2, _ => rfl
  | 3, _ => rfl
  | 4, _ => rfl
  | 5, _ => rfl
  | 6, _ => rfl
  | 7, _ => rfl
  | 8, _ => rfl
  | 9, _ => rfl
  | 10, _ => rfl
  | 11, _ => rfl
  | _ + 12, h => omega
theorem dfX11 : ∀ j, j < 18 → defaultValue (tyX11 j) = vp_V [.null, .null, .null, .null, .null, .null, .null, .null, .null, .null, .null, .null, .null, .int 0, .int 0, .int 0, .int 0, .int 0] j := by
  intro j hj
  match j, hj with
  | 0, _ => rfl
  | 1, _ => rfl
  | 2, _ => rfl
  | 3, _ => rfl
  | 4, _ => rfl
  | 5, _ => rfl
  | 6, _ => rfl
  | 7, _ => rfl
  | 8, _ => rfl
  | 9, _ => rfl
  | 10, _ => rfl
  | 11, _ => rfl
  | 12, _ => rfl
  | 13, _ => rfl
  | 14, _ => rfl
  | 15, _ => rfl
  | 16, _ => rfl
  | 17, _ => rfl
  | _ + 18, h => omega
theorem dfX12 : ∀ j, j < 69 → defaultValue (tyX12 j) = vp_V [.int 0, .int 0, .int 0, .null, .null, .null, .null, .null, .int 0, .null, .null, .null, .null, .null, .null, .null, .null, .null, .null, .null, .null, .null, .int 0, .int 0, .int 0, .int 0, .null, .null, .int 0, .int 0, .int 0, .null, .null, .null, .null, .null, .null, .null, .null, .int 0, .int 0, .null, .null, .null, .null, .null, .int 0, .int 0, .int 0, .int 0, .null, .null, .int 0, .int 0, .int 0, .int 0, .int 0, .int 0, .null, .null, .int 0, .int 0, .int 0, .null, .null, .null, .int 0, .int 0, .null] j := by
  intro j hj
  match j, hj with
  | 0, _ => rfl
  | 1, _ => rfl
  | 2, _ => rfl
  | 3, _ => rfl
  | 4, _ => rfl
  | 5, _ => rfl
  | 6, _ => rfl
  | 7, _ => rfl
  | 8, _ => rfl
  | 9, _ => rfl
  | 10, _ => rfl
  | 11, _ => rfl
  | 12, _ => rfl
  | 13, _ => rfl
  | 14, _ => rfl
  | 15, _ => rfl
  | 16, _ => rfl
  | 17, _ => rfl
  | 18, _ => rfl
  | 19, _ => rfl
  | 20, _ => rfl
  | 21, _ => rfl
  | 22, _ => rfl
  | 23, _ => rfl
  | 24, _ => rfl
  | 25, _ => rfl
  | 26, _ => rfl
  | 27, _ => rfl
  | 28, _ => rfl
  | 29, _ => rfl
  | 30, _ => rfl
  | 31, _ => rfl
  | 32, _ => rfl
  | 33, _ => rfl
  | 34, _ => rfl
  | 35, _ => rfl
  | 36, _ => rfl
  | 37, _ => rfl
  | 38, _ => rfl
  | 39, _ => rfl
  | 40, _ => rfl
  | 41, _ => rfl
  | 42, _ => rfl
  | 43, _ => rfl
  | 44, _ => rfl
  | 45, _ => rfl
  | 46, _ => rfl
  | 47, _ => rfl
  | 48, _ => rfl
  | 49, _ => rfl
  | 50, _ => rfl
  | 51, _ => rfl
  | 52, _ => rfl
  | 53, _ => rfl
  | 54, _ => rfl
  | 55, _ => rfl
  | 56, _ => rfl
  | 57, _ => rfl
  | 58, _ => rfl
  | 59, _ => rfl
  | 60, _ => rfl
  | 61, _ => rfl
  | 62, _ => rfl
  | 63, _ => rfl
  | 64, _ => rfl
  | 65, _ => rfl
  | 66, _ => rfl
  | 67, _ => rfl
  | 68, _ => rfl
  | _ + 69, h => omega
def rs_X3_init (cI cB : ClassId) (aT h0 : Nat) (q : Nat → Nat) : va_W := [(h0, .inr (3, [.ref (q 0), .ref (q 1), .ref (q 2)])), ((q 0), .inl (cI, 216, .inl (fun _ => 0))), ((q 1), .inl (cI, 216, .inl (fun _ => 0))), ((q 2), .inl (cI, 24, .inl (fun _ => 0)))]
set_option maxHeartbeats 4000000 in
set_option maxRecDepth 100000 in
theorem C_X3_init (l : Launch) (D : va_G) (cI cB : ClassId) (aT h0 : Nat) : zCt l D cI cB aT yX3_init cX3_init 1 ({ frames := 1, cells := 3, slots := 456, locals := 20 }) 3 456 3 [.null, .null, .null] [] h0 (rs_X3_init cI cB aT h0) := by
  refine zCt_of (by decide) rfl (Nat.le_of_ble_eq_true rfl) ?_
  intro p e s m args below meth c F hK A hA hP hD ls hl
  have hx := F.1
  have hb := F.2.1
  have hts := F.2.2.2.2.1
  have hS : va_S A s.heap s.heap [] := va_S.rf
  have hl : lv_has ls 1 [(0, .ref h0)] := hl
  refine lv_aload_n hx hb (show decode cX3_init 0 = .ok (.aload_n 0, 1) by decide +kernel) rfl (lv_at hl 0 rfl) ?_
  refine zobj F hl.1 (inT_in (i := 100) (by decide +kernel)) (show decode cX3_init 1 = .ok (.invokespecial 3, 3) by decide +kernel) (Nat.le_of_ble_eq_true rfl) (Nat.le_of_ble_eq_true rfl) ?_
  refine lv_aload_n hx hb (show decode cX3_init 4 = .ok (.aload_n 0, 1) by decide +kernel) rfl (lv_at hl 0 rfl) ?_
  refine lv_sipush (v := 216) hx hb (show decode cX3_init 5 = .ok (.sipush 216, 3) by decide +kernel) (by decide) ?_
  refine zarrI (N := 216) F hK hP hD hS hA (by decide) (by decide) (by decide) (Nat.le_of_ble_eq_true rfl) (Nat.le_of_ble_eq_true rfl) (show decode cX3_init 8 = .ok (.newarray .int, 2) by decide +kernel) (fun q1 H hP hD hS => ?_)
  have hP : va_P D vwCl [(h0, .inr (3, [.null, .null, .null])), (q1, .inl (cI, 216, .inl (fun _ => 0)))] H := hP
  have hD : va_D A [(h0, .inr (3, [.null, .null, .null])), (q1, .inl (cI, 216, .inl (fun _ => 0)))] := hD
  refine zcput (ci := 3) (q0 := (RX3, TX3, 3)) (k := 0) (ty := .array .int) 0 F hK hP hD hS rfl rfl (by decide) (inT_in (i := 101) (by decide +kernel)) rfl (by decide +kernel) rfl rfl (Nat.le_of_ble_eq_true rfl) (show decode cX3_init 10 = .ok (.putfield 11, 3) by decide +kernel) (fun H locs hP hD hS => ?_)
  have hP : va_P D vwCl [(h0, .inr (3, [.ref q1, .null, .null])), (q1, .inl (cI, 216, .inl (fun _ => 0)))] H := hP
  have hD : va_D A [(h0, .inr (3, [.ref q1, .null, .null])), (q1, .inl (cI, 216, .inl (fun _ => 0)))] := hD
  refine lv_aload_n hx hb (show decode cX3_init 13 = .ok (.aload_n 0, 1) by decide +kernel) rfl (lv_at hl 0 rfl) ?_
  refine lv_sipush (v := 216) hx hb (show decode cX3_init 14 = .ok (.sipush 216, 3) by decide +kernel) (by decide) ?_
  refine zarrI (N := 216) F hK hP hD hS hA (by decide) (by decide) (by decide) (Nat.le_of_ble_eq_true rfl) (Nat.le_of_ble_eq_true rfl) (show decode cX3_init 17 = .ok (.newarray .int, 2) by decide +kernel) (fun q2 H hP hD hS => ?_)
  have hP : va_P D vwCl [(h0, .inr (3, [.ref q1, .null, .null])), (q1, .inl (cI, 216, .inl (fun _ => 0))), (q2, .inl (cI, 216, .inl (fun _ => 0)))] H := hP
  have hD : va_D A [(h0, .inr (3, [.ref q1, .null, .null])), (q1, .inl (cI, 216, .inl (fun _ => 0))), (q2, .inl (cI, 216, .inl (fun _ => 0)))] := hD
  refine zcput (ci := 3) (q0 := (RX3, TX3, 3)) (k := 1) (ty := .array .int) 0 F hK hP hD hS rfl rfl (by decide) (inT_in (i := 102) (by decide +kernel)) rfl (by decide +kernel) rfl rfl (Nat.le_of_ble_eq_true rfl) (show decode cX3_init 19 = .ok (.putfield 15, 3) by decide +kernel) (fun H locs hP hD hS => ?_)
  have hP : va_P D vwCl [(h0, .inr (3, [.ref q1, .ref q2, .null])), (q1, .inl (cI, 216, .inl (fun _ => 0))), (q2, .inl (cI, 216, .inl (fun _ => 0)))] H := hP
  have hD : va_D A [(h0, .inr (3, [.ref q1, .ref q2, .null])), (q1, .inl (cI, 216, .inl (fun _ => 0))), (q2, .inl (cI, 216, .inl (fun _ => 0)))] := hD
  refine lv_aload_n hx hb (show decode cX3_init 22 = .ok (.aload_n 0, 1) by decide +kernel) rfl (lv_at hl 0 rfl) ?_
  refine lv_bipush (v := 24) hx hb (show decode cX3_init 23 = .ok (.bipush 24, 2) by decide +kernel) (by decide) ?_
  refine zarrI (N := 24) F hK hP hD hS hA (by decide) (by decide) (by decide) (Nat.le_of_ble_eq_true rfl) (Nat.le_of_ble_eq_true rfl) (show decode cX3_init 25 = .ok (.newarray .int, 2) by decide +kernel) (fun q3 H hP hD hS => ?_)
  have hP : va_P D vwCl [(h0, .inr (3, [.ref q1, .ref q2, .null])), (q1, .inl (cI, 216, .inl (fun _ => 0))), (q2, .inl (cI, 216, .inl (fun _ => 0))), (q3, .inl (cI, 24, .inl (fun _ => 0)))] H := hP
  have hD : va_D A [(h0, .inr (3, [.ref q1, .ref q2, .null])), (q1, .inl (cI, 216, .inl (fun _ => 0))), (q2, .inl (cI, 216, .inl (fun _ => 0))), (q3, .inl (cI, 24, .inl (fun _ => 0)))] := hD
  refine zcput (ci := 3) (q0 := (RX3, TX3, 3)) (k := 2) (ty := .array .int) 0 F hK hP hD hS rfl rfl (by decide) (inT_in (i := 103) (by decide +kernel)) rfl (by decide +kernel) rfl rfl (Nat.le_of_ble_eq_true rfl) (show decode cX3_init 27 = .ok (.putfield 18, 3) by decide +kernel) (fun H locs hP hD hS => ?_)
  have hP : va_P D vwCl [(h0, .inr (3, [.ref q1, .ref q2, .ref q3])), (q1, .inl (cI, 216, .inl (fun _ => 0))), (q2, .inl (cI, 216, .inl (fun _ => 0))), (q3, .inl (cI, 24, .inl (fun _ => 0)))] H := hP
  have hD : va_D A [(h0, .inr (3, [.ref q1, .ref q2, .ref q3])), (q1, .inl (cI, 216, .inl (fun _ => 0))), (q2, .inl (cI, 216, .inl (fun _ => 0))), (q3, .inl (cI, 24, .inl (fun _ => 0)))] := hD
  exact zcret (res := rs_X3_init cI cB aT h0) F (show decode cX3_init 30 = .ok (.return_, 1) by decide +kernel) (fun k => [q1, q2, q3].getD k 0) hP hD hS
def rs_X1_init (cI cB : ClassId) (aT h0 : Nat) (q : Nat → Nat) : va_W := [(h0, .inr (1, [.ref (q 0), .ref (q 1), .ref (q 2), .ref (q 3), .ref (q 4), .ref (q 8), .int 0])), ((q 0), .inl (cI, 24, .inl (fun _ => 0))), ((q 1), .inl (cI, 24, .inl (fun _ => 0))), ((q 2), .inl (cI, 24, .inl (fun _ => 0))), ((q 3), .inl (cI, 24, .inl (fun _ => 0))), ((q 4), .inr (3, [.ref (q 5), .ref (q 6), .ref (q 7)])), ((q 5), .inl (cI, 216, .inl (fun _ => 0))), ((q 6), .inl (cI, 216, .inl (fun _ => 0))), ((q 7), .inl (cI, 24, .inl (fun _ => 0))), ((q 8), .inr (3, [.ref (q 9), .ref (q 10), .ref (q 11)])), ((q 9), .inl (cI, 216, .inl (fun _ => 0))), ((q 10), .inl (cI, 216, .inl (fun _ => 0))), ((q 11), .inl (cI, 24, .inl (fun _ => 0)))]
set_option maxHeartbeats 4000000 in
set_option maxRecDepth 100000 in
theorem C_X1_init (l : Launch) (D : va_G) (cI cB : ClassId) (aT h0 : Nat) : zCt l D cI cB aT yX1_init cX1_init 1 ({ frames := 2, cells := 12, slots := 1014, locals := 40 }) 12 1014 1 [.null, .null, .null, .null, .null, .null, .int 0] [] h0 (rs_X1_init cI cB aT h0) := by
  refine zCt_of (by decide) rfl (Nat.le_of_ble_eq_true rfl) ?_
  intro p e s m args below meth c F hK A hA hP hD ls hl
  have hx := F.1
  have hb := F.2.1
  have hts := F.2.2.2.2.1
  have hS : va_S A s.heap s.heap [] := va_S.rf
  have hl : lv_has ls 1 [(0, .ref h0)] := hl
  refine lv_aload_n hx hb (show decode cX1_init 0 = .ok (.aload_n 0, 1) by decide +kernel) rfl (lv_at hl 0 rfl) ?_
  refine zobj F hl.1 (inT_in (i := 94) (by decide +kernel)) (show decode cX1_init 1 = .ok (.invokespecial 3, 3) by decide +kernel) (Nat.le_of_ble_eq_true rfl) (Nat.le_of_ble_eq_true rfl) ?_
  refine lv_aload_n hx hb (show decode cX1_init 4 = .ok (.aload_n 0, 1) by decide +kernel) rfl (lv_at hl 0 rfl) ?_
  refine lv_bipush (v := 24) hx hb (show decode cX1_init 5 = .ok (.bipush 24, 2) by decide +kernel) (by decide) ?_
  refine zarrI (N := 24) F hK hP hD hS hA (by decide) (by decide) (by decide) (Nat.le_of_ble_eq_true rfl) (Nat.le_of_ble_eq_true rfl) (show decode cX1_init 7 = .ok (.newarray .int, 2) by decide +kernel) (fun q1 H hP hD hS => ?_)
  have hP : va_P D vwCl [(h0, .inr (1, [.null, .null, .null, .null, .null, .null, .int 0])), (q1, .inl (cI, 24, .inl (fun _ => 0)))] H := hP
  have hD : va_D A [(h0, .inr (1, [.null, .null, .null, .null, .null, .null, .int 0])), (q1, .inl (cI, 24, .inl (fun _ => 0)))] := hD
  refine zcput (ci := 1) (q0 := (RX1, TX1, 7)) (k := 0) (ty := .array .int) 0 F hK hP hD hS rfl rfl (by decide) (inT_in (i := 112) (by decide +kernel)) rfl (by decide +kernel) rfl rfl (Nat.le_of_ble_eq_true rfl) (show decode cX1_init 9 = .ok (.putfield 9, 3) by decide +kernel) (fun H locs hP hD hS => ?_)
  have hP : va_P D vwCl [(h0, .inr (1, [.ref q1, .null, .null, .null, .null, .null, .int 0])), (q1, .inl (cI, 24, .inl (fun _ => 0)))] H := hP
  have hD : va_D A [(h0, .inr (1, [.ref q1, .null, .null, .null, .null, .null, .int 0])), (q1, .inl (cI, 24, .inl (fun _ => 0)))] := hD
  refine lv_aload_n hx hb (show decode cX1_init 12 = .ok (.aload_n 0, 1) by decide +kernel) rfl (lv_at hl 0 rfl) ?_
  refine lv_bipush (v := 24) hx hb (show decode cX1_init 13 = .ok (.bipush 24, 2) by decide +kernel) (by decide) ?_
  refine zarrI (N := 24) F hK hP hD hS hA (by decide) (by decide) (by decide) (Nat.le_of_ble_eq_true rfl) (Nat.le_of_ble_eq_true rfl) (show decode cX1_init 15 = .ok (.newarray .int, 2) by decide +kernel) (fun q2 H hP hD hS => ?_)
  have hP : va_P D vwCl [(h0, .inr (1, [.ref q1, .null, .null, .null, .null, .null, .int 0])), (q1, .inl (cI, 24, .inl (fun _ => 0))), (q2, .inl (cI, 24, .inl (fun _ => 0)))] H := hP
  have hD : va_D A [(h0, .inr (1, [.ref q1, .null, .null, .null, .null, .null, .int 0])), (q1, .inl (cI, 24, .inl (fun _ => 0))), (q2, .inl (cI, 24, .inl (fun _ => 0)))] := hD
  refine zcput (ci := 1) (q0 := (RX1, TX1, 7)) (k := 1) (ty := .array .int) 0 F hK hP hD hS rfl rfl (by decide) (inT_in (i := 117) (by decide +kernel)) rfl (by decide +kernel) rfl rfl (Nat.le_of_ble_eq_true rfl) (show decode cX1_init 17 = .ok (.putfield 15, 3) by decide +kernel) (fun H locs hP hD hS => ?_)
  have hP : va_P D vwCl [(h0, .inr (1, [.ref q1, .ref q2, .null, .null, .null, .null, .int 0])), (q1, .inl (cI, 24, .inl (fun _ => 0))), (q2, .inl (cI, 24, .inl (fun _ => 0)))] H := hP
  have hD : va_D A [(h0, .inr (1, [.ref q1, .ref q2, .null, .null, .null, .null, .int 0])), (q1, .inl (cI, 24, .inl (fun _ => 0))), (q2, .inl (cI, 24, .inl (fun _ => 0)))] := hD
  refine lv_aload_n hx hb (show decode cX1_init 20 = .ok (.aload_n 0, 1) by decide +kernel) rfl (lv_at hl 0 rfl) ?_
  refine lv_bipush (v := 24) hx hb (show decode cX1_init 21 = .ok (.bipush 24, 2) by decide +kernel) (by decide) ?_
  refine zarrI (N := 24) F hK hP hD hS hA (by decide) (by decide) (by decide) (Nat.le_of_ble_eq_true rfl) (Nat.le_of_ble_eq_true rfl) (show decode cX1_init 23 = .ok (.newarray .int, 2) by decide +kernel) (fun q3 H hP hD hS => ?_)
  have hP : va_P D vwCl [(h0, .inr (1, [.ref q1, .ref q2, .null, .null, .null, .null, .int 0])), (q1, .inl (cI, 24, .inl (fun _ => 0))), (q2, .inl (cI, 24, .inl (fun _ => 0))), (q3, .inl (cI, 24, .inl (fun _ => 0)))] H := hP
  have hD : va_D A [(h0, .inr (1, [.ref q1, .ref q2, .null, .null, .null, .null, .int 0])), (q1, .inl (cI, 24, .inl (fun _ => 0))), (q2, .inl (cI, 24, .inl (fun _ => 0))), (q3, .inl (cI, 24, .inl (fun _ => 0)))] := hD
  refine zcput (ci := 1) (q0 := (RX1, TX1, 7)) (k := 2) (ty := .array .int) 0 F hK hP hD hS rfl rfl (by decide) (inT_in (i := 120) (by decide +kernel)) rfl (by decide +kernel) rfl rfl (Nat.le_of_ble_eq_true rfl) (show decode cX1_init 25 = .ok (.putfield 18, 3) by decide +kernel) (fun H locs hP hD hS => ?_)
  have hP : va_P D vwCl [(h0, .inr (1, [.ref q1, .ref q2, .ref q3, .null, .null, .null, .int 0])), (q1, .inl (cI, 24, .inl (fun _ => 0))), (q2, .inl (cI, 24, .inl (fun _ => 0))), (q3, .inl (cI, 24, .inl (fun _ => 0)))] H := hP
  have hD : va_D A [(h0, .inr (1, [.ref q1, .ref q2, .ref q3, .null, .null, .null, .int 0])), (q1, .inl (cI, 24, .inl (fun _ => 0))), (q2, .inl (cI, 24, .inl (fun _ => 0))), (q3, .inl (cI, 24, .inl (fun _ => 0)))] := hD
  refine lv_aload_n hx hb (show decode cX1_init 28 = .ok (.aload_n 0, 1) by decide +kernel) rfl (lv_at hl 0 rfl) ?_
  refine lv_bipush (v := 24) hx hb (show decode cX1_init 29 = .ok (.bipush 24, 2) by decide +kernel) (by decide) ?_
  refine zarrI (N := 24) F hK hP hD hS hA (by decide) (by decide) (by decide) (Nat.le_of_ble_eq_true rfl) (Nat.le_of_ble_eq_true rfl) (show decode cX1_init 31 = .ok (.newarray .int, 2) by decide +kernel) (fun q4 H hP hD hS => ?_)
  have hP : va_P D vwCl [(h0, .inr (1, [.ref q1, .ref q2, .ref q3, .null, .null, .null, .int 0])), (q1, .inl (cI, 24, .inl (fun _ => 0))), (q2, .inl (cI, 24, .inl (fun _ => 0))), (q3, .inl (cI, 24, .inl (fun _ => 0))), (q4, .inl (cI, 24, .inl (fun _ => 0)))] H := hP
  have hD : va_D A [(h0, .inr (1, [.ref q1, .ref q2, .ref q3, .null, .null, .null, .int 0])), (q1, .inl (cI, 24, .inl (fun _ => 0))), (q2, .inl (cI, 24, .inl (fun _ => 0))), (q3, .inl (cI, 24, .inl (fun _ => 0))), (q4, .inl (cI, 24, .inl (fun _ => 0)))] := hD
  refine zcput (ci := 1) (q0 := (RX1, TX1, 7)) (k := 3) (ty := .array .int) 0 F hK hP hD hS rfl rfl (by decide) (inT_in (i := 123) (by decide +kernel)) rfl (by decide +kernel) rfl rfl (Nat.le_of_ble_eq_true rfl) (show decode cX1_init 33 = .ok (.putfield 21, 3) by decide +kernel) (fun H locs hP hD hS => ?_)
  have hP : va_P D vwCl [(h0, .inr (1, [.ref q1, .ref q2, .ref q3, .ref q4, .null, .null, .int 0])), (q1, .inl (cI, 24, .inl (fun _ => 0))), (q2, .inl (cI, 24, .inl (fun _ => 0))), (q3, .inl (cI, 24, .inl (fun _ => 0))), (q4, .inl (cI, 24, .inl (fun _ => 0)))] H := hP
  have hD : va_D A [(h0, .inr (1, [.ref q1, .ref q2, .ref q3, .ref q4, .null, .null, .int 0])), (q1, .inl (cI, 24, .inl (fun _ => 0))), (q2, .inl (cI, 24, .inl (fun _ => 0))), (q3, .inl (cI, 24, .inl (fun _ => 0))), (q4, .inl (cI, 24, .inl (fun _ => 0)))] := hD
  refine lv_aload_n hx hb (show decode cX1_init 36 = .ok (.aload_n 0, 1) by decide +kernel) rfl (lv_at hl 0 rfl) ?_
  refine zcnew (ci := 3) (q0 := (RX3, TX3, 3)) (ty := tyX3) (fs := [.null, .null, .null]) F hK hP hD hS hA rfl tyX3_ok (inT_in (i := 95) (by decide +kernel)) (inT_in (i := 96) (by decide +kernel)) (inT_in (i := 64) (by decide +kernel)) dfX3 (Nat.le_of_ble_eq_true rfl) (Nat.le_of_ble_eq_true rfl) (show decode cX1_init 37 = .ok (.new 24, 3) by decide +kernel) (fun q5 H hP hD hS => ?_)
  have hP : va_P D vwCl [(h0, .inr (1, [.ref q1, .ref q2, .ref q3, .ref q4, .null, .null, .int 0])), (q1, .inl (cI, 24, .inl (fun _ => 0))), (q2, .inl (cI, 24, .inl (fun _ => 0))), (q3, .inl (cI, 24, .inl (fun _ => 0))), (q4, .inl (cI, 24, .inl (fun _ => 0))), (q5, .inr (3, [.null, .null, .null]))] H := hP
  have hD : va_D A [(h0, .inr (1, [.ref q1, .ref q2, .ref q3, .ref q4, .null, .null, .int 0])), (q1, .inl (cI, 24, .inl (fun _ => 0))), (q2, .inl (cI, 24, .inl (fun _ => 0))), (q3, .inl (cI, 24, .inl (fun _ => 0))), (q4, .inl (cI, 24, .inl (fun _ => 0))), (q5, .inr (3, [.null, .null, .null]))] := hD
  refine lv_dup hx hb (show decode cX1_init 40 = .ok (.dup, 1) by decide +kernel) rfl ?_
  refine zcalN (host := "RoomsDesk") (as := []) (rest := [.ref q5, .ref h0]) (b := q5) (wr := [(h0, .inr (1, [.ref q1, .ref q2, .ref q3, .ref q4, .null, .null, .int 0])), (q1, .inl (cI, 24, .inl (fun _ => 0))), (q2, .inl (cI, 24, .inl (fun _ => 0))), (q3, .inl (cI, 24, .inl (fun _ => 0))), (q4, .inl (cI, 24, .inl (fun _ => 0)))]) 5 [0, 1, 2, 3, 4] F (C_X3_init l D cI cB aT q5 ) (List.mem_of_getElem? (i := 1) rfl) (inT_in (i := 99) (by decide +kernel)) (inT_in (i := 64) (by decide +kernel)) (inT_in (i := 98) (by decide +kernel)) rfl (show yX3_init.cls ≠ "java/lang/invoke/MethodHandle" ∧ yX3_init.cls ≠ "java/lang/invoke/VarHandle" ∧ (parseMethodDescriptor yX3_init.desc).map (fun d => d.parameters.length) = some 0 by decide +kernel) rfl rfl ⟨Nat.le_of_ble_eq_true rfl, Nat.le_of_ble_eq_true rfl⟩ hK hP hD hS hA rfl rfl rfl (by decide) hl.1 (Nat.le_of_ble_eq_true rfl) (show decode cX1_init 41 = .ok (.invokespecial 26, 3) by decide +kernel) ⟨Nat.le_of_ble_eq_true rfl, Nat.le_of_ble_eq_true rfl⟩ (fun u6 H locs hP hD hS => ?_)
  have hP : va_P D vwCl [(h0, .inr (1, [.ref q1, .ref q2, .ref q3, .ref q4, .null, .null, .int 0])), (q1, .inl (cI, 24, .inl (fun _ => 0))), (q2, .inl (cI, 24, .inl (fun _ => 0))), (q3, .inl (cI, 24, .inl (fun _ => 0))), (q4, .inl (cI, 24, .inl (fun _ => 0))), (q5, .inr (3, [.ref (u6 0), .ref (u6 1), .ref (u6 2)])), ((u6 0), .inl (cI, 216, .inl (fun _ => 0))), ((u6 1), .inl (cI, 216, .inl (fun _ => 0))), ((u6 2), .inl (cI, 24, .inl (fun _ => 0)))] H := hP
  have hD : va_D A [(h0, .inr (1, [.ref q1, .ref q2, .ref q3, .ref q4, .null, .null, .int 0])), (q1, .inl (cI, 24, .inl (fun _ => 0))), (q2, .inl (cI, 24, .inl (fun _ => 0))), (q3, .inl (cI, 24, .inl (fun _ => 0))), (q4, .inl (cI, 24, .inl (fun _ => 0))), (q5, .inr (3, [.ref (u6 0), .ref (u6 1), .ref (u6 2)])), ((u6 0), .inl (cI, 216, .inl (fun _ => 0))), ((u6 1), .inl (cI, 216, .inl (fun _ => 0))), ((u6 2), .inl (cI, 24, .inl (fun _ => 0)))] := hD
  refine zcput (ci := 1) (q0 := (RX1, TX1, 7)) (k := 4) (ty := .object "RoomsDesk$Diary") 0 F hK hP hD hS rfl rfl (by decide) (inT_in (i := 126) (by decide +kernel)) rfl (by decide +kernel) rfl rfl (Nat.le_of_ble_eq_true rfl) (show decode cX1_init 44 = .ok (.putfield 27, 3) by decide +kernel) (fun H locs hP hD hS => ?_)
  have hP : va_P D vwCl [(h0, .inr (1, [.ref q1, .ref q2, .ref q3, .ref q4, .ref q5, .null, .int 0])), (q1, .inl (cI, 24, .inl (fun _ => 0))), (q2, .inl (cI, 24, .inl (fun _ => 0))), (q3, .inl (cI, 24, .inl (fun _ => 0))), (q4, .inl (cI, 24, .inl (fun _ => 0))), (q5, .inr (3, [.ref (u6 0), .ref (u6 1), .ref (u6 2)])), ((u6 0), .inl (cI, 216, .inl (fun _ => 0))), ((u6 1), .inl (cI, 216, .inl (fun _ => 0))), ((u6 2), .inl (cI, 24, .inl (fun _ => 0)))] H := hP
  have hD : va_D A [(h0, .inr (1, [.ref q1, .ref q2, .ref q3, .ref q4, .ref q5, .null, .int 0])), (q1, .inl (cI, 24, .inl (fun _ => 0))), (q2, .inl (cI, 24, .inl (fun _ => 0))), (q3, .inl (cI, 24, .inl (fun _ => 0))), (q4, .inl (cI, 24, .inl (fun _ => 0))), (q5, .inr (3, [.ref (u6 0), .ref (u6 1), .ref (u6 2)])), ((u6 0), .inl (cI, 216, .inl (fun _ => 0))), ((u6 1), .inl (cI, 216, .inl (fun _ => 0))), ((u6 2), .inl (cI, 24, .inl (fun _ => 0)))] := hD
  refine lv_aload_n hx hb (show decode cX1_init 47 = .ok (.aload_n 0, 1) by decide +kernel) rfl (lv_at hl 0 rfl) ?_
  refine zcnew (ci := 3) (q0 := (RX3, TX3, 3)) (ty := tyX3) (fs := [.null, .null, .null]) F hK hP hD hS hA rfl tyX3_ok (inT_in (i := 95) (by decide +kernel)) (inT_in (i := 96) (by decide +kernel)) (inT_in (i := 64) (by decide +kernel)) dfX3 (Nat.le_of_ble_eq_true rfl) (Nat.le_of_ble_eq_true rfl) (show decode cX1_init 48 = .ok (.new 24, 3) by decide +kernel) (fun q7 H hP hD hS => ?_)
  have hP : va_P D vwCl [(h0, .inr (1, [.ref q1, .ref q2, .ref q3, .ref q4, .ref q5, .null, .int 0])), (q1, .inl (cI, 24, .inl (fun _ => 0))), (q2, .inl (cI, 24, .inl (fun _ => 0))), (q3, .inl (cI, 24, .inl (fun _ => 0))), (q4, .inl (cI, 24, .inl (fun _ => 0))), (q5, .inr (3, [.ref (u6 0), .ref (u6 1), .ref (u6 2)])), ((u6 0), .inl (cI, 216, .inl (fun _ => 0))), ((u6 1), .inl (cI, 216, .inl (fun _ => 0))), ((u6 2), .inl (cI, 24, .inl (fun _ => 0))), (q7, .inr (3, [.null, .null, .null]))] H := hP
  have hD : va_D A [(h0, .inr (1, [.ref q1, .ref q2, .ref q3, .ref q4, .ref q5, .null, .int 0])), (q1, .inl (cI, 24, .inl (fun _ => 0))), (q2, .inl (cI, 24, .inl (fun _ => 0))), (q3, .inl (cI, 24, .inl (fun _ => 0))), (q4, .inl (cI, 24, .inl (fun _ => 0))), (q5, .inr (3, [.ref (u6 0), .ref (u6 1), .ref (u6 2)])), ((u6 0), .inl (cI, 216, .inl (fun _ => 0))), ((u6 1), .inl (cI, 216, .inl (fun _ => 0))), ((u6 2), .inl (cI, 24, .inl (fun _ => 0))), (q7, .inr (3, [.null, .null, .null]))] := hD
  refine lv_dup hx hb (show decode cX1_init 51 = .ok (.dup, 1) by decide +kernel) rfl ?_
  refine zcalN (host := "RoomsDesk") (as := []) (rest := [.ref q7, .ref h0]) (b := q7) (wr := [(h0, .inr (1, [.ref q1, .ref q2, .ref q3, .ref q4, .ref q5, .null, .int 0])), (q1, .inl (cI, 24, .inl (fun _ => 0))), (q2, .inl (cI, 24, .inl (fun _ => 0))), (q3, .inl (cI, 24, .inl (fun _ => 0))), (q4, .inl (cI, 24, .inl (fun _ => 0))), (q5, .inr (3, [.ref (u6 0), .ref (u6 1), .ref (u6 2)])), ((u6 0), .inl (cI, 216, .inl (fun _ => 0))), ((u6 1), .inl (cI, 216, .inl (fun _ => 0))), ((u6 2), .inl (cI, 24, .inl (fun _ => 0)))]) 9 [0, 1, 2, 3, 4, 5, 6, 7, 8] F (C_X3_init l D cI cB aT q7 ) (List.mem_of_getElem? (i := 1) rfl) (inT_in (i := 99) (by decide +kernel)) (inT_in (i := 64) (by decide +kernel)) (inT_in (i := 98) (by decide +kernel)) rfl (show yX3_init.cls ≠ "java/lang/invoke/MethodHandle" ∧ yX3_init.cls ≠ "java/lang/invoke/VarHandle" ∧ (parseMethodDescriptor yX3_init.desc).map (fun d => d.parameters.length) = some 0 by decide +kernel) rfl rfl ⟨Nat.le_of_ble_eq_true rfl, Nat.le_of_ble_eq_true rfl⟩ hK hP hD hS hA rfl rfl rfl (by decide) hl.1 (Nat.le_of_ble_eq_true rfl) (show decode cX1_init 52 = .ok (.invokespecial 26, 3) by decide +kernel) ⟨Nat.le_of_ble_eq_true rfl, Nat.le_of_ble_eq_true rfl⟩ (fun u8 H locs hP hD hS => ?_)
  have hP : va_P D vwCl [(h0, .inr (1, [.ref q1, .ref q2, .ref q3, .ref q4, .ref q5, .null, .int 0])), (q1, .inl (cI, 24, .inl (fun _ => 0))), (q2, .inl (cI, 24, .inl (fun _ => 0))), (q3, .inl (cI, 24, .inl (fun _ => 0))), (q4, .inl (cI, 24, .inl (fun _ => 0))), (q5, .inr (3, [.ref (u6 0), .ref (u6 1), .ref (u6 2)])), ((u6 0), .inl (cI, 216, .inl (fun _ => 0))), ((u6 1), .inl (cI, 216, .inl (fun _ => 0))), ((u6 2), .inl (cI, 24, .inl (fun _ => 0))), (q7, .inr (3, [.ref (u8 0), .ref (u8 1), .ref (u8 2)])), ((u8 0), .inl (cI, 216, .inl (fun _ => 0))), ((u8 1), .inl (cI, 216, .inl (fun _ => 0))), ((u8 2), .inl (cI, 24, .inl (fun _ => 0)))] H := hP
  have hD : va_D A [(h0, .inr (1, [.ref q1, .ref q2, .ref q3, .ref q4, .ref q5, .null, .int 0])), (q1, .inl (cI, 24, .inl (fun _ => 0))), (q2, .inl (cI, 24, .inl (fun _ => 0))), (q3, .inl (cI, 24, .inl (fun _ => 0))), (q4, .inl (cI, 24, .inl (fun _ => 0))), (q5, .inr (3, [.ref (u6 0), .ref (u6 1), .ref (u6 2)])), ((u6 0), .inl (cI, 216, .inl (fun _ => 0))), ((u6 1), .inl (cI, 216, .inl (fun _ => 0))), ((u6 2), .inl (cI, 24, .inl (fun _ => 0))), (q7, .inr (3, [.ref (u8 0), .ref (u8 1), .ref (u8 2)])), ((u8 0), .inl (cI, 216, .inl (fun _ => 0))), ((u8 1), .inl (cI, 216, .inl (fun _ => 0))), ((u8 2), .inl (cI, 24, .inl (fun _ => 0)))] := hD
  refine zcput (ci := 1) (q0 := (RX1, TX1, 7)) (k := 5) (ty := .object "RoomsDesk$Diary") 0 F hK hP hD hS rfl rfl (by decide) (inT_in (i := 128) (by decide +kernel)) rfl (by decide +kernel) rfl rfl (Nat.le_of_ble_eq_true rfl) (show decode cX1_init 55 = .ok (.putfield 31, 3) by decide +kernel) (fun H locs hP hD hS => ?_)
  have hP : va_P D vwCl [(h0, .inr (1, [.ref q1, .ref q2, .ref q3, .ref q4, .ref q5, .ref q7, .int 0])), (q1, .inl (cI, 24, .inl (fun _ => 0))), (q2, .inl (cI, 24, .inl (fun _ => 0))), (q3, .inl (cI, 24, .inl (fun _ => 0))), (q4, .inl (cI, 24, .inl (fun _ => 0))), (q5, .inr (3, [.ref (u6 0), .ref (u6 1), .ref (u6 2)])), ((u6 0), .inl (cI, 216, .inl (fun _ => 0))), ((u6 1), .inl (cI, 216, .inl (fun _ => 0))), ((u6 2), .inl (cI, 24, .inl (fun _ => 0))), (q7, .inr (3, [.ref (u8 0), .ref (u8 1), .ref (u8 2)])), ((u8 0), .inl (cI, 216, .inl (fun _ => 0))), ((u8 1), .inl (cI, 216, .inl (fun _ => 0))), ((u8 2), .inl (cI, 24, .inl (fun _ => 0)))] H := hP
  have hD : va_D A [(h0, .inr (1, [.ref q1, .ref q2, .ref q3, .ref q4, .ref q5, .ref q7, .int 0])), (q1, .inl (cI, 24, .inl (fun _ => 0))), (q2, .inl (cI, 24, .inl (fun _ => 0))), (q3, .inl (cI, 24, .inl (fun _ => 0))), (q4, .inl (cI, 24, .inl (fun _ => 0))), (q5, .inr (3, [.ref (u6 0), .ref (u6 1), .ref (u6 2)])), ((u6 0), .inl (cI, 216, .inl (fun _ => 0))), ((u6 1), .inl (cI, 216, .inl (fun _ => 0))), ((u6 2), .inl (cI, 24, .inl (fun _ => 0))), (q7, .inr (3, [.ref (u8 0), .ref (u8 1), .ref (u8 2)])), ((u8 0), .inl (cI, 216, .inl (fun _ => 0))), ((u8 1), .inl (cI, 216, .inl (fun _ => 0))), ((u8 2), .inl (cI, 24, .inl (fun _ => 0)))] := hD
  exact zcret (res := rs_X1_init cI cB aT h0) F (show decode cX1_init 58 = .ok (.return_, 1) by decide +kernel) (fun k => [q1, q2, q3, q4, q5, (u6 0), (u6 1), (u6 2), q7, (u8 0), (u8 1), (u8 2)].getD k 0) hP hD hS
def rs_X0_init (cI cB : ClassId) (aT h0 : Nat) (q : Nat → Nat) : va_W := [(h0, .inr (0, [.ref (q 0), .ref (q 1), .ref (q 2), .ref (q 3), .ref (q 4), .int 0, .int 0])), ((q 0), .inl (cI, 16, .inl (fun _ => 0))), ((q 1), .inl (cI, 16, .inl (fun _ => 0))), ((q 2), .inl (cI, 16, .inl (fun _ => 0))), ((q 3), .inl (cI, 16, .inl (fun _ => 0))), ((q 4), .inl (cI, 16, .inl (fun _ => 0)))]
set_option maxHeartbeats 4000000 in
set_option maxRecDepth 100000 in
theorem C_X0_init (l : Launch) (D : va_G) (cI cB : ClassId) (aT h0 : Nat) : zCt l D cI cB aT yX0_init cX0_init 1 ({ frames := 1, cells := 5, slots := 80, locals := 20 }) 5 80 0 [.null, .null, .null, .null, .null, .int 0, .int 0] [] h0 (rs_X0_init cI cB aT h0) := by
  refine zCt_of (by decide) rfl (Nat.le_of_ble_eq_true rfl) ?_
  intro p e s m args below meth c F hK A hA hP hD ls hl
  have hx := F.1
  have hb := F.2.1
  have hts := F.2.2.2.2.1
  have hS : va_S A s.heap s.heap [] := va_S.rf
  have hl : lv_has ls 1 [(0, .ref h0)] := hl
  refine lv_aload_n hx hb (show decode cX0_init 0 = .ok (.aload_n 0, 1) by decide +kernel) rfl (lv_at hl 0 rfl) ?_
  refine zobj F hl.1 (inT_in (i := 155) (by decide +kernel)) (show decode cX0_init 1 = .ok (.invokespecial 3, 3) by decide +kernel) (Nat.le_of_ble_eq_true rfl) (Nat.le_of_ble_eq_true rfl) ?_
  refine lv_aload_n hx hb (show decode cX0_init 4 = .ok (.aload_n 0, 1) by decide +kernel) rfl (lv_at hl 0 rfl) ?_
  refine lv_bipush (v := 16) hx hb (show decode cX0_init 5 = .ok (.bipush 16, 2) by decide +kernel) (by decide) ?_
  refine zarrI (N := 16) F hK hP hD hS hA (by decide) (by decide) (by decide) (Nat.le_of_ble_eq_true rfl) (Nat.le_of_ble_eq_true rfl) (show decode cX0_init 7 = .ok (.newarray .int, 2) by decide +kernel) (fun q1 H hP hD hS => ?_)
  have hP : va_P D vwCl [(h0, .inr (0, [.null, .null, .null, .null, .null, .int 0, .int 0])), (q1, .inl (cI, 16, .inl (fun _ => 0)))] H := hP
  have hD : va_D A [(h0, .inr (0, [.null, .null, .null, .null, .null, .int 0, .int 0])), (q1, .inl (cI, 16, .inl (fun _ => 0)))] := hD
  refine zcput (ci := 0) (q0 := (RX0, TX0, 7)) (k := 0) (ty := .array .int) 0 F hK hP hD hS rfl rfl (by decide) (inT_in (i := 156) (by decide +kernel)) rfl (by decide +kernel) rfl rfl (Nat.le_of_ble_eq_true rfl) (show decode cX0_init 9 = .ok (.putfield 9, 3) by decide +kernel) (fun H locs hP hD hS => ?_)
  have hP : va_P D vwCl [(h0, .inr (0, [.ref q1, .null, .null, .null, .null, .int 0, .int 0])), (q1, .inl (cI, 16, .inl (fun _ => 0)))] H := hP
  have hD : va_D A [(h0, .inr (0, [.ref q1, .null, .null, .null, .null, .int 0, .int 0])), (q1, .inl (cI, 16, .inl (fun _ => 0)))] := hD
  refine lv_aload_n hx hb (show decode cX0_init 12 = .ok (.aload_n 0, 1) by decide +kernel) rfl (lv_at hl 0 rfl) ?_
  refine lv_bipush (v := 16) hx hb (show decode cX0_init 13 = .ok (.bipush 16, 2) by decide +kernel) (by decide) ?_
  refine zarrI (N := 16) F hK hP hD hS hA (by decide) (by decide) (by decide) (Nat.le_of_ble_eq_true rfl) (Nat.le_of_ble_eq_true rfl) (show decode cX0_init 15 = .ok (.newarray .int, 2) by decide +kernel) (fun q2 H hP hD hS => ?_)
  have hP : va_P D vwCl [(h0, .inr (0, [.ref q1, .null, .null, .null, .null, .int 0, .int 0])), (q1, .inl (cI, 16, .inl (fun _ => 0))), (q2, .inl (cI, 16, .inl (fun _ => 0)))] H := hP
  have hD : va_D A [(h0, .inr (0, [.ref q1, .null, .null, .null, .null, .int 0, .int 0])), (q1, .inl (cI, 16, .inl (fun _ => 0))), (q2, .inl (cI, 16, .inl (fun _ => 0)))] := hD
  refine zcput (ci := 0) (q0 := (RX0, TX0, 7)) (k := 1) (ty := .array .int) 0 F hK hP hD hS rfl rfl (by decide) (inT_in (i := 159) (by decide +kernel)) rfl (by decide +kernel) rfl rfl (Nat.le_of_ble_eq_true rfl) (show decode cX0_init 17 = .ok (.putfield 15, 3) by decide +kernel) (fun H locs hP hD hS => ?_)
  have hP : va_P D vwCl [(h0, .inr (0, [.ref q1, .ref q2, .null, .null, .null, .int 0, .int 0])), (q1, .inl (cI, 16, .inl (fun _ => 0))), (q2, .inl (cI, 16, .inl (fun _ => 0)))] H := hP
  have hD : va_D A [(h0, .inr (0, [.ref q1, .ref q2, .null, .null, .null, .int 0, .int 0])), (q1, .inl (cI, 16, .inl (fun _ => 0))), (q2, .inl (cI, 16, .inl (fun _ => 0)))] := hD
  refine lv_aload_n hx hb (show decode cX0_init 20 = .ok (.aload_n 0, 1) by decide +kernel) rfl (lv_at hl 0 rfl) ?_
  refine lv_bipush (v := 16) hx hb (show decode cX0_init 21 = .ok (.bipush 16, 2) by decide +kernel) (by decide) ?_
  refine zarrI (N := 16) F hK hP hD hS hA (by decide) (by decide) (by decide) (Nat.le_of_ble_eq_true rfl) (Nat.le_of_ble_eq_true rfl) (show decode cX0_init 23 = .ok (.newarray .int, 2) by decide +kernel) (fun q3 H hP hD hS => ?_)
  have hP : va_P D vwCl [(h0, .inr (0, [.ref q1, .ref q2, .null, .null, .null, .int 0, .int 0])), (q1, .inl (cI, 16, .inl (fun _ => 0))), (q2, .inl (cI, 16, .inl (fun _ => 0))), (q3, .inl (cI, 16, .inl (fun _ => 0)))] H := hP
  have hD : va_D A [(h0, .inr (0, [.ref q1, .ref q2, .null, .null, .null, .int 0, .int 0])), (q1, .inl (cI, 16, .inl (fun _ => 0))), (q2, .inl (cI, 16, .inl (fun _ => 0))), (q3, .inl (cI, 16, .inl (fun _ => 0)))] := hD
  refine zcput (ci := 0) (q0 := (RX0, TX0, 7)) (k := 2) (ty := .array .int) 0 F hK hP hD hS rfl rfl (by decide) (inT_in (i := 160) (by decide +kernel)) rfl (by decide +kernel) rfl rfl (Nat.le_of_ble_eq_true rfl) (show decode cX0_init 25 = .ok (.putfield 18, 3) by decide +kernel) (fun H locs hP hD hS => ?_)
  have hP : va_P D vwCl [(h0, .inr (0, [.ref q1, .ref q2, .ref q3, .null, .null, .int 0, .int 0])), (q1, .inl (cI, 16, .inl (fun _ => 0))), (q2, .inl (cI, 16, .inl (fun _ => 0))), (q3, .inl (cI, 16, .inl (fun _ => 0)))] H := hP
  have hD : va_D A [(h0, .inr (0, [.ref q1, .ref q2, .ref q3, .null, .null, .int 0, .int 0])), (q1, .inl (cI, 16, .inl (fun _ => 0))), (q2, .inl (cI, 16, .inl (fun _ => 0))), (q3, .inl (cI, 16, .inl (fun _ => 0)))] := hD
  refine lv_aload_n hx hb (show decode cX0_init 28 = .ok (.aload_n 0, 1) by decide +kernel) rfl (lv_at hl 0 rfl) ?_
  refine lv_bipush (v := 16) hx hb (show decode cX0_init 29 = .ok (.bipush 16, 2) by decide +kernel) (by decide) ?_
  refine zarrI (N := 16) F hK hP hD hS hA (by decide) (by decide) (by decide) (Nat.le_of_ble_eq_true rfl) (Nat.le_of_ble_eq_true rfl) (show decode cX0_init 31 = .ok (.newarray .int, 2) by decide +kernel) (fun q4 H hP hD hS => ?_)
  have hP : va_P D vwCl [(h0, .inr (0, [.ref q1, .ref q2, .ref q3, .null, .null, .int 0, .int 0])), (q1, .inl (cI, 16, .inl (fun _ => 0))), (q2, .inl (cI, 16, .inl (fun _ => 0))), (q3, .inl (cI, 16, .inl (fun _ => 0))), (q4, .inl (cI, 16, .inl (fun _ => 0)))] H := hP
  have hD : va_D A [(h0, .inr (0, [.ref q1, .ref q2, .ref q3, .null, .null, .int 0, .int 0])), (q1, .inl (cI, 16, .inl (fun _ => 0))), (q2, .inl (cI, 16, .inl (fun _ => 0))), (q3, .inl (cI, 16, .inl (fun _ => 0))), (q4, .inl (cI, 16, .inl (fun _ => 0)))] := hD
  refine zcput (ci := 0) (q0 := (RX0, TX0, 7)) (k := 3) (ty := .array .int) 0 F hK hP hD hS rfl rfl (by decide) (inT_in (i := 161) (by decide +kernel)) rfl (by decide +kernel) rfl rfl (Nat.le_of_ble_eq_true rfl) (show decode cX0_init 33 = .ok (.putfield 21, 3) by decide +kernel) (fun H locs hP hD hS => ?_)
  have hP : va_P D vwCl [(h0, .inr (0, [.ref q1, .ref q2, .ref q3, .ref q4, .null, .int 0, .int 0])), (q1, .inl (cI, 16, .inl (fun _ => 0))), (q2, .inl (cI, 16, .inl (fun _ => 0))), (q3, .inl (cI, 16, .inl (fun _ => 0))), (q4, .inl (cI, 16, .inl (fun _ => 0)))] H := hP
  have hD : va_D A [(h0, .inr (0, [.ref q1, .ref q2, .ref q3, .ref q4, .null, .int 0, .int 0])), (q1, .inl (cI, 16, .inl (fun _ => 0))), (q2, .inl (cI, 16, .inl (fun _ => 0))), (q3, .inl (cI, 16, .inl (fun _ => 0))), (q4, .inl (cI, 16, .inl (fun _ => 0)))] := hD
  refine lv_aload_n hx hb (show decode cX0_init 36 = .ok (.aload_n 0, 1) by decide +kernel) rfl (lv_at hl 0 rfl) ?_
  refine lv_bipush (v := 16) hx hb (show decode cX0_init 37 = .ok (.bipush 16, 2) by decide +kernel) (by decide) ?_
  refine zarrI (N := 16) F hK hP hD hS hA (by decide) (by decide) (by decide) (Nat.le_of_ble_eq_true rfl) (Nat.le_of_ble_eq_true rfl) (show decode cX0_init 39 = .ok (.newarray .int, 2) by decide +kernel) (fun q5 H hP hD hS => ?_)
  have hP : va_P D vwCl [(h0, .inr (0, [.ref q1, .ref q2, .ref q3, .ref q4, .null, .int 0, .int 0])), (q1, .inl (cI, 16, .inl (fun _ => 0))), (q2, .inl (cI, 16, .inl (fun _ => 0))), (q3, .inl (cI, 16, .inl (fun _ => 0))), (q4, .inl (cI, 16, .inl (fun _ => 0))), (q5, .inl (cI, 16, .inl (fun _ => 0)))] H := hP
  have hD : va_D A [(h0, .inr (0, [.ref q1, .ref q2, .ref q3, .ref q4, .null, .int 0, .int 0])), (q1, .inl (cI, 16, .inl (fun _ => 0))), (q2, .inl (cI, 16, .inl (fun _ => 0))), (q3, .inl (cI, 16, .inl (fun _ => 0))), (q4, .inl (cI, 16, .inl (fun _ => 0))), (q5, .inl (cI, 16, .inl (fun _ => 0)))] := hD
  refine zcput (ci := 0) (q0 := (RX0, TX0, 7)) (k := 4) (ty := .array .int) 0 F hK hP hD hS rfl rfl (by decide) (inT_in (i := 162) (by decide +kernel)) rfl (by decide +kernel) rfl rfl (Nat.le_of_ble_eq_true rfl) (show decode cX0_init 41 = .ok (.putfield 24, 3) by decide +kernel) (fun H locs hP hD hS => ?_)
  have hP : va_P D vwCl [(h0, .inr (0, [.ref q1, .ref q2, .ref q3, .ref q4, .ref q5, .int 0, .int 0])), (q1, .inl (cI, 16, .inl (fun _ => 0))), (q2, .inl (cI, 16, .inl (fun _ => 0))), (q3, .inl (cI, 16, .inl (fun _ => 0))), (q4, .inl (cI, 16, .inl (fun _ => 0))), (q5, .inl (cI, 16, .inl (fun _ => 0)))] H := hP
  have hD : va_D A [(h0, .inr (0, [.ref q1, .ref q2, .ref q3, .ref q4, .ref q5, .int 0, .int 0])), (q1, .inl (cI, 16, .inl (fun _ => 0))), (q2, .inl (cI, 16, .inl (fun _ => 0))), (q3, .inl (cI, 16, .inl (fun _ => 0))), (q4, .inl (cI, 16, .inl (fun _ => 0))), (q5, .inl (cI, 16, .inl (fun _ => 0)))] := hD
  exact zcret (res := rs_X0_init cI cB aT h0) F (show decode cX0_init 44 = .ok (.return_, 1) by decide +kernel) (fun k => [q1, q2, q3, q4, q5].getD k 0) hP hD hS
def rs_X10_init (cI cB : ClassId) (aT h0 : Nat) (a1 : Nat) (a2 : Nat) (v3 : Int32) (q : Nat → Nat) : va_W := [(h0, .inr (10, [.ref a1, .ref a2, .int v3, .ref (q 0), .ref (q 1), .ref (q 2), .ref (q 3), .ref (q 4), .ref (q 5), .int 0, .int 0, .int 0])), ((q 0), .inl (cI, 24, .inl (fun _ => 0))), ((q 1), .inl (cI, 24, .inl (fun _ => 0))), ((q 2), .inl (cI, 24, .inl (fun _ => 0))), ((q 3), .inl (cI, 24, .inl (fun _ => 0))), ((q 4), .inl (cI, 6, .inl (fun _ => 0))), ((q 5), .inl (cI, 2400, .inl (fun _ => 0)))]
set_option maxHeartbeats 4000000 in
set_option maxRecDepth 100000 in
theorem C_X10_init (l : Launch) (D : va_G) (cI cB : ClassId) (aT h0 : Nat) (a1 : Nat) (a2 : Nat) (v3 : Int32) : zCt l D cI cB aT yX10_init cX10_init 4 ({ frames := 1, cells := 6, slots := 2502, locals := 20 }) 6 2502 10 [.null, .null, .int 0, .null, .null, .null, .null, .null, .null, .int 0, .int 0, .int 0] [.ref a1, .ref a2, .int v3] h0 (rs_X10_init cI cB aT h0 a1 a2 v3) := by
  refine zCt_of (by decide) rfl (Nat.le_of_ble_eq_true rfl) ?_
  intro p e s m args below meth c F hK A hA hP hD ls hl
  have hx := F.1
  have hb := F.2.1
  have hts := F.2.2.2.2.1
  have hS : va_S A s.heap s.heap [] := va_S.rf
  have hl : lv_has ls 4 [(0, .ref h0), (1, .ref a1), (2, .ref a2), (3, .int v3)] := hl
  refine lv_aload_n hx hb (show decode cX10_init 0 = .ok (.aload_n 0, 1) by decide +kernel) rfl (lv_at hl 0 rfl) ?_
  refine zobj F hl.1 (inT_in (i := 190) (by decide +kernel)) (show decode cX10_init 1 = .ok (.invokespecial 3, 3) by decide +kernel) (Nat.le_of_ble_eq_true rfl) (Nat.le_of_ble_eq_true rfl) ?_
  refine lv_aload_n hx hb (show decode cX10_init 4 = .ok (.aload_n 0, 1) by decide +kernel) rfl (lv_at hl 0 rfl) ?_
  refine lv_bipush (v := 24) hx hb (show decode cX10_init 5 = .ok (.bipush 24, 2) by decide +kernel) (by decide) ?_
  refine zarrI (N := 24) F hK hP hD hS hA (by decide) (by decide) (by decide) (Nat.le_of_ble_eq_true rfl) (Nat.le_of_ble_eq_true rfl) (show decode cX10_init 7 = .ok (.newarray .int, 2) by decide +kernel) (fun q1 H hP hD hS => ?_)
  have hP : va_P D vwCl [(h0, .inr (10, [.null, .null, .int 0, .null, .null, .null, .null, .null, .null, .int 0, .int 0, .int 0])), (q1, .inl (cI, 24, .inl (fun _ => 0)))] H := hP
  have hD : va_D A [(h0, .inr (10, [.null, .null, .int 0, .null, .null, .null, .null, .null, .null, .int 0, .int 0, .int 0])), (q1, .inl (cI, 24, .inl (fun _ => 0)))] := hD
  refine zcput (ci := 10) (q0 := (RX10, TX10, 12)) (k := 3) (ty := .array .int) 0 F hK hP hD hS rfl rfl (by decide) (inT_in (i := 194) (by decide +kernel)) rfl (by decide +kernel) rfl rfl (Nat.le_of_ble_eq_true rfl) (show decode cX10_init 9 = .ok (.putfield 9, 3) by decide +kernel) (fun H locs hP hD hS => ?_)
  have hP : va_P D vwCl [(h0, .inr (10, [.null, .null, .int 0, .ref q1, .null, .null, .null, .null, .null, .int 0, .int 0, .int 0])), (q1, .inl (cI, 24, .inl (fun _ => 0)))] H := hP
  have hD : va_D A [(h0, .inr (10, [.null, .null, .int 0, .ref q1, .null, .null, .null, .null, .null, .int 0, .int 0, .int 0])), (q1, .inl (cI, 24, .inl (fun _ => 0)))] := hD
  refine lv_aload_n hx hb (show decode cX10_init 12 = .ok (.aload_n 0, 1) by decide +kernel) rfl (lv_at hl 0 rfl) ?_
  refine lv_bipush (v := 24) hx hb (show decode cX10_init 13 = .ok (.bipush 24, 2) by decide +kernel) (by decide) ?_
  refine zarrI (N := 24) F hK hP hD hS hA (by decide) (by decide) (by decide) (Nat.le_of_ble_eq_true rfl) (Nat.le_of_ble_eq_true rfl) (show decode cX10_init 15 = .ok (.newarray .int, 2) by decide +kernel) (fun q2 H hP hD hS => ?_)
  have hP : va_P D vwCl [(h0, .inr (10, [.null, .null, .int 0, .ref q1, .null, .null, .null, .null, .null, .int 0, .int 0, .int 0])), (q1, .inl (cI, 24, .inl (fun _ => 0))), (q2, .inl (cI, 24, .inl (fun _ => 0)))] H := hP
  have hD : va_D A [(h0, .inr (10, [.null, .null, .int 0, .ref q1, .null, .null, .null, .null, .null, .int 0, .int 0, .int 0])), (q1, .inl (cI, 24, .inl (fun _ => 0))), (q2, .inl (cI, 24, .inl (fun _ => 0)))] := hD
  refine zcput (ci := 10) (q0 := (RX10, TX10, 12)) (k := 4) (ty := .array .int) 0 F hK hP hD hS rfl rfl (by decide) (inT_in (i := 195) (by decide +kernel)) rfl (by decide +kernel) rfl rfl (Nat.le_of_ble_eq_true rfl) (show decode cX10_init 17 = .ok (.putfield 15, 3) by decide +kernel) (fun H locs hP hD hS => ?_)
  have hP : va_P D vwCl [(h0, .inr (10, [.null, .null, .int 0, .ref q1, .ref q2, .null, .null, .null, .null, .int 0, .int 0, .int 0])), (q1, .inl (cI, 24, .inl (fun _ => 0))), (q2, .inl (cI, 24, .inl (fun _ => 0)))] H := hP
  have hD : va_D A [(h0, .inr (10, [.null, .null, .int 0, .ref q1, .ref q2, .null, .null, .null, .null, .int 0, .int 0, .int 0])), (q1, .inl (cI, 24, .inl (fun _ => 0))), (q2, .inl (cI, 24, .inl (fun _ => 0)))] := hD
  refine lv_aload_n hx hb (show decode cX10_init 20 = .ok (.aload_n 0, 1) by decide +kernel) rfl (lv_at hl 0 rfl) ?_
  refine lv_bipush (v := 24) hx hb (show decode cX10_init 21 = .ok (.bipush 24, 2) by decide +kernel) (by decide) ?_
  refine zarrI (N := 24) F hK hP hD hS hA (by decide) (by decide) (by decide) (Nat.le_of_ble_eq_true rfl) (Nat.le_of_ble_eq_true rfl) (show decode cX10_init 23 = .ok (.newarray .int, 2) by decide +kernel) (fun q3 H hP hD hS => ?_)
  have hP : va_P D vwCl [(h0, .inr (10, [.null, .null, .int 0, .ref q1, .ref q2, .null, .null, .null, .null, .int 0, .int 0, .int 0])), (q1, .inl (cI, 24, .inl (fun _ => 0))), (q2, .inl (cI, 24, .inl (fun _ => 0))), (q3, .inl (cI, 24, .inl (fun _ => 0)))] H := hP
  have hD : va_D A [(h0, .inr (10, [.null, .null, .int 0, .ref q1, .ref q2, .null, .null, .null, .null, .int 0, .int 0, .int 0])), (q1, .inl (cI, 24, .inl (fun _ => 0))), (q2, .inl (cI, 24, .inl (fun _ => 0))), (q3, .inl (cI, 24, .inl (fun _ => 0)))] := hD
  refine zcput (ci := 10) (q0 := (RX10, TX10, 12)) (k := 5) (ty := .array .int) 0 F hK hP hD hS rfl rfl (by decide) (inT_in (i := 197) (by decide +kernel)) rfl (by decide +kernel) rfl rfl (Nat.le_of_ble_eq_true rfl) (show decode cX10_init 25 = .ok (.putfield 18, 3) by decide +kernel) (fun H locs hP hD hS => ?_)
  have hP : va_P D vwCl [(h0, .inr (10, [.null, .null, .int 0, .ref q1, .ref q2, .ref q3, .null, .null, .null, .int 0, .int 0, .int 0])), (q1, .inl (cI, 24, .inl (fun _ => 0))), (q2, .inl (cI, 24, .inl (fun _ => 0))), (q3, .inl (cI, 24, .inl (fun _ => 0)))] H := hP
  have hD : va_D A [(h0, .inr (10, [.null, .null, .int 0, .ref q1, .ref q2, .ref q3, .null, .null, .null, .int 0, .int 0, .int 0])), (q1, .inl (cI, 24, .inl (fun _ => 0))), (q2, .inl (cI, 24, .inl (fun _ => 0))), (q3, .inl (cI, 24, .inl (fun _ => 0)))] := hD
  refine lv_aload_n hx hb (show decode cX10_init 28 = .ok (.aload_n 0, 1) by decide +kernel) rfl (lv_at hl 0 rfl) ?_
  refine lv_bipush (v := 24) hx hb (show decode cX10_init 29 = .ok (.bipush 24, 2) by decide +kernel) (by decide) ?_
  refine zarrI (N := 24) F hK hP hD hS hA (by decide) (by decide) (by decide) (Nat.le_of_ble_eq_true rfl) (Nat.le_of_ble_eq_true rfl) (show decode cX10_init 31 = .ok (.newarray .int, 2) by decide +kernel) (fun q4 H hP hD hS => ?_)
  have hP : va_P D vwCl [(h0, .inr (10, [.null, .null, .int 0, .ref q1, .ref q2, .ref q3, .null, .null, .null, .int 0, .int 0, .int 0])), (q1, .inl (cI, 24, .inl (fun _ => 0))), (q2, .inl (cI, 24, .inl (fun _ => 0))), (q3, .inl (cI, 24, .inl (fun _ => 0))), (q4, .inl (cI, 24, .inl (fun _ => 0)))] H := hP
  have hD : va_D A [(h0, .inr (10, [.null, .null, .int 0, .ref q1, .ref q2, .ref q3, .null, .null, .null, .int 0, .int 0, .int 0])), (q1, .inl (cI, 24, .inl (fun _ => 0))), (q2, .inl (cI, 24, .inl (fun _ => 0))), (q3, .inl (cI, 24, .inl (fun _ => 0))), (q4, .inl (cI, 24, .inl (fun _ => 0)))] := hD
  refine zcput (ci := 10) (q0 := (RX10, TX10, 12)) (k := 6) (ty := .array .int) 0 F hK hP hD hS rfl rfl (by decide) (inT_in (i := 198) (by decide +kernel)) rfl (by decide +kernel) rfl rfl (Nat.le_of_ble_eq_true rfl) (show decode cX10_init 33 = .ok (.putfield 21, 3) by decide +kernel) (fun H locs hP hD hS => ?_)
  have hP : va_P D vwCl [(h0, .inr (10, [.null, .null, .int 0, .ref q1, .ref q2, .ref q3, .ref q4, .null, .null, .int 0, .int 0, .int 0])), (q1, .inl (cI, 24, .inl (fun _ => 0))), (q2, .inl (cI, 24, .inl (fun _ => 0))), (q3, .inl (cI, 24, .inl (fun _ => 0))), (q4, .inl (cI, 24, .inl (fun _ => 0)))] H := hP
  have hD : va_D A [(h0, .inr (10, [.null, .null, .int 0, .ref q1, .ref q2, .ref q3, .ref q4, .null, .null, .int 0, .int 0, .int 0])), (q1, .inl (cI, 24, .inl (fun _ => 0))), (q2, .inl (cI, 24, .inl (fun _ => 0))), (q3, .inl (cI, 24, .inl (fun _ => 0))), (q4, .inl (cI, 24, .inl (fun _ => 0)))] := hD
  refine lv_aload_n hx hb (show decode cX10_init 36 = .ok (.aload_n 0, 1) by decide +kernel) rfl (lv_at hl 0 rfl) ?_
  refine lv_bipush (v := 6) hx hb (show decode cX10_init 37 = .ok (.bipush 6, 2) by decide +kernel) (by decide) ?_
  refine zarrI (N := 6) F hK hP hD hS hA (by decide) (by decide) (by decide) (Nat.le_of_ble_eq_true rfl) (Nat.le_of_ble_eq_true rfl) (show decode cX10_init 39 = .ok (.newarray .int, 2) by decide +kernel) (fun q5 H hP hD hS => ?_)
  have hP : va_P D vwCl [(h0, .inr (10, [.null, .null, .int 0, .ref q1, .ref q2, .ref q3, .ref q4, .null, .null, .int 0, .int 0, .int 0])), (q1, .inl (cI, 24, .inl (fun _ => 0))), (q2, .inl (cI, 24, .inl (fun _ => 0))), (q3, .inl (cI, 24, .inl (fun _ => 0))), (q4, .inl (cI, 24, .inl (fun _ => 0))), (q5, .inl (cI, 6, .inl (fun _ => 0)))] H := hP
  have hD : va_D A [(h0, .inr (10, [.null, .null, .int 0, .ref q1, .ref q2, .ref q3, .ref q4, .null, .null, .int 0, .int 0, .int 0])), (q1, .inl (cI, 24, .inl (fun _ => 0))), (q2, .inl (cI, 24, .inl (fun _ => 0))), (q3, .inl (cI, 24, .inl (fun _ => 0))), (q4, .inl (cI, 24, .inl (fun _ => 0))), (q5, .inl (cI, 6, .inl (fun _ => 0)))] := hD
  refine zcput (ci := 10) (q0 := (RX10, TX10, 12)) (k := 7) (ty := .array .int) 0 F hK hP hD hS rfl rfl (by decide) (inT_in (i := 199) (by decide +kernel)) rfl (by decide +kernel) rfl rfl (Nat.le_of_ble_eq_true rfl) (show decode cX10_init 41 = .ok (.putfield 24, 3) by decide +kernel) (fun H locs hP hD hS => ?_)
  have hP : va_P D vwCl [(h0, .inr (10, [.null, .null, .int 0, .ref q1, .ref q2, .ref q3, .ref q4, .ref q5, .null, .int 0, .int 0, .int 0])), (q1, .inl (cI, 24, .inl (fun _ => 0))), (q2, .inl (cI, 24, .inl (fun _ => 0))), (q3, .inl (cI, 24, .inl (fun _ => 0))), (q4, .inl (cI, 24, .inl (fun _ => 0))), (q5, .inl (cI, 6, .inl (fun _ => 0)))] H := hP
  have hD : va_D A [(h0, .inr (10, [.null, .null, .int 0, .ref q1, .ref q2, .ref q3, .ref q4, .ref q5, .null, .int 0, .int 0, .int 0])), (q1, .inl (cI, 24, .inl (fun _ => 0))), (q2, .inl (cI, 24, .inl (fun _ => 0))), (q3, .inl (cI, 24, .inl (fun _ => 0))), (q4, .inl (cI, 24, .inl (fun _ => 0))), (q5, .inl (cI, 6, .inl (fun _ => 0)))] := hD
  refine lv_aload_n hx hb (show decode cX10_init 44 = .ok (.aload_n 0, 1) by decide +kernel) rfl (lv_at hl 0 rfl) ?_
  refine lv_sipush (v := 2400) hx hb (show decode cX10_init 45 = .ok (.sipush 2400, 3) by decide +kernel) (by decide) ?_
  refine zarrI (N := 2400) F hK hP hD hS hA (by decide) (by decide) (by decide) (Nat.le_of_ble_eq_true rfl) (Nat.le_of_ble_eq_true rfl) (show decode cX10_init 48 = .ok (.newarray .int, 2) by decide +kernel) (fun q6 H hP hD hS => ?_)
  have hP : va_P D vwCl [(h0, .inr (10, [.null, .null, .int 0, .ref q1, .ref q2, .ref q3, .ref q4, .ref q5, .null, .int 0, .int 0, .int 0])), (q1, .inl (cI, 24, .inl (fun _ => 0))), (q2, .inl (cI, 24, .inl (fun _ => 0))), (q3, .inl (cI, 24, .inl (fun _ => 0))), (q4, .inl (cI, 24, .inl (fun _ => 0))), (q5, .inl (cI, 6, .inl (fun _ => 0))), (q6, .inl (cI, 2400, .inl (fun _ => 0)))] H := hP
  have hD : va_D A [(h0, .inr (10, [.null, .null, .int 0, .ref q1, .ref q2, .ref q3, .ref q4, .ref q5, .null, .int 0, .int 0, .int 0])), (q1, .inl (cI, 24, .inl (fun _ => 0))), (q2, .inl (cI, 24, .inl (fun _ => 0))), (q3, .inl (cI, 24, .inl (fun _ => 0))), (q4, .inl (cI, 24, .inl (fun _ => 0))), (q5, .inl (cI, 6, .inl (fun _ => 0))), (q6, .inl (cI, 2400, .inl (fun _ => 0)))] := hD
  refine zcput (ci := 10) (q0 := (RX10, TX10, 12)) (k := 8) (ty := .array .int) 0 F hK hP hD hS rfl rfl (by decide) (inT_in (i := 201) (by decide +kernel)) rfl (by decide +kernel) rfl rfl (Nat.le_of_ble_eq_true rfl) (show decode cX10_init 50 = .ok (.putfield 27, 3) by decide +kernel) (fun H locs hP hD hS => ?_)
  have hP : va_P D vwCl [(h0, .inr (10, [.null, .null, .int 0, .ref q1, .ref q2, .ref q3, .ref q4, .ref q5, .ref q6, .int 0, .int 0, .int 0])), (q1, .inl (cI, 24, .inl (fun _ => 0))), (q2, .inl (cI, 24, .inl (fun _ => 0))), (q3, .inl (cI, 24, .inl (fun _ => 0))), (q4, .inl (cI, 24, .inl (fun _ => 0))), (q5, .inl (cI, 6, .inl (fun _ => 0))), (q6, .inl (cI, 2400, .inl (fun _ => 0)))] H := hP
  have hD : va_D A [(h0, .inr (10, [.null, .null, .int 0, .ref q1, .ref q2, .ref q3, .ref q4, .ref q5, .ref q6, .int 0, .int 0, .int 0])), (q1, .inl (cI, 24, .inl (fun _ => 0))), (q2, .inl (cI, 24, .inl (fun _ => 0))), (q3, .inl (cI, 24, .inl (fun _ => 0))), (q4, .inl (cI, 24, .inl (fun _ => 0))), (q5, .inl (cI, 6, .inl (fun _ => 0))), (q6, .inl (cI, 2400, .inl (fun _ => 0)))] := hD
  refine lv_aload_n hx hb (show decode cX10_init 53 = .ok (.aload_n 0, 1) by decide +kernel) rfl (lv_at hl 0 rfl) ?_
  refine lv_aload_n hx hb (show decode cX10_init 54 = .ok (.aload_n 1, 1) by decide +kernel) rfl (lv_at hl 1 rfl) ?_
  refine zcput (ci := 10) (q0 := (RX10, TX10, 12)) (k := 0) (ty := .object "RoomsDesk$Claims") 0 F hK hP hD hS rfl rfl (by decide) (inT_in (i := 191) (by decide +kernel)) rfl (by decide +kernel) rfl rfl (Nat.le_of_ble_eq_true rfl) (show decode cX10_init 55 = .ok (.putfield 30, 3) by decide +kernel) (fun H locs hP hD hS => ?_)
  have hP : va_P D vwCl [(h0, .inr (10, [.ref a1, .null, .int 0, .ref q1, .ref q2, .ref q3, .ref q4, .ref q5, .ref q6, .int 0, .int 0, .int 0])), (q1, .inl (cI, 24, .inl (fun _ => 0))), (q2, .inl (cI, 24, .inl (fun _ => 0))), (q3, .inl (cI, 24, .inl (fun _ => 0))), (q4, .inl (cI, 24, .inl (fun _ => 0))), (q5, .inl (cI, 6, .inl (fun _ => 0))), (q6, .inl (cI, 2400, .inl (fun _ => 0)))] H := hP
  have hD : va_D A [(h0, .inr (10, [.ref a1, .null, .int 0, .ref q1, .ref q2, .ref q3, .ref q4, .ref q5, .ref q6, .int 0, .int 0, .int 0])), (q1, .inl (cI, 24, .inl (fun _ => 0))), (q2, .inl (cI, 24, .inl (fun _ => 0))), (q3, .inl (cI, 24, .inl (fun _ => 0))), (q4, .inl (cI, 24, .inl (fun _ => 0))), (q5, .inl (cI, 6, .inl (fun _ => 0))), (q6, .inl (cI, 2400, .inl (fun _ => 0)))] := hD
  refine lv_aload_n hx hb (show decode cX10_init 58 = .ok (.aload_n 0, 1) by decide +kernel) rfl (lv_at hl 0 rfl) ?_
  refine lv_aload_n hx hb (show decode cX10_init 59 = .ok (.aload_n 2, 1) by decide +kernel) rfl (lv_at hl 2 rfl) ?_
  refine zcput (ci := 10) (q0 := (RX10, TX10, 12)) (k := 1) (ty := .object "RoomsDesk$Assets") 0 F hK hP hD hS rfl rfl (by decide) (inT_in (i := 192) (by decide +kernel)) rfl (by decide +kernel) rfl rfl (Nat.le_of_ble_eq_true rfl) (show decode cX10_init 60 = .ok (.putfield 34, 3) by decide +kernel) (fun H locs hP hD hS => ?_)
  have hP : va_P D vwCl [(h0, .inr (10, [.ref a1, .ref a2, .int 0, .ref q1, .ref q2, .ref q3, .ref q4, .ref q5, .ref q6, .int 0, .int 0, .int 0])), (q1, .inl (cI, 24, .inl (fun _ => 0))), (q2, .inl (cI, 24, .inl (fun _ => 0))), (q3, .inl (cI, 24, .inl (fun _ => 0))), (q4, .inl (cI, 24, .inl (fun _ => 0))), (q5, .inl (cI, 6, .inl (fun _ => 0))), (q6, .inl (cI, 2400, .inl (fun _ => 0)))] H := hP
  have hD : va_D A [(h0, .inr (10, [.ref a1, .ref a2, .int 0, .ref q1, .ref q2, .ref q3, .ref q4, .ref q5, .ref q6, .int 0, .int 0, .int 0])), (q1, .inl (cI, 24, .inl (fun _ => 0))), (q2, .inl (cI, 24, .inl (fun _ => 0))), (q3, .inl (cI, 24, .inl (fun _ => 0))), (q4, .inl (cI, 24, .inl (fun _ => 0))), (q5, .inl (cI, 6, .inl (fun _ => 0))), (q6, .inl (cI, 2400, .inl (fun _ => 0)))] := hD
  refine lv_aload_n hx hb (show decode cX10_init 63 = .ok (.aload_n 0, 1) by decide +kernel) rfl (lv_at hl 0 rfl) ?_
  refine lv_iload_n hx hb (show decode cX10_init 64 = .ok (.iload_n 3, 1) by decide +kernel) rfl (lv_at hl 3 rfl) ?_
  refine zcput (ci := 10) (q0 := (RX10, TX10, 12)) (k := 2) (ty := .int) 0 F hK hP hD hS rfl rfl (by decide) (inT_in (i := 193) (by decide +kernel)) rfl (by decide +kernel) rfl rfl (Nat.le_of_ble_eq_true rfl) (show decode cX10_init 65 = .ok (.putfield 38, 3) by decide +kernel) (fun H locs hP hD hS => ?_)
  have hP : va_P D vwCl [(h0, .inr (10, [.ref a1, .ref a2, .int v3, .ref q1, .ref q2, .ref q3, .ref q4, .ref q5, .ref q6, .int 0, .int 0, .int 0])), (q1, .inl (cI, 24, .inl (fun _ => 0))), (q2, .inl (cI, 24, .inl (fun _ => 0))), (q3, .inl (cI, 24, .inl (fun _ => 0))), (q4, .inl (cI, 24, .inl (fun _ => 0))), (q5, .inl (cI, 6, .inl (fun _ => 0))), (q6, .inl (cI, 2400, .inl (fun _ => 0)))] H := hP
  have hD : va_D A [(h0, .inr (10, [.ref a1, .ref a2, .int v3, .ref q1, .ref q2, .ref q3, .ref q4, .ref q5, .ref q6, .int 0, .int 0, .int 0])), (q1, .inl (cI, 24, .inl (fun _ => 0))), (q2, .inl (cI, 24, .inl (fun _ => 0))), (q3, .inl (cI, 24, .inl (fun _ => 0))), (q4, .inl (cI, 24, .inl (fun _ => 0))), (q5, .inl (cI, 6, .inl (fun _ => 0))), (q6, .inl (cI, 2400, .inl (fun _ => 0)))] := hD
  exact zcret (res := rs_X10_init cI cB aT h0 a1 a2 v3) F (show decode cX10_init 68 = .ok (.return_, 1) by decide +kernel) (fun k => [q1, q2, q3, q4, q5, q6].getD k 0) hP hD hS
def rs_X5_init (cI cB : ClassId) (aT h0 : Nat) (q : Nat → Nat) : va_W := [(h0, .inr (5, [.ref (q 0), .ref (q 1), .ref (q 2), .ref (q 3), .ref (q 4)])), ((q 0), .inl (cI, 24, .inl (fun _ => 0))), ((q 1), .inl (cI, 24, .inl (fun _ => 0))), ((q 2), .inl (cI, 6, .inl (fun _ => 0))), ((q 3), .inl (cI, 6, .inl (fun _ => 0))), ((q 4), .inl (cI, 6, .inl (fun _ => 0)))]
set_option maxHeartbeats 4000000 in
set_option maxRecDepth 100000 in
theorem C_X5_init (l : Launch) (D : va_G) (cI cB : ClassId) (aT h0 : Nat) : zCt l D cI cB aT yX5_init cX5_init 1 ({ frames := 1, cells := 5, slots := 66, locals := 20 }) 5 66 5 [.null, .null, .null, .null, .null] [] h0 (rs_X5_init cI cB aT h0) := by
  refine zCt_of (by decide) rfl (Nat.le_of_ble_eq_true rfl) ?_
  intro p e s m args below meth c F hK A hA hP hD ls hl
  have hx := F.1
  have hb := F.2.1
  have hts := F.2.2.2.2.1
  have hS : va_S A s.heap s.heap [] := va_S.rf
  have hl : lv_has ls 1 [(0, .ref h0)] := hl
  refine lv_aload_n hx hb (show decode cX5_init 0 = .ok (.aload_n 0, 1) by decide +kernel) rfl (lv_at hl 0 rfl) ?_
  refine zobj F hl.1 (inT_in (i := 238) (by decide +kernel)) (show decode cX5_init 1 = .ok (.invokespecial 3, 3) by decide +kernel) (Nat.le_of_ble_eq_true rfl) (Nat.le_of_ble_eq_true rfl) ?_
  refine lv_aload_n hx hb (show decode cX5_init 4 = .ok (.aload_n 0, 1) by decide +kernel) rfl (lv_at hl 0 rfl) ?_
  refine lv_bipush (v := 24) hx hb (show decode cX5_init 5 = .ok (.bipush 24, 2) by decide +kernel) (by decide) ?_
  refine zarrI (N := 24) F hK hP hD hS hA (by decide) (by decide) (by decide) (Nat.le_of_ble_eq_true rfl) (Nat.le_of_ble_eq_true rfl) (show decode cX5_init 7 = .ok (.newarray .int, 2) by decide +kernel) (fun q1 H hP hD hS => ?_)
  have hP : va_P D vwCl [(h0, .inr (5, [.null, .null, .null, .null, .null])), (q1, .inl (cI, 24, .inl (fun _ => 0)))] H := hP
  have hD : va_D A [(h0, .inr (5, [.null, .null, .null, .null, .null])), (q1, .inl (cI, 24, .inl (fun _ => 0)))] := hD
  refine zcput (ci := 5) (q0 := (RX5, TX5, 5)) (k := 0) (ty := .array .int) 0 F hK hP hD hS rfl rfl (by decide) (inT_in (i := 239) (by decide +kernel)) rfl (by decide +kernel) rfl rfl (Nat.le_of_ble_eq_true rfl) (show decode cX5_init 9 = .ok (.putfield 9, 3) by decide +kernel) (fun H locs hP hD hS => ?_)
  have hP : va_P D vwCl [(h0, .inr (5, [.ref q1, .null, .null, .null, .null])), (q1, .inl (cI, 24, .inl (fun _ => 0)))] H := hP
  have hD : va_D A [(h0, .inr (5, [.ref q1, .null, .null, .null, .null])), (q1, .inl (cI, 24, .inl (fun _ => 0)))] := hD
  refine lv_aload_n hx hb (show decode cX5_init 12 = .ok (.aload_n 0, 1) by decide +kernel) rfl (lv_at hl 0 rfl) ?_
  refine lv_bipush (v := 24) hx hb (show decode cX5_init 13 = .ok (.bipush 24, 2) by decide +kernel) (by decide) ?_
  refine zarrI (N := 24) F hK hP hD hS hA (by decide) (by decide) (by decide) (Nat.le_of_ble_eq_true rfl) (Nat.le_of_ble_eq_true rfl) (show decode cX5_init 15 = .ok (.newarray .int, 2) by decide +kernel) (fun q2 H hP hD hS => ?_)
  have hP : va_P D vwCl [(h0, .inr (5, [.ref q1, .null, .null, .null, .null])), (q1, .inl (cI, 24, .inl (fun _ => 0))), (q2, .inl (cI, 24, .inl (fun _ => 0)))] H := hP
  have hD : va_D A [(h0, .inr (5, [.ref q1, .null, .null, .null, .null])), (q1, .inl (cI, 24, .inl (fun _ => 0))), (q2, .inl (cI, 24, .inl (fun _ => 0)))] := hD
  refine zcput (ci := 5) (q0 := (RX5, TX5, 5)) (k := 1) (ty := .array .int) 0 F hK hP hD hS rfl rfl (by decide) (inT_in (i := 243) (by decide +kernel)) rfl (by decide +kernel) rfl rfl (Nat.le_of_ble_eq_true rfl) (show decode cX5_init 17 = .ok (.putfield 15, 3) by decide +kernel) (fun H locs hP hD hS => ?_)
  have hP : va_P D vwCl [(h0, .inr (5, [.ref q1, .ref q2, .null, .null, .null])), (q1, .inl (cI, 24, .inl (fun _ => 0))), (q2, .inl (cI, 24, .inl (fun _ => 0)))] H := hP
  have hD : va_D A [(h0, .inr (5, [.ref q1, .ref q2, .null, .null, .null])), (q1, .inl (cI, 24, .inl (fun _ => 0))), (q2, .inl (cI, 24, .inl (fun _ => 0)))] := hD
  refine lv_aload_n hx hb (show decode cX5_init 20 = .ok (.aload_n 0, 1) by decide +kernel) rfl (lv_at hl 0 rfl) ?_
  refine lv_bipush (v := 6) hx hb (show decode cX5_init 21 = .ok (.bipush 6, 2) by decide +kernel) (by decide) ?_
  refine zarrI (N := 6) F hK hP hD hS hA (by decide) (by decide) (by decide) (Nat.le_of_ble_eq_true rfl) (Nat.le_of_ble_eq_true rfl) (show decode cX5_init 23 = .ok (.newarray .int, 2) by decide +kernel) (fun q3 H hP hD hS => ?_)
  have hP : va_P D vwCl [(h0, .inr (5, [.ref q1, .ref q2, .null, .null, .null])), (q1, .inl (cI, 24, .inl (fun _ => 0))), (q2, .inl (cI, 24, .inl (fun _ => 0))), (q3, .inl (cI, 6, .inl (fun _ => 0)))] H := hP
  have hD : va_D A [(h0, .inr (5, [.ref q1, .ref q2, .null, .null, .null])), (q1, .inl (cI, 24, .inl (fun _ => 0))), (q2, .inl (cI, 24, .inl (fun _ => 0))), (q3, .inl (cI, 6, .inl (fun _ => 0)))] := hD
  refine zcput (ci := 5) (q0 := (RX5, TX5, 5)) (k := 2) (ty := .array .int) 0 F hK hP hD hS rfl rfl (by decide) (inT_in (i := 247) (by decide +kernel)) rfl (by decide +kernel) rfl rfl (Nat.le_of_ble_eq_true rfl) (show decode cX5_init 25 = .ok (.putfield 18, 3) by decide +kernel) (fun H locs hP hD hS => ?_)
  have hP : va_P D vwCl [(h0, .inr (5, [.ref q1, .ref q2, .ref q3, .null, .null])), (q1, .inl (cI, 24, .inl (fun _ => 0))), (q2, .inl (cI, 24, .inl (fun _ => 0))), (q3, .inl (cI, 6, .inl (fun _ => 0)))] H := hP
  have hD : va_D A [(h0, .inr (5, [.ref q1, .ref q2, .ref q3, .null, .null])), (q1, .inl (cI, 24, .inl (fun _ => 0))), (q2, .inl (cI, 24, .inl (fun _ => 0))), (q3, .inl (cI, 6, .inl (fun _ => 0)))] := hD
  refine lv_aload_n hx hb (show decode cX5_init 28 = .ok (.aload_n 0, 1) by decide +kernel) rfl (lv_at hl 0 rfl) ?_
  refine lv_bipush (v := 6) hx hb (show decode cX5_init 29 = .ok (.bipush 6, 2) by decide +kernel) (by decide) ?_
  refine zarrI (N := 6) F hK hP hD hS hA (by decide) (by decide) (by decide) (Nat.le_of_ble_eq_true rfl) (Nat.le_of_ble_eq_true rfl) (show decode cX5_init 31 = .ok (.newarray .int, 2) by decide +kernel) (fun q4 H hP hD hS => ?_)
  have hP : va_P D vwCl [(h0, .inr (5, [.ref q1, .ref q2, .ref q3, .null, .null])), (q1, .inl (cI, 24, .inl (fun _ => 0))), (q2, .inl (cI, 24, .inl (fun _ => 0))), (q3, .inl (cI, 6, .inl (fun _ => 0))), (q4, .inl (cI, 6, .inl (fun _ => 0)))] H := hP
  have hD : va_D A [(h0, .inr (5, [.ref q1, .ref q2, .ref q3, .null, .null])), (q1, .inl (cI, 24, .inl (fun _ => 0))), (q2, .inl (cI, 24, .inl (fun _ => 0))), (q3, .inl (cI, 6, .inl (fun _ => 0))), (q4, .inl (cI, 6, .inl (fun _ => 0)))] := hD
  refine zcput (ci := 5) (q0 := (RX5, TX5, 5)) (k := 3) (ty := .array .int) 0 F hK hP hD hS rfl rfl (by decide) (inT_in (i := 249) (by decide +kernel)) rfl (by decide +kernel) rfl rfl (Nat.le_of_ble_eq_true rfl) (show decode cX5_init 33 = .ok (.putfield 21, 3) by decide +kernel) (fun H locs hP hD hS => ?_)
  have hP : va_P D vwCl [(h0, .inr (5, [.ref q1, .ref q2, .ref q3, .ref q4, .null])), (q1, .inl (cI, 24, .inl (fun _ => 0))), (q2, .inl (cI, 24, .inl (fun _ => 0))), (q3, .inl (cI, 6, .inl (fun _ => 0))), (q4, .inl (cI, 6, .inl (fun _ => 0)))] H := hP
  have hD : va_D A [(h0, .inr (5, [.ref q1, .ref q2, .ref q3, .ref q4, .null])), (q1, .inl (cI, 24, .inl (fun _ => 0))), (q2, .inl (cI, 24, .inl (fun _ => 0))), (q3, .inl (cI, 6, .inl (fun _ => 0))), (q4, .inl (cI, 6, .inl (fun _ => 0)))] := hD
  refine lv_aload_n hx hb (show decode cX5_init 36 = .ok (.aload_n 0, 1) by decide +kernel) rfl (lv_at hl 0 rfl) ?_
  refine lv_bipush (v := 6) hx hb (show decode cX5_init 37 = .ok (.bipush 6, 2) by decide +kernel) (by decide) ?_
  refine zarrI (N := 6) F hK hP hD hS hA (by decide) (by decide) (by decide) (Nat.le_of_ble_eq_true rfl) (Nat.le_of_ble_eq_true rfl) (show decode cX5_init 39 = .ok (.newarray .int, 2) by decide +kernel) (fun q5 H hP hD hS => ?_)
  have hP : va_P D vwCl [(h0, .inr (5, [.ref q1, .ref q2, .ref q3, .ref q4, .null])), (q1, .inl (cI, 24, .inl (fun _ => 0))), (q2, .inl (cI, 24, .inl (fun _ => 0))), (q3, .inl (cI, 6, .inl (fun _ => 0))), (q4, .inl (cI, 6, .inl (fun _ => 0))), (q5, .inl (cI, 6, .inl (fun _ => 0)))] H := hP
  have hD : va_D A [(h0, .inr (5, [.ref q1, .ref q2, .ref q3, .ref q4, .null])), (q1, .inl (cI, 24, .inl (fun _ => 0))), (q2, .inl (cI, 24, .inl (fun _ => 0))), (q3, .inl (cI, 6, .inl (fun _ => 0))), (q4, .inl (cI, 6, .inl (fun _ => 0))), (q5, .inl (cI, 6, .inl (fun _ => 0)))] := hD
  refine zcput (ci := 5) (q0 := (RX5, TX5, 5)) (k := 4) (ty := .array .int) 0 F hK hP hD hS rfl rfl (by decide) (inT_in (i := 251) (by decide +kernel)) rfl (by decide +kernel) rfl rfl (Nat.le_of_ble_eq_true rfl) (show decode cX5_init 41 = .ok (.putfield 24, 3) by decide +kernel) (fun H locs hP hD hS => ?_)
  have hP : va_P D vwCl [(h0, .inr (5, [.ref q1, .ref q2, .ref q3, .ref q4, .ref q5])), (q1, .inl (cI, 24, .inl (fun _ => 0))), (q2, .inl (cI, 24, .inl (fun _ => 0))), (q3, .inl (cI, 6, .inl (fun _ => 0))), (q4, .inl (cI, 6, .inl (fun _ => 0))), (q5, .inl (cI, 6, .inl (fun _ => 0)))] H := hP
  have hD : va_D A [(h0, .inr (5, [.ref q1, .ref q2, .ref q3, .ref q4, .ref q5])), (q1, .inl (cI, 24, .inl (fun _ => 0))), (q2, .inl (cI, 24, .inl (fun _ => 0))), (q3, .inl (cI, 6, .inl (fun _ => 0))), (q4, .inl (cI, 6, .inl (fun _ => 0))), (q5, .inl (cI, 6, .inl (fun _ => 0)))] := hD
  exact zcret (res := rs_X5_init cI cB aT h0) F (show decode cX5_init 44 = .ok (.return_, 1) by decide +kernel) (fun k => [q1, q2, q3, q4, q5].getD k 0) hP hD hS
def rs_X9_init (cI cB : ClassId) (aT h0 : Nat) (q : Nat → Nat) : va_W := [(h0, .inr (9, [.ref (q 0), .int 0, .int 0])), ((q 0), .inl (cB, 96, .inl (fun _ => 0)))]
set_option maxHeartbeats 4000000 in
set_option maxRecDepth 100000 in
theorem C_X9_init (l : Launch) (D : va_G) (cI cB : ClassId) (aT h0 : Nat) : zCt l D cI cB aT yX9_init cX9_init 1 ({ frames := 1, cells := 1, slots := 96, locals := 20 }) 1 96 9 [.null, .int 0, .int 0] [] h0 (rs_X9_init cI cB aT h0) := by
  refine zCt_of (by decide) rfl (Nat.le_of_ble_eq_true rfl) ?_
  intro p e s m args below meth c F hK A hA hP hD ls hl
  have hx := F.1
  have hb := F.2.1
  have hts := F.2.2.2.2.1
  have hS : va_S A s.heap s.heap [] := va_S.rf
  have hl : lv_has ls 1 [(0, .ref h0)] := hl
  refine lv_aload_n hx hb (show decode cX9_init 0 = .ok (.aload_n 0, 1) by decide +kernel) rfl (lv_at hl 0 rfl) ?_
  refine zobj F hl.1 (inT_in (i := 269) (by decide +kernel)) (show decode cX9_init 1 = .ok (.invokespecial 1, 3) by decide +kernel) (Nat.le_of_ble_eq_true rfl) (Nat.le_of_ble_eq_true rfl) ?_
  refine lv_aload_n hx hb (show decode cX9_init 4 = .ok (.aload_n 0, 1) by decide +kernel) rfl (lv_at hl 0 rfl) ?_
  refine lv_bipush (v := 96) hx hb (show decode cX9_init 5 = .ok (.bipush 96, 2) by decide +kernel) (by decide) ?_
  refine zarrB (N := 96) F hK hP hD hS hA (by decide) (by decide) (by decide) (Nat.le_of_ble_eq_true rfl) (Nat.le_of_ble_eq_true rfl) (show decode cX9_init 7 = .ok (.newarray .byte, 2) by decide +kernel) (fun q1 H hP hD hS => ?_)
  have hP : va_P D vwCl [(h0, .inr (9, [.null, .int 0, .int 0])), (q1, .inl (cB, 96, .inl (fun _ => 0)))] H := hP
  have hD : va_D A [(h0, .inr (9, [.null, .int 0, .int 0])), (q1, .inl (cB, 96, .inl (fun _ => 0)))] := hD
  refine zcput (ci := 9) (q0 := (RX9, TX9, 3)) (k := 0) (ty := .array .byte) 0 F hK hP hD hS rfl rfl (by decide) (inT_in (i := 270) (by decide +kernel)) rfl (by decide +kernel) rfl rfl (Nat.le_of_ble_eq_true rfl) (show decode cX9_init 9 = .ok (.putfield 9, 3) by decide +kernel) (fun H locs hP hD hS => ?_)
  have hP : va_P D vwCl [(h0, .inr (9, [.ref q1, .int 0, .int 0])), (q1, .inl (cB, 96, .inl (fun _ => 0)))] H := hP
  have hD : va_D A [(h0, .inr (9, [.ref q1, .int 0, .int 0])), (q1, .inl (cB, 96, .inl (fun _ => 0)))] := hD
  exact zcret (res := rs_X9_init cI cB aT h0) F (show decode cX9_init 12 = .ok (.return_, 1) by decide +kernel) (fun k => [q1].getD k 0) hP hD hS
def rs_X4_init (cI cB : ClassId) (aT h0 : Nat) (q : Nat → Nat) : va_W := [(h0, .inr (4, [.ref (q 0), .ref (q 1), .int 0])), ((q 0), .inl (cI, 96, .inl (fun _ => 0))), ((q 1), .inl (cI, 96, .inl (fun _ => 0)))]
set_option maxHeartbeats 4000000 in
set_option maxRecDepth 100000 in
theorem C_X4_init (l : Launch) (D : va_G) (cI cB : ClassId) (aT h0 : Nat) : zCt l D cI cB aT yX4_init cX4_init 1 ({ frames := 1, cells := 2, slots := 192, locals := 20 }) 2 192 4 [.null, .null, .int 0] [] h0 (rs_X4_init cI cB aT h0) := by
  refine zCt_of (by decide) rfl (Nat.le_of_ble_eq_true rfl) ?_
  intro p e s m args below meth c F hK A hA hP hD ls hl
  have hx := F.1
  have hb := F.2.1
  have hts := F.2.2.2.2.1
  have hS : va_S A s.heap s.heap [] := va_S.rf
  have hl : lv_has ls 1 [(0, .ref h0)] := hl
  refine lv_aload_n hx hb (show decode cX4_init 0 = .ok (.aload_n 0, 1) by decide +kernel) rfl (lv_at hl 0 rfl) ?_
  refine zobj F hl.1 (inT_in (i := 295) (by decide +kernel)) (show decode cX4_init 1 = .ok (.invokespecial 3, 3) by decide +kernel) (Nat.le_of_ble_eq_true rfl) (Nat.le_of_ble_eq_true rfl) ?_
  refine lv_aload_n hx hb (show decode cX4_init 4 = .ok (.aload_n 0, 1) by decide +kernel) rfl (lv_at hl 0 rfl) ?_
  refine lv_bipush (v := 96) hx hb (show decode cX4_init 5 = .ok (.bipush 96, 2) by decide +kernel) (by decide) ?_
  refine zarrI (N := 96) F hK hP hD hS hA (by decide) (by decide) (by decide) (Nat.le_of_ble_eq_true rfl) (Nat.le_of_ble_eq_true rfl) (show decode cX4_init 7 = .ok (.newarray .int, 2) by decide +kernel) (fun q1 H hP hD hS => ?_)
  have hP : va_P D vwCl [(h0, .inr (4, [.null, .null, .int 0])), (q1, .inl (cI, 96, .inl (fun _ => 0)))] H := hP
  have hD : va_D A [(h0, .inr (4, [.null, .null, .int 0])), (q1, .inl (cI, 96, .inl (fun _ => 0)))] := hD
  refine zcput (ci := 4) (q0 := (RX4, TX4, 3)) (k := 0) (ty := .array .int) 0 F hK hP hD hS rfl rfl (by decide) (inT_in (i := 296) (by decide +kernel)) rfl (by decide +kernel) rfl rfl (Nat.le_of_ble_eq_true rfl) (show decode cX4_init 9 = .ok (.putfield 11, 3) by decide +kernel) (fun H locs hP hD hS => ?_)
  have hP : va_P D vwCl [(h0, .inr (4, [.ref q1, .null, .int 0])), (q1, .inl (cI, 96, .inl (fun _ => 0)))] H := hP
  have hD : va_D A [(h0, .inr (4, [.ref q1, .null, .int 0])), (q1, .inl (cI, 96, .inl (fun _ => 0)))] := hD
  refine lv_aload_n hx hb (show decode cX4_init 12 = .ok (.aload_n 0, 1) by decide +kernel) rfl (lv_at hl 0 rfl) ?_
  refine lv_bipush (v := 96) hx hb (show decode cX4_init 13 = .ok (.bipush 96, 2) by decide +kernel) (by decide) ?_
  refine zarrI (N := 96) F hK hP hD hS hA (by decide) (by decide) (by decide) (Nat.le_of_ble_eq_true rfl) (Nat.le_of_ble_eq_true rfl) (show decode cX4_init 15 = .ok (.newarray .int, 2) by decide +kernel) (fun q2 H hP hD hS => ?_)
  have hP : va_P D vwCl [(h0, .inr (4, [.ref q1, .null, .int 0])), (q1, .inl (cI, 96, .inl (fun _ => 0))), (q2, .inl (cI, 96, .inl (fun _ => 0)))] H := hP
  have hD : va_D A [(h0, .inr (4, [.ref q1, .null, .int 0])), (q1, .inl (cI, 96, .inl (fun _ => 0))), (q2, .inl (cI, 96, .inl (fun _ => 0)))] := hD
  refine zcput (ci := 4) (q0 := (RX4, TX4, 3)) (k := 1) (ty := .array .int) 0 F hK hP hD hS rfl rfl (by decide) (inT_in (i := 297) (by decide +kernel)) rfl (by decide +kernel) rfl rfl (Nat.le_of_ble_eq_true rfl) (show decode cX4_init 17 = .ok (.putfield 15, 3) by decide +kernel) (fun H locs hP hD hS => ?_)
  have hP : va_P D vwCl [(h0, .inr (4, [.ref q1, .ref q2, .int 0])), (q1, .inl (cI, 96, .inl (fun _ => 0))), (q2, .inl (cI, 96, .inl (fun _ => 0)))] H := hP
  have hD : va_D A [(h0, .inr (4, [.ref q1, .ref q2, .int 0])), (q1, .inl (cI, 96, .inl (fun _ => 0))), (q2, .inl (cI, 96, .inl (fun _ => 0)))] := hD
  exact zcret (res := rs_X4_init cI cB aT h0) F (show decode cX4_init 20 = .ok (.return_, 1) by decide +kernel) (fun k => [q1, q2].getD k 0) hP hD hS
def rs_X6_init (cI cB : ClassId) (aT h0 : Nat) (a1 : Nat) (q : Nat → Nat) : va_W := [(h0, .inr (6, [.ref a1, .ref (q 0), .ref (q 3), .ref (q 0), .ref aT, .int 0])), ((q 0), .inr (4, [.ref (q 1), .ref (q 2), .int 0])), ((q 1), .inl (cI, 96, .inl (fun _ => 0))), ((q 2), .inl (cI, 96, .inl (fun _ => 0))), ((q 3), .inr (4, [.ref (q 4), .ref (q 5), .int 0])), ((q 4), .inl (cI, 96, .inl (fun _ => 0))), ((q 5), .inl (cI, 96, .inl (fun _ => 0)))]
set_option maxHeartbeats 4000000 in
set_option maxRecDepth 100000 in
theorem C_X6_init (l : Launch) (D : va_G) (cI cB : ClassId) (aT h0 : Nat) (a1 : Nat) : zCt l D cI cB aT yX6_init cX6_init 2 ({ frames := 2, cells := 6, slots := 390, locals := 40 }) 6 390 6 [.null, .null, .null, .null, .null, .int 0] [.ref a1] h0 (rs_X6_init cI cB aT h0 a1) := by
  refine zCt_of (by decide) rfl (Nat.le_of_ble_eq_true rfl) ?_
  intro p e s m args below meth c F hK A hA hP hD ls hl
  have hx := F.1
  have hb := F.2.1
  have hts := F.2.2.2.2.1
  have hS : va_S A s.heap s.heap [] := va_S.rf
  have hl : lv_has ls 2 [(0, .ref h0), (1, .ref a1)] := hl
  refine lv_aload_n hx hb (show decode cX6_init 0 = .ok (.aload_n 0, 1) by decide +kernel) rfl (lv_at hl 0 rfl) ?_
  refine zobj F hl.1 (inT_in (i := 289) (by decide +kernel)) (show decode cX6_init 1 = .ok (.invokespecial 3, 3) by decide +kernel) (Nat.le_of_ble_eq_true rfl) (Nat.le_of_ble_eq_true rfl) ?_
  refine lv_aload_n hx hb (show decode cX6_init 4 = .ok (.aload_n 0, 1) by decide +kernel) rfl (lv_at hl 0 rfl) ?_
  refine zcnew (ci := 4) (q0 := (RX4, TX4, 3)) (ty := tyX4) (fs := [.null, .null, .int 0]) F hK hP hD hS hA rfl tyX4_ok (inT_in (i := 290) (by decide +kernel)) (inT_in (i := 291) (by decide +kernel)) (inT_in (i := 70) (by decide +kernel)) dfX4 (Nat.le_of_ble_eq_true rfl) (Nat.le_of_ble_eq_true rfl) (show decode cX6_init 5 = .ok (.new 9, 3) by decide +kernel) (fun q1 H hP hD hS => ?_)
  have hP : va_P D vwCl [(h0, .inr (6, [.null, .null, .null, .null, .null, .int 0])), (q1, .inr (4, [.null, .null, .int 0]))] H := hP
  have hD : va_D A [(h0, .inr (6, [.null, .null, .null, .null, .null, .int 0])), (q1, .inr (4, [.null, .null, .int 0]))] := hD
  refine lv_dup hx hb (show decode cX6_init 8 = .ok (.dup, 1) by decide +kernel) rfl ?_
  refine zcalN (host := "RoomsDesk") (as := []) (rest := [.ref q1, .ref h0]) (b := q1) (wr := [(h0, .inr (6, [.null, .null, .null, .null, .null, .int 0]))]) 1 [0] F (C_X4_init l D cI cB aT q1 ) (List.mem_of_getElem? (i := 5) rfl) (inT_in (i := 294) (by decide +kernel)) (inT_in (i := 70) (by decide +kernel)) (inT_in (i := 293) (by decide +kernel)) rfl (show yX4_init.cls ≠ "java/lang/invoke/MethodHandle" ∧ yX4_init.cls ≠ "java/lang/invoke/VarHandle" ∧ (parseMethodDescriptor yX4_init.desc).map (fun d => d.parameters.length) = some 0 by decide +kernel) rfl rfl ⟨Nat.le_of_ble_eq_true rfl, Nat.le_of_ble_eq_true rfl⟩ hK hP hD hS hA rfl rfl rfl (by decide) hl.1 (Nat.le_of_ble_eq_true rfl) (show decode cX6_init 9 = .ok (.invokespecial 11, 3) by decide +kernel) ⟨Nat.le_of_ble_eq_true rfl, Nat.le_of_ble_eq_true rfl⟩ (fun u2 H locs hP hD hS => ?_)
  have hP : va_P D vwCl [(h0, .inr (6, [.null, .null, .null, .null, .null, .int 0])), (q1, .inr (4, [.ref (u2 0), .ref (u2 1), .int 0])), ((u2 0), .inl (cI, 96, .inl (fun _ => 0))), ((u2 1), .inl (cI, 96, .inl (fun _ => 0)))] H := hP
  have hD : va_D A [(h0, .inr (6, [.null, .null, .null, .null, .null, .int 0])), (q1, .inr (4, [.ref (u2 0), .ref (u2 1), .int 0])), ((u2 0), .inl (cI, 96, .inl (fun _ => 0))), ((u2 1), .inl (cI, 96, .inl (fun _ => 0)))] := hD
  refine zcput (ci := 6) (q0 := (RX6, TX6, 6)) (k := 1) (ty := .object "RoomsDesk$Formula") 0 F hK hP hD hS rfl rfl (by decide) (inT_in (i := 309) (by decide +kernel)) rfl (by decide +kernel) rfl rfl (Nat.le_of_ble_eq_true rfl) (show decode cX6_init 12 = .ok (.putfield 12, 3) by decide +kernel) (fun H locs hP hD hS => ?_)
  have hP : va_P D vwCl [(h0, .inr (6, [.null, .ref q1, .null, .null, .null, .int 0])), (q1, .inr (4, [.ref (u2 0), .ref (u2 1), .int 0])), ((u2 0), .inl (cI, 96, .inl (fun _ => 0))), ((u2 1), .inl (cI, 96, .inl (fun _ => 0)))] H := hP
  have hD : va_D A [(h0, .inr (6, [.null, .ref q1, .null, .null, .null, .int 0])), (q1, .inr (4, [.ref (u2 0), .ref (u2 1), .int 0])), ((u2 0), .inl (cI, 96, .inl (fun _ => 0))), ((u2 1), .inl (cI, 96, .inl (fun _ => 0)))] := hD
  refine lv_aload_n hx hb (show decode cX6_init 15 = .ok (.aload_n 0, 1) by decide +kernel) rfl (lv_at hl 0 rfl) ?_
  refine zcnew (ci := 4) (q0 := (RX4, TX4, 3)) (ty := tyX4) (fs := [.null, .null, .int 0]) F hK hP hD hS hA rfl tyX4_ok (inT_in (i := 290) (by decide +kernel)) (inT_in (i := 291) (by decide +kernel)) (inT_in (i := 70) (by decide +kernel)) dfX4 (Nat.le_of_ble_eq_true rfl) (Nat.le_of_ble_eq_true rfl) (show decode cX6_init 16 = .ok (.new 9, 3) by decide +kernel) (fun q3 H hP hD hS => ?_)
  have hP : va_P D vwCl [(h0, .inr (6, [.null, .ref q1, .null, .null, .null, .int 0])), (q1, .inr (4, [.ref (u2 0), .ref (u2 1), .int 0])), ((u2 0), .inl (cI, 96, .inl (fun _ => 0))), ((u2 1), .inl (cI, 96, .inl (fun _ => 0))), (q3, .inr (4, [.null, .null, .int 0]))] H := hP
  have hD : va_D A [(h0, .inr (6, [.null, .ref q1, .null, .null, .null, .int 0])), (q1, .inr (4, [.ref (u2 0), .ref (u2 1), .int 0])), ((u2 0), .inl (cI, 96, .inl (fun _ => 0))), ((u2 1), .inl (cI, 96, .inl (fun _ => 0))), (q3, .inr (4, [.null, .null, .int 0]))] := hD
  refine lv_dup hx hb (show decode cX6_init 19 = .ok (.dup, 1) by decide +kernel) rfl ?_
  refine zcalN (host := "RoomsDesk") (as := []) (rest := [.ref q3, .ref h0]) (b := q3) (wr := [(h0, .inr (6, [.null, .ref q1, .null, .null, .null, .int 0])), (q1, .inr (4, [.ref (u2 0), .ref (u2 1), .int 0])), ((u2 0), .inl (cI, 96, .inl (fun _ => 0))), ((u2 1), .inl (cI, 96, .inl (fun _ => 0)))]) 4 [0, 1, 2, 3] F (C_X4_init l D cI cB aT q3 ) (List.mem_of_getElem? (i := 5) rfl) (inT_in (i := 294) (by decide +kernel)) (inT_in (i := 70) (by decide +kernel)) (inT_in (i := 293) (by decide +kernel)) rfl (show yX4_init.cls ≠ "java/lang/invoke/MethodHandle" ∧ yX4_init.cls ≠ "java/lang/invoke/VarHandle" ∧ (parseMethodDescriptor yX4_init.desc).map (fun d => d.parameters.length) = some 0 by decide +kernel) rfl rfl ⟨Nat.le_of_ble_eq_true rfl, Nat.le_of_ble_eq_true rfl⟩ hK hP hD hS hA rfl rfl rfl (by decide) hl.1 (Nat.le_of_ble_eq_true rfl) (show decode cX6_init 20 = .ok (.invokespecial 11, 3) by decide +kernel) ⟨Nat.le_of_ble_eq_true rfl, Nat.le_of_ble_eq_true rfl⟩ (fun u4 H locs hP hD hS => ?_)
  have hP : va_P D vwCl [(h0, .inr (6, [.null, .ref q1, .null, .null, .null, .int 0])), (q1, .inr (4, [.ref (u2 0), .ref (u2 1), .int 0])), ((u2 0), .inl (cI, 96, .inl (fun _ => 0))), ((u2 1), .inl (cI, 96, .inl (fun _ => 0))), (q3, .inr (4, [.ref (u4 0), .ref (u4 1), .int 0])), ((u4 0), .inl (cI, 96, .inl (fun _ => 0))), ((u4 1), .inl (cI, 96, .inl (fun _ => 0)))] H := hP
  have hD : va_D A [(h0, .inr (6, [.null, .ref q1, .null, .null, .null, .int 0])), (q1, .inr (4, [.ref (u2 0), .ref (u2 1), .int 0])), ((u2 0), .inl (cI, 96, .inl (fun _ => 0))), ((u2 1), .inl (cI, 96, .inl (fun _ => 0))), (q3, .inr (4, [.ref (u4 0), .ref (u4 1), .int 0])), ((u4 0), .inl (cI, 96, .inl (fun _ => 0))), ((u4 1), .inl (cI, 96, .inl (fun _ => 0)))] := hD
  refine zcput (ci := 6) (q0 := (RX6, TX6, 6)) (k := 2) (ty := .object "RoomsDesk$Formula") 0 F hK hP hD hS rfl rfl (by decide) (inT_in (i := 311) (by decide +kernel)) rfl (by decide +kernel) rfl rfl (Nat.le_of_ble_eq_true rfl) (show decode cX6_init 23 = .ok (.putfield 18, 3) by decide +kernel) (fun H locs hP hD hS => ?_)
  have hP : va_P D vwCl [(h0, .inr (6, [.null, .ref q1, .ref q3, .null, .null, .int 0])), (q1, .inr (4, [.ref (u2 0), .ref (u2 1), .int 0])), ((u2 0), .inl (cI, 96, .inl (fun _ => 0))), ((u2 1), .inl (cI, 96, .inl (fun _ => 0))), (q3, .inr (4, [.ref (u4 0), .ref (u4 1), .int 0])), ((u4 0), .inl (cI, 96, .inl (fun _ => 0))), ((u4 1), .inl (cI, 96, .inl (fun _ => 0)))] H := hP
  have hD : va_D A [(h0, .inr (6, [.null, .ref q1, .ref q3, .null, .null, .int 0])), (q1, .inr (4, [.ref (u2 0), .ref (u2 1), .int 0])), ((u2 0), .inl (cI, 96, .inl (fun _ => 0))), ((u2 1), .inl (cI, 96, .inl (fun _ => 0))), (q3, .inr (4, [.ref (u4 0), .ref (u4 1), .int 0])), ((u4 0), .inl (cI, 96, .inl (fun _ => 0))), ((u4 1), .inl (cI, 96, .inl (fun _ => 0)))] := hD
  refine lv_aload_n hx hb (show decode cX6_init 26 = .ok (.aload_n 0, 1) by decide +kernel) rfl (lv_at hl 0 rfl) ?_
  refine lv_aload_n hx hb (show decode cX6_init 27 = .ok (.aload_n 0, 1) by decide +kernel) rfl (lv_at hl 0 rfl) ?_
  refine zcget (ci := 6) (q0 := (RX6, TX6, 6)) (k := 1) (v := .ref q1) 0 F hK hP rfl rfl (by decide) (inT_in (i := 309) (by decide +kernel)) rfl (show decode cX6_init 28 = .ok (.getfield 12, 3) by decide +kernel) ?_
  refine zcput (ci := 6) (q0 := (RX6, TX6, 6)) (k := 3) (ty := .object "RoomsDesk$Formula") 0 F hK hP hD hS rfl rfl (by decide) (inT_in (i := 313) (by decide +kernel)) rfl (by decide +kernel) rfl rfl (Nat.le_of_ble_eq_true rfl) (show decode cX6_init 31 = .ok (.putfield 21, 3) by decide +kernel) (fun H locs hP hD hS => ?_)
  have hP : va_P D vwCl [(h0, .inr (6, [.null, .ref q1, .ref q3, .ref q1, .null, .int 0])), (q1, .inr (4, [.ref (u2 0), .ref (u2 1), .int 0])), ((u2 0), .inl (cI, 96, .inl (fun _ => 0))), ((u2 1), .inl (cI, 96, .inl (fun _ => 0))), (q3, .inr (4, [.ref (u4 0), .ref (u4 1), .int 0])), ((u4 0), .inl (cI, 96, .inl (fun _ => 0))), ((u4 1), .inl (cI, 96, .inl (fun _ => 0)))] H := hP
  have hD : va_D A [(h0, .inr (6, [.null, .ref q1, .ref q3, .ref q1, .null, .int 0])), (q1, .inr (4, [.ref (u2 0), .ref (u2 1), .int 0])), ((u2 0), .inl (cI, 96, .inl (fun _ => 0))), ((u2 1), .inl (cI, 96, .inl (fun _ => 0))), (q3, .inr (4, [.ref (u4 0), .ref (u4 1), .int 0])), ((u4 0), .inl (cI, 96, .inl (fun _ => 0))), ((u4 1), .inl (cI, 96, .inl (fun _ => 0)))] := hD
  refine lv_aload_n hx hb (show decode cX6_init 34 = .ok (.aload_n 0, 1) by decide +kernel) rfl (lv_at hl 0 rfl) ?_
  refine va_ldcS hx hb F.2.2.2.1 hK.2.1 (show decode cX6_init 35 = .ok (.ldc 24, 2) by decide +kernel) ?_
  refine zcput (ci := 6) (q0 := (RX6, TX6, 6)) (k := 4) (ty := .object "java/lang/String") 0 F hK hP hD hS rfl rfl (by decide) (inT_in (i := 314) (by decide +kernel)) rfl (by decide +kernel) rfl rfl (Nat.le_of_ble_eq_true rfl) (show decode cX6_init 37 = .ok (.putfield 26, 3) by decide +kernel) (fun H locs hP hD hS => ?_)
  have hP : va_P D vwCl [(h0, .inr (6, [.null, .ref q1, .ref q3, .ref q1, .ref aT, .int 0])), (q1, .inr (4, [.ref (u2 0), .ref (u2 1), .int 0])), ((u2 0), .inl (cI, 96, .inl (fun _ => 0))), ((u2 1), .inl (cI, 96, .inl (fun _ => 0))), (q3, .inr (4, [.ref (u4 0), .ref (u4 1), .int 0])), ((u4 0), .inl (cI, 96, .inl (fun _ => 0))), ((u4 1), .inl (cI, 96, .inl (fun _ => 0)))] H := hP
  have hD : va_D A [(h0, .inr (6, [.null, .ref q1, .ref q3, .ref q1, .ref aT, .int 0])), (q1, .inr (4, [.ref (u2 0), .ref (u2 1), .int 0])), ((u2 0), .inl (cI, 96, .inl (fun _ => 0))), ((u2 1), .inl (cI, 96, .inl (fun _ => 0))), (q3, .inr (4, [.ref (u4 0), .ref (u4 1), .int 0])), ((u4 0), .inl (cI, 96, .inl (fun _ => 0))), ((u4 1), .inl (cI, 96, .inl (fun _ => 0)))] := hD
  refine lv_aload_n hx hb (show decode cX6_init 40 = .ok (.aload_n 0, 1) by decide +kernel) rfl (lv_at hl 0 rfl) ?_
  refine lv_aload_n hx hb (show decode cX6_init 41 = .ok (.aload_n 1, 1) by decide +kernel) rfl (lv_at hl 1 rfl) ?_
  refine zcput (ci := 6) (q0 := (RX6, TX6, 6)) (k := 0) (ty := .object "RoomsDesk$Tape") 0 F hK hP hD hS rfl rfl (by decide) (inT_in (i := 308) (by decide +kernel)) rfl (by decide +kernel) rfl rfl (Nat.le_of_ble_eq_true rfl) (show decode cX6_init 42 = .ok (.putfield 30, 3) by decide +kernel) (fun H locs hP hD hS => ?_)
  have hP : va_P D vwCl [(h0, .inr (6, [.ref a1, .ref q1, .ref q3, .ref q1, .ref aT, .int 0])), (q1, .inr (4, [.ref (u2 0), .ref (u2 1), .int 0])), ((u2 0), .inl (cI, 96, .inl (fun _ => 0))), ((u2 1), .inl (cI, 96, .inl (fun _ => 0))), (q3, .inr (4, [.ref (u4 0), .ref (u4 1), .int 0])), ((u4 0), .inl (cI, 96, .inl (fun _ => 0))), ((u4 1), .inl (cI, 96, .inl (fun _ => 0)))] H := hP
  have hD : va_D A [(h0, .inr (6, [.ref a1, .ref q1, .ref q3, .ref q1, .ref aT, .int 0])), (q1, .inr (4, [.ref (u2 0), .ref (u2 1), .int 0])), ((u2 0), .inl (cI, 96, .inl (fun _ => 0))), ((u2 1), .inl (cI, 96, .inl (fun _ => 0))), (q3, .inr (4, [.ref (u4 0), .ref (u4 1), .int 0])), ((u4 0), .inl (cI, 96, .inl (fun _ => 0))), ((u4 1), .inl (cI, 96, .inl (fun _ => 0)))] := hD
  exact zcret (res := rs_X6_init cI cB aT h0 a1) F (show decode cX6_init 45 = .ok (.return_, 1) by decide +kernel) (fun k => [q1, (u2 0), (u2 1), q3, (u4 0), (u4 1)].getD k 0) hP hD hS
def rs_X8_init (cI cB : ClassId) (aT h0 : Nat) (q : Nat → Nat) : va_W := [(h0, .inr (8, [.int 0, .int 0, .int 0, .int 0, .int 0, .int 0, .int 0]))]
set_option maxHeartbeats 4000000 in
set_option maxRecDepth 100000 in
theorem C_X8_init (l : Launch) (D : va_G) (cI cB : ClassId) (aT h0 : Nat) : zCt l D cI cB aT yX8_init cX8_init 1 ({ frames := 1, cells := 0, slots := 0, locals := 20 }) 0 0 8 [.int 0, .int 0, .int 0, .int 0, .int 0, .int 0, .int 0] [] h0 (rs_X8_init cI cB aT h0) := by
  refine zCt_of (by decide) rfl (Nat.le_of_ble_eq_true rfl) ?_
  intro p e s m args below meth c F hK A hA hP hD ls hl
  have hx := F.1
  have hb := F.2.1
  have hts := F.2.2.2.2.1
  have hS : va_S A s.heap s.heap [] := va_S.rf
  have hl : lv_has ls 1 [(0, .ref h0)] := hl
  refine lv_aload_n hx hb (show decode cX8_init 0 = .ok (.aload_n 0, 1) by decide +kernel) rfl (lv_at hl 0 rfl) ?_
  refine zobj F hl.1 (inT_in (i := 343) (by decide +kernel)) (show decode cX8_init 1 = .ok (.invokespecial 3, 3) by decide +kernel) (Nat.le_of_ble_eq_true rfl) (Nat.le_of_ble_eq_true rfl) ?_
  exact zcret (res := rs_X8_init cI cB aT h0) F (show decode cX8_init 4 = .ok (.return_, 1) by decide +kernel) (fun k => [].getD k 0) hP hD hS
def rs_X2_init (cI cB : ClassId) (aT h0 : Nat) (a1 : Nat) (a2 : Nat) (q : Nat → Nat) : va_W := [(h0, .inr (2, [.ref a1, .ref a2, .ref (q 0), .ref (q 3), .ref (q 6), .ref (q 7), .int 0, .int 0])), ((q 0), .inr (4, [.ref (q 1), .ref (q 2), .int 0])), ((q 1), .inl (cI, 96, .inl (fun _ => 0))), ((q 2), .inl (cI, 96, .inl (fun _ => 0))), ((q 3), .inr (4, [.ref (q 4), .ref (q 5), .int 0])), ((q 4), .inl (cI, 96, .inl (fun _ => 0))), ((q 5), .inl (cI, 96, .inl (fun _ => 0))), ((q 6), .inr (8, [.int 0, .int 0, .int 0, .int 0, .int 0, .int 0, .int 0])), ((q 7), .inl (cI, 26, .inl (fun _ => 0)))]
set_option maxHeartbeats 4000000 in
set_option maxRecDepth 100000 in
theorem C_X2_init (l : Launch) (D : va_G) (cI cB : ClassId) (aT h0 : Nat) (a1 : Nat) (a2 : Nat) : zCt l D cI cB aT yX2_init cX2_init 3 ({ frames := 2, cells := 8, slots := 423, locals := 40 }) 8 423 2 [.null, .null, .null, .null, .null, .null, .int 0, .int 0] [.ref a1, .ref a2] h0 (rs_X2_init cI cB aT h0 a1 a2) := by
  refine zCt_of (by decide) rfl (Nat.le_of_ble_eq_true rfl) ?_
  intro p e s m args below meth c F hK A hA hP hD ls hl
  have hx := F.1
  have hb := F.2.1
  have hts := F.2.2.2.2.1
  have hS : va_S A s.heap s.heap [] := va_S.rf
  have hl : lv_has ls 3 [(0, .ref h0), (1, .ref a1), (2, .ref a2)] := hl
  refine lv_aload_n hx hb (show decode cX2_init 0 = .ok (.aload_n 0, 1) by decide +kernel) rfl (lv_at hl 0 rfl) ?_
  refine zobj F hl.1 (inT_in (i := 335) (by decide +kernel)) (show decode cX2_init 1 = .ok (.invokespecial 3, 3) by decide +kernel) (Nat.le_of_ble_eq_true rfl) (Nat.le_of_ble_eq_true rfl) ?_
  refine lv_aload_n hx hb (show decode cX2_init 4 = .ok (.aload_n 0, 1) by decide +kernel) rfl (lv_at hl 0 rfl) ?_
  refine zcnew (ci := 4) (q0 := (RX4, TX4, 3)) (ty := tyX4) (fs := [.null, .null, .int 0]) F hK hP hD hS hA rfl tyX4_ok (inT_in (i := 336) (by decide +kernel)) (inT_in (i := 291) (by decide +kernel)) (inT_in (i := 70) (by decide +kernel)) dfX4 (Nat.le_of_ble_eq_true rfl) (Nat.le_of_ble_eq_true rfl) (show decode cX2_init 5 = .ok (.new 9, 3) by decide +kernel) (fun q1 H hP hD hS => ?_)
  have hP : va_P D vwCl [(h0, .inr (2, [.null, .null, .null, .null, .null, .null, .int 0, .int 0])), (q1, .inr (4, [.null, .null, .int 0]))] H := hP
  have hD : va_D A [(h0, .inr (2, [.null, .null, .null, .null, .null, .null, .int 0, .int 0])), (q1, .inr (4, [.null, .null, .int 0]))] := hD
  refine lv_dup hx hb (show decode cX2_init 8 = .ok (.dup, 1) by decide +kernel) rfl ?_
  refine zcalN (host := "RoomsDesk") (as := []) (rest := [.ref q1, .ref h0]) (b := q1) (wr := [(h0, .inr (2, [.null, .null, .null, .null, .null, .null, .int 0, .int 0]))]) 1 [0] F (C_X4_init l D cI cB aT q1 ) (List.mem_of_getElem? (i := 6) rfl) (inT_in (i := 294) (by decide +kernel)) (inT_in (i := 70) (by decide +kernel)) (inT_in (i := 293) (by decide +kernel)) rfl (show yX4_init.cls ≠ "java/lang/invoke/MethodHandle" ∧ yX4_init.cls ≠ "java/lang/invoke/VarHandle" ∧ (parseMethodDescriptor yX4_init.desc).map (fun d => d.parameters.length) = some 0 by decide +kernel) rfl rfl ⟨Nat.le_of_ble_eq_true rfl, Nat.le_of_ble_eq_true rfl⟩ hK hP hD hS hA rfl rfl rfl (by decide) hl.1 (Nat.le_of_ble_eq_true rfl) (show decode cX2_init 9 = .ok (.invokespecial 11, 3) by decide +kernel) ⟨Nat.le_of_ble_eq_true rfl, Nat.le_of_ble_eq_true rfl⟩ (fun u2 H locs hP hD hS => ?_)
  have hP : va_P D vwCl [(h0, .inr (2, [.null, .null, .null, .null, .null, .null, .int 0, .int 0])), (q1, .inr (4, [.ref (u2 0), .ref (u2 1), .int 0])), ((u2 0), .inl (cI, 96, .inl (fun _ => 0))), ((u2 1), .inl (cI, 96, .inl (fun _ => 0)))] H := hP
  have hD : va_D A [(h0, .inr (2, [.null, .null, .null, .null, .null, .null, .int 0, .int 0])), (q1, .inr (4, [.ref (u2 0), .ref (u2 1), .int 0])), ((u2 0), .inl (cI, 96, .inl (fun _ => 0))), ((u2 1), .inl (cI, 96, .inl (fun _ => 0)))] := hD
  refine zcput (ci := 2) (q0 := (RX2, TX2, 8)) (k := 2) (ty := .object "RoomsDesk$Formula") 0 F hK hP hD hS rfl rfl (by decide) (inT_in (i := 378) (by decide +kernel)) rfl (by decide +kernel) rfl rfl (Nat.le_of_ble_eq_true rfl) (show decode cX2_init 12 = .ok (.putfield 12, 3) by decide +kernel) (fun H locs hP hD hS => ?_)
  have hP : va_P D vwCl [(h0, .inr (2, [.null, .null, .ref q1, .null, .null, .null, .int 0, .int 0])), (q1, .inr (4, [.ref (u2 0), .ref (u2 1), .int 0])), ((u2 0), .inl (cI, 96, .inl (fun _ => 0))), ((u2 1), .inl (cI, 96, .inl (fun _ => 0)))] H := hP
  have hD : va_D A [(h0, .inr (2, [.null, .null, .ref q1, .null, .null, .null, .int 0, .int 0])), (q1, .inr (4, [.ref (u2 0), .ref (u2 1), .int 0])), ((u2 0), .inl (cI, 96, .inl (fun _ => 0))), ((u2 1), .inl (cI, 96, .inl (fun _ => 0)))] := hD
  refine lv_aload_n hx hb (show decode cX2_init 15 = .ok (.aload_n 0, 1) by decide +kernel) rfl (lv_at hl 0 rfl) ?_
  refine zcnew (ci := 4) (q0 := (RX4, TX4, 3)) (ty := tyX4) (fs := [.null, .null, .int 0]) F hK hP hD hS hA rfl tyX4_ok (inT_in (i := 336) (by decide +kernel)) (inT_in (i := 291) (by decide +kernel)) (inT_in (i := 70) (by decide +kernel)) dfX4 (Nat.le_of_ble_eq_true rfl) (Nat.le_of_ble_eq_true rfl) (show decode cX2_init 16 = .ok (.new 9, 3) by decide +kernel) (fun q3 H hP hD hS => ?_)
  have hP : va_P D vwCl [(h0, .inr (2, [.null, .null, .ref q1, .null, .null, .null, .int 0, .int 0])), (q1, .inr (4, [.ref (u2 0), .ref (u2 1), .int 0])), ((u2 0), .inl (cI, 96, .inl (fun _ => 0))), ((u2 1), .inl (cI, 96, .inl (fun _ => 0))), (q3, .inr (4, [.null, .null, .int 0]))] H := hP
  have hD : va_D A [(h0, .inr (2, [.null, .null, .ref q1, .null, .null, .null, .int 0, .int 0])), (q1, .inr (4, [.ref (u2 0), .ref (u2 1), .int 0])), ((u2 0), .inl (cI, 96, .inl (fun _ => 0))), ((u2 1), .inl (cI, 96, .inl (fun _ => 0))), (q3, .inr (4, [.null, .null, .int 0]))] := hD
  refine lv_dup hx hb (show decode cX2_init 19 = .ok (.dup, 1) by decide +kernel) rfl ?_
  refine zcalN (host := "RoomsDesk") (as := []) (rest := [.ref q3, .ref h0]) (b := q3) (wr := [(h0, .inr (2, [.null, .null, .ref q1, .null, .null, .null, .int 0, .int 0])), (q1, .inr (4, [.ref (u2 0), .ref (u2 1), .int 0])), ((u2 0), .inl (cI, 96, .inl (fun _ => 0))), ((u2 1), .inl (cI, 96, .inl (fun _ => 0)))]) 4 [0, 1, 2, 3] F (C_X4_init l D cI cB aT q3 ) (List.mem_of_getElem? (i := 6) rfl) (inT_in (i := 294) (by decide +kernel)) (inT_in (i := 70) (by decide +kernel)) (inT_in (i := 293) (by decide +kernel)) rfl (show yX4_init.cls ≠ "java/lang/invoke/MethodHandle" ∧ yX4_init.cls ≠ "java/lang/invoke/VarHandle" ∧ (parseMethodDescriptor yX4_init.desc).map (fun d => d.parameters.length) = some 0 by decide +kernel) rfl rfl ⟨Nat.le_of_ble_eq_true rfl, Nat.le_of_ble_eq_true rfl⟩ hK hP hD hS hA rfl rfl rfl (by decide) hl.1 (Nat.le_of_ble_eq_true rfl) (show decode cX2_init 20 = .ok (.invokespecial 11, 3) by decide +kernel) ⟨Nat.le_of_ble_eq_true rfl, Nat.le_of_ble_eq_true rfl⟩ (fun u4 H locs hP hD hS => ?_)
  have hP : va_P D vwCl [(h0, .inr (2, [.null, .null, .ref q1, .null, .null, .null, .int 0, .int 0])), (q1, .inr (4, [.ref (u2 0), .ref (u2 1), .int 0])), ((u2 0), .inl (cI, 96, .inl (fun _ => 0))), ((u2 1), .inl (cI, 96, .inl (fun _ => 0))), (q3, .inr (4, [.ref (u4 0), .ref (u4 1), .int 0])), ((u4 0), .inl (cI, 96, .inl (fun _ => 0))), ((u4 1), .inl (cI, 96, .inl (fun _ => 0)))] H := hP
  have hD : va_D A [(h0, .inr (2, [.null, .null, .ref q1, .null, .null, .null, .int 0, .int 0])), (q1, .inr (4, [.ref (u2 0), .ref (u2 1), .int 0])), ((u2 0), .inl (cI, 96, .inl (fun _ => 0))), ((u2 1), .inl (cI, 96, .inl (fun _ => 0))), (q3, .inr (4, [.ref (u4 0), .ref (u4 1), .int 0])), ((u4 0), .inl (cI, 96, .inl (fun _ => 0))), ((u4 1), .inl (cI, 96, .inl (fun _ => 0)))] := hD
  refine zcput (ci := 2) (q0 := (RX2, TX2, 8)) (k := 3) (ty := .object "RoomsDesk$Formula") 0 F hK hP hD hS rfl rfl (by decide) (inT_in (i := 380) (by decide +kernel)) rfl (by decide +kernel) rfl rfl (Nat.le_of_ble_eq_true rfl) (show decode cX2_init 23 = .ok (.putfield 18, 3) by decide +kernel) (fun H locs hP hD hS => ?_)
  have hP : va_P D vwCl [(h0, .inr (2, [.null, .null, .ref q1, .ref q3, .null, .null, .int 0, .int 0])), (q1, .inr (4, [.ref (u2 0), .ref (u2 1), .int 0])), ((u2 0), .inl (cI, 96, .inl (fun _ => 0))), ((u2 1), .inl (cI, 96, .inl (fun _ => 0))), (q3, .inr (4, [.ref (u4 0), .ref (u4 1), .int 0])), ((u4 0), .inl (cI, 96, .inl (fun _ => 0))), ((u4 1), .inl (cI, 96, .inl (fun _ => 0)))] H := hP
  have hD : va_D A [(h0, .inr (2, [.null, .null, .ref q1, .ref q3, .null, .null, .int 0, .int 0])), (q1, .inr (4, [.ref (u2 0), .ref (u2 1), .int 0])), ((u2 0), .inl (cI, 96, .inl (fun _ => 0))), ((u2 1), .inl (cI, 96, .inl (fun _ => 0))), (q3, .inr (4, [.ref (u4 0), .ref (u4 1), .int 0])), ((u4 0), .inl (cI, 96, .inl (fun _ => 0))), ((u4 1), .inl (cI, 96, .inl (fun _ => 0)))] := hD
  refine lv_aload_n hx hb (show decode cX2_init 26 = .ok (.aload_n 0, 1) by decide +kernel) rfl (lv_at hl 0 rfl) ?_
  refine zcnew (ci := 8) (q0 := (RX8, TX8, 7)) (ty := tyX8) (fs := [.int 0, .int 0, .int 0, .int 0, .int 0, .int 0, .int 0]) F hK hP hD hS hA rfl tyX8_ok (inT_in (i := 338) (by decide +kernel)) (inT_in (i := 339) (by decide +kernel)) (inT_in (i := 72) (by decide +kernel)) dfX8 (Nat.le_of_ble_eq_true rfl) (Nat.le_of_ble_eq_true rfl) (show decode cX2_init 27 = .ok (.new 21, 3) by decide +kernel) (fun q5 H hP hD hS => ?_)
  have hP : va_P D vwCl [(h0, .inr (2, [.null, .null, .ref q1, .ref q3, .null, .null, .int 0, .int 0])), (q1, .inr (4, [.ref (u2 0), .ref (u2 1), .int 0])), ((u2 0), .inl (cI, 96, .inl (fun _ => 0))), ((u2 1), .inl (cI, 96, .inl (fun _ => 0))), (q3, .inr (4, [.ref (u4 0), .ref (u4 1), .int 0])), ((u4 0), .inl (cI, 96, .inl (fun _ => 0))), ((u4 1), .inl (cI, 96, .inl (fun _ => 0))), (q5, .inr (8, [.int 0, .int 0, .int 0, .int 0, .int 0, .int 0, .int 0]))] H := hP
  have hD : va_D A [(h0, .inr (2, [.null, .null, .ref q1, .ref q3, .null, .null, .int 0, .int 0])), (q1, .inr (4, [.ref (u2 0), .ref (u2 1), .int 0])), ((u2 0), .inl (cI, 96, .inl (fun _ => 0))), ((u2 1), .inl (cI, 96, .inl (fun _ => 0))), (q3, .inr (4, [.ref (u4 0), .ref (u4 1), .int 0])), ((u4 0), .inl (cI, 96, .inl (fun _ => 0))), ((u4 1), .inl (cI, 96, .inl (fun _ => 0))), (q5, .inr (8, [.int 0, .int 0, .int 0, .int 0, .int 0, .int 0, .int 0]))] := hD
  refine lv_dup hx hb (show decode cX2_init 30 = .ok (.dup, 1) by decide +kernel) rfl ?_
  refine zcalN (host := "RoomsDesk") (as := []) (rest := [.ref q5, .ref h0]) (b := q5) (wr := [(h0, .inr (2, [.null, .null, .ref q1, .ref q3, .null, .null, .int 0, .int 0])), (q1, .inr (4, [.ref (u2 0), .ref (u2 1), .int 0])), ((u2 0), .inl (cI, 96, .inl (fun _ => 0))), ((u2 1), .inl (cI, 96, .inl (fun _ => 0))), (q3, .inr (4, [.ref (u4 0), .ref (u4 1), .int 0])), ((u4 0), .inl (cI, 96, .inl (fun _ => 0))), ((u4 1), .inl (cI, 96, .inl (fun _ => 0)))]) 7 [0, 1, 2, 3, 4, 5, 6] F (C_X8_init l D cI cB aT q5 ) (List.mem_of_getElem? (i := 7) rfl) (inT_in (i := 342) (by decide +kernel)) (inT_in (i := 72) (by decide +kernel)) (inT_in (i := 341) (by decide +kernel)) rfl (show yX8_init.cls ≠ "java/lang/invoke/MethodHandle" ∧ yX8_init.cls ≠ "java/lang/invoke/VarHandle" ∧ (parseMethodDescriptor yX8_init.desc).map (fun d => d.parameters.length) = some 0 by decide +kernel) rfl rfl ⟨Nat.le_of_ble_eq_true rfl, Nat.le_of_ble_eq_true rfl⟩ hK hP hD hS hA rfl rfl rfl (by decide) hl.1 (Nat.le_of_ble_eq_true rfl) (show decode cX2_init 31 = .ok (.invokespecial 23, 3) by decide +kernel) ⟨Nat.le_of_ble_eq_true rfl, Nat.le_of_ble_eq_true rfl⟩ (fun u6 H locs hP hD hS => ?_)
  have hP : va_P D vwCl [(h0, .inr (2, [.null, .null, .ref q1, .ref q3, .null, .null, .int 0, .int 0])), (q1, .inr (4, [.ref (u2 0), .ref (u2 1), .int 0])), ((u2 0), .inl (cI, 96, .inl (fun _ => 0))), ((u2 1), .inl (cI, 96, .inl (fun _ => 0))), (q3, .inr (4, [.ref (u4 0), .ref (u4 1), .int 0])), ((u4 0), .inl (cI, 96, .inl (fun _ => 0))), ((u4 1), .inl (cI, 96, .inl (fun _ => 0))), (q5, .inr (8, [.int 0, .int 0, .int 0, .int 0, .int 0, .int 0, .int 0]))] H := hP
  have hD : va_D A [(h0, .inr (2, [.null, .null, .ref q1, .ref q3, .null, .null, .int 0, .int 0])), (q1, .inr (4, [.ref (u2 0), .ref (u2 1), .int 0])), ((u2 0), .inl (cI, 96, .inl (fun _ => 0))), ((u2 1), .inl (cI, 96, .inl (fun _ => 0))), (q3, .inr (4, [.ref (u4 0), .ref (u4 1), .int 0])), ((u4 0), .inl (cI, 96, .inl (fun _ => 0))), ((u4 1), .inl (cI, 96, .inl (fun _ => 0))), (q5, .inr (8, [.int 0, .int 0, .int 0, .int 0, .int 0, .int 0, .int 0]))] := hD
  refine zcput (ci := 2) (q0 := (RX2, TX2, 8)) (k := 4) (ty := .object "RoomsDesk$Tally") 0 F hK hP hD hS rfl rfl (by decide) (inT_in (i := 382) (by decide +kernel)) rfl (by decide +kernel) rfl rfl (Nat.le_of_ble_eq_true rfl) (show decode cX2_init 34 = .ok (.putfield 24, 3) by decide +kernel) (fun H locs hP hD hS => ?_)
  have hP : va_P D vwCl [(h0, .inr (2, [.null, .null, .ref q1, .ref q3, .ref q5, .null, .int 0, .int 0])), (q1, .inr (4, [.ref (u2 0), .ref (u2 1), .int 0])), ((u2 0), .inl (cI, 96, .inl (fun _ => 0))), ((u2 1), .inl (cI, 96, .inl (fun _ => 0))), (q3, .inr (4, [.ref (u4 0), .ref (u4 1), .int 0])), ((u4 0), .inl (cI, 96, .inl (fun _ => 0))), ((u4 1), .inl (cI, 96, .inl (fun _ => 0))), (q5, .inr (8, [.int 0, .int 0, .int 0, .int 0, .int 0, .int 0, .int 0]))] H := hP
  have hD : va_D A [(h0, .inr (2, [.null, .null, .ref q1, .ref q3, .ref q5, .null, .int 0, .int 0])), (q1, .inr (4, [.ref (u2 0), .ref (u2 1), .int 0])), ((u2 0), .inl (cI, 96, .inl (fun _ => 0))), ((u2 1), .inl (cI, 96, .inl (fun _ => 0))), (q3, .inr (4, [.ref (u4 0), .ref (u4 1), .int 0])), ((u4 0), .inl (cI, 96, .inl (fun _ => 0))), ((u4 1), .inl (cI, 96, .inl (fun _ => 0))), (q5, .inr (8, [.int 0, .int 0, .int 0, .int 0, .int 0, .int 0, .int 0]))] := hD
  refine lv_aload_n hx hb (show decode cX2_init 37 = .ok (.aload_n 0, 1) by decide +kernel) rfl (lv_at hl 0 rfl) ?_
  refine lv_bipush (v := 26) hx hb (show decode cX2_init 38 = .ok (.bipush 26, 2) by decide +kernel) (by decide) ?_
  refine zarrI (N := 26) F hK hP hD hS hA (by decide) (by decide) (by decide) (Nat.le_of_ble_eq_true rfl) (Nat.le_of_ble_eq_true rfl) (show decode cX2_init 40 = .ok (.newarray .int, 2) by decide +kernel) (fun q7 H hP hD hS => ?_)
  have hP : va_P D vwCl [(h0, .inr (2, [.null, .null, .ref q1, .ref q3, .ref q5, .null, .int 0, .int 0])), (q1, .inr (4, [.ref (u2 0), .ref (u2 1), .int 0])), ((u2 0), .inl (cI, 96, .inl (fun _ => 0))), ((u2 1), .inl (cI, 96, .inl (fun _ => 0))), (q3, .inr (4, [.ref (u4 0), .ref (u4 1), .int 0])), ((u4 0), .inl (cI, 96, .inl (fun _ => 0))), ((u4 1), .inl (cI, 96, .inl (fun _ => 0))), (q5, .inr (8, [.int 0, .int 0, .int 0, .int 0, .int 0, .int 0, .int 0])), (q7, .inl (cI, 26, .inl (fun _ => 0)))] H := hP
  have hD : va_D A [(h0, .inr (2, [.null, .null, .ref q1, .ref q3, .ref q5, .null, .int 0, .int 0])), (q1, .inr (4, [.ref (u2 0), .ref (u2 1), .int 0])), ((u2 0), .inl (cI, 96, .inl (fun _ => 0))), ((u2 1), .inl (cI, 96, .inl (fun _ => 0))), (q3, .inr (4, [.ref (u4 0), .ref (u4 1), .int 0])), ((u4 0), .inl (cI, 96, .inl (fun _ => 0))), ((u4 1), .inl (cI, 96, .inl (fun _ => 0))), (q5, .inr (8, [.int 0, .int 0, .int 0, .int 0, .int 0, .int 0, .int 0])), (q7, .inl (cI, 26, .inl (fun _ => 0)))] := hD
  refine zcput (ci := 2) (q0 := (RX2, TX2, 8)) (k := 5) (ty := .array .int) 0 F hK hP hD hS rfl rfl (by decide) (inT_in (i := 384) (by decide +kernel)) rfl (by decide +kernel) rfl rfl (Nat.le_of_ble_eq_true rfl) (show decode cX2_init 42 = .ok (.putfield 28, 3) by decide +kernel) (fun H locs hP hD hS => ?_)
  have hP : va_P D vwCl [(h0, .inr (2, [.null, .null, .ref q1, .ref q3, .ref q5, .ref q7, .int 0, .int 0])), (q1, .inr (4, [.ref (u2 0), .ref (u2 1), .int 0])), ((u2 0), .inl (cI, 96, .inl (fun _ => 0))), ((u2 1), .inl (cI, 96, .inl (fun _ => 0))), (q3, .inr (4, [.ref (u4 0), .ref (u4 1), .int 0])), ((u4 0), .inl (cI, 96, .inl (fun _ => 0))), ((u4 1), .inl (cI, 96, .inl (fun _ => 0))), (q5, .inr (8, [.int 0, .int 0, .int 0, .int 0, .int 0, .int 0, .int 0])), (q7, .inl (cI, 26, .inl (fun _ => 0)))] H := hP
  have hD : va_D A [(h0, .inr (2, [.null, .null, .ref q1, .ref q3, .ref q5, .ref q7, .int 0, .int 0])), (q1, .inr (4, [.ref (u2 0), .ref (u2 1), .int 0])), ((u2 0), .inl (cI, 96, .inl (fun _ => 0))), ((u2 1), .inl (cI, 96, .inl (fun _ => 0))), (q3, .inr (4, [.ref (u4 0), .ref (u4 1), .int 0])), ((u4 0), .inl (cI, 96, .inl (fun _ => 0))), ((u4 1), .inl (cI, 96, .inl (fun _ => 0))), (q5, .inr (8, [.int 0, .int 0, .int 0, .int 0, .int 0, .int 0, .int 0])), (q7, .inl (cI, 26, .inl (fun _ => 0)))] := hD
  refine lv_aload_n hx hb (show decode cX2_init 45 = .ok (.aload_n 0, 1) by decide +kernel) rfl (lv_at hl 0 rfl) ?_
  refine lv_aload_n hx hb (show decode cX2_init 46 = .ok (.aload_n 1, 1) by decide +kernel) rfl (lv_at hl 1 rfl) ?_
  refine zcput (ci := 2) (q0 := (RX2, TX2, 8)) (k := 0) (ty := .object "RoomsDesk$Claims") 0 F hK hP hD hS rfl rfl (by decide) (inT_in (i := 374) (by decide +kernel)) rfl (by decide +kernel) rfl rfl (Nat.le_of_ble_eq_true rfl) (show decode cX2_init 47 = .ok (.putfield 32, 3) by decide +kernel) (fun H locs hP hD hS => ?_)
  have hP : va_P D vwCl [(h0, .inr (2, [.ref a1, .null, .ref q1, .ref q3, .ref q5, .ref q7, .int 0, .int 0])), (q1, .inr (4, [.ref (u2 0), .ref (u2 1), .int 0])), ((u2 0), .inl (cI, 96, .inl (fun _ => 0))), ((u2 1), .inl (cI, 96, .inl (fun _ => 0))), (q3, .inr (4, [.ref (u4 0), .ref (u4 1), .int 0])), ((u4 0), .inl (cI, 96, .inl (fun _ => 0))), ((u4 1), .inl (cI, 96, .inl (fun _ => 0))), (q5, .inr (8, [.int 0, .int 0, .int 0, .int 0, .int 0, .int 0, .int 0])), (q7, .inl (cI, 26, .inl (fun _ => 0)))] H := hP
  have hD : va_D A [(h0, .inr (2, [.ref a1, .null, .ref q1, .ref q3, .ref q5, .ref q7, .int 0, .int 0])), (q1, .inr (4, [.ref (u2 0), .ref (u2 1), .int 0])), ((u2 0), .inl (cI, 96, .inl (fun _ => 0))), ((u2 1), .inl (cI, 96, .inl (fun _ => 0))), (q3, .inr (4, [.ref (u4 0), .ref (u4 1), .int 0])), ((u4 0), .inl (cI, 96, .inl (fun _ => 0))), ((u4 1), .inl (cI, 96, .inl (fun _ => 0))), (q5, .inr (8, [.int 0, .int 0, .int 0, .int 0, .int 0, .int 0, .int 0])), (q7, .inl (cI, 26, .inl (fun _ => 0)))] := hD
  refine lv_aload_n hx hb (show decode cX2_init 50 = .ok (.aload_n 0, 1) by decide +kernel) rfl (lv_at hl 0 rfl) ?_
  refine lv_aload_n hx hb (show decode cX2_init 51 = .ok (.aload_n 2, 1) by decide +kernel) rfl (lv_at hl 2 rfl) ?_
  refine zcput (ci := 2) (q0 := (RX2, TX2, 8)) (k := 1) (ty := .object "RoomsDesk$Plan") 0 F hK hP hD hS rfl rfl (by decide) (inT_in (i := 376) (by decide +kernel)) rfl (by decide +kernel) rfl rfl (Nat.le_of_ble_eq_true rfl) (show decode cX2_init 52 = .ok (.putfield 36, 3) by decide +kernel) (fun H locs hP hD hS => ?_)
  have hP : va_P D vwCl [(h0, .inr (2, [.ref a1, .ref a2, .ref q1, .ref q3, .ref q5, .ref q7, .int 0, .int 0])), (q1, .inr (4, [.ref (u2 0), .ref (u2 1), .int 0])), ((u2 0), .inl (cI, 96, .inl (fun _ => 0))), ((u2 1), .inl (cI, 96, .inl (fun _ => 0))), (q3, .inr (4, [.ref (u4 0), .ref (u4 1), .int 0])), ((u4 0), .inl (cI, 96, .inl (fun _ => 0))), ((u4 1), .inl (cI, 96, .inl (fun _ => 0))), (q5, .inr (8, [.int 0, .int 0, .int 0, .int 0, .int 0, .int 0, .int 0])), (q7, .inl (cI, 26, .inl (fun _ => 0)))] H := hP
  have hD : va_D A [(h0, .inr (2, [.ref a1, .ref a2, .ref q1, .ref q3, .ref q5, .ref q7, .int 0, .int 0])), (q1, .inr (4, [.ref (u2 0), .ref (u2 1), .int 0])), ((u2 0), .inl (cI, 96, .inl (fun _ => 0))), ((u2 1), .inl (cI, 96, .inl (fun _ => 0))), (q3, .inr (4, [.ref (u4 0), .ref (u4 1), .int 0])), ((u4 0), .inl (cI, 96, .inl (fun _ => 0))), ((u4 1), .inl (cI, 96, .inl (fun _ => 0))), (q5, .inr (8, [.int 0, .int 0, .int 0, .int 0, .int 0, .int 0, .int 0])), (q7, .inl (cI, 26, .inl (fun _ => 0)))] := hD
  exact zcret (res := rs_X2_init cI cB aT h0 a1 a2) F (show decode cX2_init 55 = .ok (.return_, 1) by decide +kernel) (fun k => [q1, (u2 0), (u2 1), q3, (u4 0), (u4 1), q5, q7].getD k 0) hP hD hS
def rs_X7_init (cI cB : ClassId) (aT h0 : Nat) (a1 : Nat) (q : Nat → Nat) : va_W := [(h0, .inr (7, [.ref a1, .ref (q 0), .ref (q 1), .ref (q 2), .ref (q 3), .int 0, .int 0, .int 0, .int 0, .int 0])), ((q 0), .inl (cI, 10, .inl (fun _ => 0))), ((q 1), .inl (cI, 10, .inl (fun _ => 0))), ((q 2), .inr (8, [.int 0, .int 0, .int 0, .int 0, .int 0, .int 0, .int 0])), ((q 3), .inr (8, [.int 0, .int 0, .int 0, .int 0, .int 0, .int 0, .int 0]))]
set_option maxHeartbeats 4000000 in
set_option maxRecDepth 100000 in
theorem C_X7_init (l : Launch) (D : va_G) (cI cB : ClassId) (aT h0 : Nat) (a1 : Nat) : zCt l D cI cB aT yX7_init cX7_init 2 ({ frames := 2, cells := 4, slots := 34, locals := 40 }) 4 34 7 [.null, .null, .null, .null, .null, .int 0, .int 0, .int 0, .int 0, .int 0] [.ref a1] h0 (rs_X7_init cI cB aT h0 a1) := by
  refine zCt_of (by decide) rfl (Nat.le_of_ble_eq_true rfl) ?_
  intro p e s m args below meth c F hK A hA hP hD ls hl
  have hx := F.1
  have hb := F.2.1
  have hts := F.2.2.2.2.1
  have hS : va_S A s.heap s.heap [] := va_S.rf
  have hl : lv_has ls 2 [(0, .ref h0), (1, .ref a1)] := hl
  refine lv_aload_n hx hb (show decode cX7_init 0 = .ok (.aload_n 0, 1) by decide +kernel) rfl (lv_at hl 0 rfl) ?_
  refine zobj F hl.1 (inT_in (i := 412) (by decide +kernel)) (show decode cX7_init 1 = .ok (.invokespecial 3, 3) by decide +kernel) (Nat.le_of_ble_eq_true rfl) (Nat.le_of_ble_eq_true rfl) ?_
  refine lv_aload_n hx hb (show decode cX7_init 4 = .ok (.aload_n 0, 1) by decide +kernel) rfl (lv_at hl 0 rfl) ?_
  refine lv_bipush (v := 10) hx hb (show decode cX7_init 5 = .ok (.bipush 10, 2) by decide +kernel) (by decide) ?_
  refine zarrI (N := 10) F hK hP hD hS hA (by decide) (by decide) (by decide) (Nat.le_of_ble_eq_true rfl) (Nat.le_of_ble_eq_true rfl) (show decode cX7_init 7 = .ok (.newarray .int, 2) by decide +kernel) (fun q1 H hP hD hS => ?_)
  have hP : va_P D vwCl [(h0, .inr (7, [.null, .null, .null, .null, .null, .int 0, .int 0, .int 0, .int 0, .int 0])), (q1, .inl (cI, 10, .inl (fun _ => 0)))] H := hP
  have hD : va_D A [(h0, .inr (7, [.null, .null, .null, .null, .null, .int 0, .int 0, .int 0, .int 0, .int 0])), (q1, .inl (cI, 10, .inl (fun _ => 0)))] := hD
  refine zcput (ci := 7) (q0 := (RX7, TX7, 10)) (k := 1) (ty := .array .int) 0 F hK hP hD hS rfl rfl (by decide) (inT_in (i := 416) (by decide +kernel)) rfl (by decide +kernel) rfl rfl (Nat.le_of_ble_eq_true rfl) (show decode cX7_init 9 = .ok (.putfield 11, 3) by decide +kernel) (fun H locs hP hD hS => ?_)
  have hP : va_P D vwCl [(h0, .inr (7, [.null, .ref q1, .null, .null, .null, .int 0, .int 0, .int 0, .int 0, .int 0])), (q1, .inl (cI, 10, .inl (fun _ => 0)))] H := hP
  have hD : va_D A [(h0, .inr (7, [.null, .ref q1, .null, .null, .null, .int 0, .int 0, .int 0, .int 0, .int 0])), (q1, .inl (cI, 10, .inl (fun _ => 0)))] := hD
  refine lv_aload_n hx hb (show decode cX7_init 12 = .ok (.aload_n 0, 1) by decide +kernel) rfl (lv_at hl 0 rfl) ?_
  refine lv_bipush (v := 10) hx hb (show decode cX7_init 13 = .ok (.bipush 10, 2) by decide +kernel) (by decide) ?_
  refine zarrI (N := 10) F hK hP hD hS hA (by decide) (by decide) (by decide) (Nat.le_of_ble_eq_true rfl) (Nat.le_of_ble_eq_true rfl) (show decode cX7_init 15 = .ok (.newarray .int, 2) by decide +kernel) (fun q2 H hP hD hS => ?_)
  have hP : va_P D vwCl [(h0, .inr (7, [.null, .ref q1, .null, .null, .null, .int 0, .int 0, .int 0, .int 0, .int 0])), (q1, .inl (cI, 10, .inl (fun _ => 0))), (q2, .inl (cI, 10, .inl (fun _ => 0)))] H := hP
  have hD : va_D A [(h0, .inr (7, [.null, .ref q1, .null, .null, .null, .int 0, .int 0, .int 0, .int 0, .int 0])), (q1, .inl (cI, 10, .inl (fun _ => 0))), (q2, .inl (cI, 10, .inl (fun _ => 0)))] := hD
  refine zcput (ci := 7) (q0 := (RX7, TX7, 10)) (k := 2) (ty := .array .int) 0 F hK hP hD hS rfl rfl (by decide) (inT_in (i := 417) (by decide +kernel)) rfl (by decide +kernel) rfl rfl (Nat.le_of_ble_eq_true rfl) (show decode cX7_init 17 = .ok (.putfield 15, 3) by decide +kernel) (fun H locs hP hD hS => ?_)
  have hP : va_P D vwCl [(h0, .inr (7, [.null, .ref q1, .ref q2, .null, .null, .int 0, .int 0, .int 0, .int 0, .int 0])), (q1, .inl (cI, 10, .inl (fun _ => 0))), (q2, .inl (cI, 10, .inl (fun _ => 0)))] H := hP
  have hD : va_D A [(h0, .inr (7, [.null, .ref q1, .ref q2, .null, .null, .int 0, .int 0, .int 0, .int 0, .int 0])), (q1, .inl (cI, 10, .inl (fun _ => 0))), (q2, .inl (cI, 10, .inl (fun _ => 0)))] := hD
  refine lv_aload_n hx hb (show decode cX7_init 20 = .ok (.aload_n 0, 1) by decide +kernel) rfl (lv_at hl 0 rfl) ?_
  refine zcnew (ci := 8) (q0 := (RX8, TX8, 7)) (ty := tyX8) (fs := [.int 0, .int 0, .int 0, .int 0, .int 0, .int 0, .int 0]) F hK hP hD hS hA rfl tyX8_ok (inT_in (i := 413) (by decide +kernel)) (inT_in (i := 339) (by decide +kernel)) (inT_in (i := 72) (by decide +kernel)) dfX8 (Nat.le_of_ble_eq_true rfl) (Nat.le_of_ble_eq_true rfl) (show decode cX7_init 21 = .ok (.new 18, 3) by decide +kernel) (fun q3 H hP hD hS => ?_)
  have hP : va_P D vwCl [(h0, .inr (7, [.null, .ref q1, .ref q2, .null, .null, .int 0, .int 0, .int 0, .int 0, .int 0])), (q1, .inl (cI, 10, .inl (fun _ => 0))), (q2, .inl (cI, 10, .inl (fun _ => 0))), (q3, .inr (8, [.int 0, .int 0, .int 0, .int 0, .int 0, .int 0, .int 0]))] H := hP
  have hD : va_D A [(h0, .inr (7, [.null, .ref q1, .ref q2, .null, .null, .int 0, .int 0, .int 0, .int 0, .int 0])), (q1, .inl (cI, 10, .inl (fun _ => 0))), (q2, .inl (cI, 10, .inl (fun _ => 0))), (q3, .inr (8, [.int 0, .int 0, .int 0, .int 0, .int 0, .int 0, .int 0]))] := hD
  refine lv_dup hx hb (show decode cX7_init 24 = .ok (.dup, 1) by decide +kernel) rfl ?_
  refine zcalN (host := "RoomsDesk") (as := []) (rest := [.ref q3, .ref h0]) (b := q3) (wr := [(h0, .inr (7, [.null, .ref q1, .ref q2, .null, .null, .int 0, .int 0, .int 0, .int 0, .int 0])), (q1, .inl (cI, 10, .inl (fun _ => 0))), (q2, .inl (cI, 10, .inl (fun _ => 0)))]) 3 [0, 1, 2] F (C_X8_init l D cI cB aT q3 ) (List.mem_of_getElem? (i := 8) rfl) (inT_in (i := 342) (by decide +kernel)) (inT_in (i := 72) (by decide +kernel)) (inT_in (i := 341) (by decide +kernel)) rfl (show yX8_init.cls ≠ "java/lang/invoke/MethodHandle" ∧ yX8_init.cls ≠ "java/lang/invoke/VarHandle" ∧ (parseMethodDescriptor yX8_init.desc).map (fun d => d.parameters.length) = some 0 by decide +kernel) rfl rfl ⟨Nat.le_of_ble_eq_true rfl, Nat.le_of_ble_eq_true rfl⟩ hK hP hD hS hA rfl rfl rfl (by decide) hl.1 (Nat.le_of_ble_eq_true rfl) (show decode cX7_init 25 = .ok (.invokespecial 20, 3) by decide +kernel) ⟨Nat.le_of_ble_eq_true rfl, Nat.le_of_ble_eq_true rfl⟩ (fun u4 H locs hP hD hS => ?_)
  have hP : va_P D vwCl [(h0, .inr (7, [.null, .ref q1, .ref q2, .null, .null, .int 0, .int 0, .int 0, .int 0, .int 0])), (q1, .inl (cI, 10, .inl (fun _ => 0))), (q2, .inl (cI, 10, .inl (fun _ => 0))), (q3, .inr (8, [.int 0, .int 0, .int 0, .int 0, .int 0, .int 0, .int 0]))] H := hP
  have hD : va_D A [(h0, .inr (7, [.null, .ref q1, .ref q2, .null, .null, .int 0, .int 0, .int 0, .int 0, .int 0])), (q1, .inl (cI, 10, .inl (fun _ => 0))), (q2, .inl (cI, 10, .inl (fun _ => 0))), (q3, .inr (8, [.int 0, .int 0, .int 0, .int 0, .int 0, .int 0, .int 0]))] := hD
  refine zcput (ci := 7) (q0 := (RX7, TX7, 10)) (k := 3) (ty := .object "RoomsDesk$Tally") 0 F hK hP hD hS rfl rfl (by decide) (inT_in (i := 418) (by decide +kernel)) rfl (by decide +kernel) rfl rfl (Nat.le_of_ble_eq_true rfl) (show decode cX7_init 28 = .ok (.putfield 21, 3) by decide +kernel) (fun H locs hP hD hS => ?_)
  have hP : va_P D vwCl [(h0, .inr (7, [.null, .ref q1, .ref q2, .ref q3, .null, .int 0, .int 0, .int 0, .int 0, .int 0])), (q1, .inl (cI, 10, .inl (fun _ => 0))), (q2, .inl (cI, 10, .inl (fun _ => 0))), (q3, .inr (8, [.int 0, .int 0, .int 0, .int 0, .int 0, .int 0, .int 0]))] H := hP
  have hD : va_D A [(h0, .inr (7, [.null, .ref q1, .ref q2, .ref q3, .null, .int 0, .int 0, .int 0, .int 0, .int 0])), (q1, .inl (cI, 10, .inl (fun _ => 0))), (q2, .inl (cI, 10, .inl (fun _ => 0))), (q3, .inr (8, [.int 0, .int 0, .int 0, .int 0, .int 0, .int 0, .int 0]))] := hD
  refine lv_aload_n hx hb (show decode cX7_init 31 = .ok (.aload_n 0, 1) by decide +kernel) rfl (lv_at hl 0 rfl) ?_
  refine zcnew (ci := 8) (q0 := (RX8, TX8, 7)) (ty := tyX8) (fs := [.int 0, .int 0, .int 0, .int 0, .int 0, .int 0, .int 0]) F hK hP hD hS hA rfl tyX8_ok (inT_in (i := 413) (by decide +kernel)) (inT_in (i := 339) (by decide +kernel)) (inT_in (i := 72) (by decide +kernel)) dfX8 (Nat.le_of_ble_eq_true rfl) (Nat.le_of_ble_eq_true rfl) (show decode cX7_init 32 = .ok (.new 18, 3) by decide +kernel) (fun q5 H hP hD hS => ?_)
  have hP : va_P D vwCl [(h0, .inr (7, [.null, .ref q1, .ref q2, .ref q3, .null, .int 0, .int 0, .int 0, .int 0, .int 0])), (q1, .inl (cI, 10, .inl (fun _ => 0))), (q2, .inl (cI, 10, .inl (fun _ => 0))), (q3, .inr (8, [.int 0, .int 0, .int 0, .int 0, .int 0, .int 0, .int 0])), (q5, .inr (8, [.int 0, .int 0, .int 0, .int 0, .int 0, .int 0, .int 0]))] H := hP
  have hD : va_D A [(h0, .inr (7, [.null, .ref q1, .ref q2, .ref q3, .null, .int 0, .int 0, .int 0, .int 0, .int 0])), (q1, .inl (cI, 10, .inl (fun _ => 0))), (q2, .inl (cI, 10, .inl (fun _ => 0))), (q3, .inr (8, [.int 0, .int 0, .int 0, .int 0, .int 0, .int 0, .int 0])), (q5, .inr (8, [.int 0, .int 0, .int 0, .int 0, .int 0, .int 0, .int 0]))] := hD
  refine lv_dup hx hb (show decode cX7_init 35 = .ok (.dup, 1) by decide +kernel) rfl ?_
  refine zcalN (host := "RoomsDesk") (as := []) (rest := [.ref q5, .ref h0]) (b := q5) (wr := [(h0, .inr (7, [.null, .ref q1, .ref q2, .ref q3, .null, .int 0, .int 0, .int 0, .int 0, .int 0])), (q1, .inl (cI, 10, .inl (fun _ => 0))), (q2, .inl (cI, 10, .inl (fun _ => 0))), (q3, .inr (8, [.int 0, .int 0, .int 0, .int 0, .int 0, .int 0, .int 0]))]) 4 [0, 1, 2, 3] F (C_X8_init l D cI cB aT q5 ) (List.mem_of_getElem? (i := 8) rfl) (inT_in (i := 342) (by decide +kernel)) (inT_in (i := 72) (by decide +kernel)) (inT_in (i := 341) (by decide +kernel)) rfl (show yX8_init.cls ≠ "java/lang/invoke/MethodHandle" ∧ yX8_init.cls ≠ "java/lang/invoke/VarHandle" ∧ (parseMethodDescriptor yX8_init.desc).map (fun d => d.parameters.length) = some 0 by decide +kernel) rfl rfl ⟨Nat.le_of_ble_eq_true rfl, Nat.le_of_ble_eq_true rfl⟩ hK hP hD hS hA rfl rfl rfl (by decide) hl.1 (Nat.le_of_ble_eq_true rfl) (show decode cX7_init 36 = .ok (.invokespecial 20, 3) by decide +kernel) ⟨Nat.le_of_ble_eq_true rfl, Nat.le_of_ble_eq_true rfl⟩ (fun u6 H locs hP hD hS => ?_)
  have hP : va_P D vwCl [(h0, .inr (7, [.null, .ref q1, .ref q2, .ref q3, .null, .int 0, .int 0, .int 0, .int 0, .int 0])), (q1, .inl (cI, 10, .inl (fun _ => 0))), (q2, .inl (cI, 10, .inl (fun _ => 0))), (q3, .inr (8, [.int 0, .int 0, .int 0, .int 0, .int 0, .int 0, .int 0])), (q5, .inr (8, [.int 0, .int 0, .int 0, .int 0, .int 0, .int 0, .int 0]))] H := hP
  have hD : va_D A [(h0, .inr (7, [.null, .ref q1, .ref q2, .ref q3, .null, .int 0, .int 0, .int 0, .int 0, .int 0])), (q1, .inl (cI, 10, .inl (fun _ => 0))), (q2, .inl (cI, 10, .inl (fun _ => 0))), (q3, .inr (8, [.int 0, .int 0, .int 0, .int 0, .int 0, .int 0, .int 0])), (q5, .inr (8, [.int 0, .int 0, .int 0, .int 0, .int 0, .int 0, .int 0]))] := hD
  refine zcput (ci := 7) (q0 := (RX7, TX7, 10)) (k := 4) (ty := .object "RoomsDesk$Tally") 0 F hK hP hD hS rfl rfl (by decide) (inT_in (i := 419) (by decide +kernel)) rfl (by decide +kernel) rfl rfl (Nat.le_of_ble_eq_true rfl) (show decode cX7_init 39 = .ok (.putfield 25, 3) by decide +kernel) (fun H locs hP hD hS => ?_)
  have hP : va_P D vwCl [(h0, .inr (7, [.null, .ref q1, .ref q2, .ref q3, .ref q5, .int 0, .int 0, .int 0, .int 0, .int 0])), (q1, .inl (cI, 10, .inl (fun _ => 0))), (q2, .inl (cI, 10, .inl (fun _ => 0))), (q3, .inr (8, [.int 0, .int 0, .int 0, .int 0, .int 0, .int 0, .int 0])), (q5, .inr (8, [.int 0, .int 0, .int 0, .int 0, .int 0, .int 0, .int 0]))] H := hP
  have hD : va_D A [(h0, .inr (7, [.null, .ref q1, .ref q2, .ref q3, .ref q5, .int 0, .int 0, .int 0, .int 0, .int 0])), (q1, .inl (cI, 10, .inl (fun _ => 0))), (q2, .inl (cI, 10, .inl (fun _ => 0))), (q3, .inr (8, [.int 0, .int 0, .int 0, .int 0, .int 0, .int 0, .int 0])), (q5, .inr (8, [.int 0, .int 0, .int 0, .int 0, .int 0, .int 0, .int 0]))] := hD
  refine lv_aload_n hx hb (show decode cX7_init 42 = .ok (.aload_n 0, 1) by decide +kernel) rfl (lv_at hl 0 rfl) ?_
  refine lv_aload_n hx hb (show decode cX7_init 43 = .ok (.aload_n 1, 1) by decide +kernel) rfl (lv_at hl 1 rfl) ?_
  refine zcput (ci := 7) (q0 := (RX7, TX7, 10)) (k := 0) (ty := .object "RoomsDesk$Court") 0 F hK hP hD hS rfl rfl (by decide) (inT_in (i := 415) (by decide +kernel)) rfl (by decide +kernel) rfl rfl (Nat.le_of_ble_eq_true rfl) (show decode cX7_init 44 = .ok (.putfield 28, 3) by decide +kernel) (fun H locs hP hD hS => ?_)
  have hP : va_P D vwCl [(h0, .inr (7, [.ref a1, .ref q1, .ref q2, .ref q3, .ref q5, .int 0, .int 0, .int 0, .int 0, .int 0])), (q1, .inl (cI, 10, .inl (fun _ => 0))), (q2, .inl (cI, 10, .inl (fun _ => 0))), (q3, .inr (8, [.int 0, .int 0, .int 0, .int 0, .int 0, .int 0, .int 0])), (q5, .inr (8, [.int 0, .int 0, .int 0, .int 0, .int 0, .int 0, .int 0]))] H := hP
  have hD : va_D A [(h0, .inr (7, [.ref a1, .ref q1, .ref q2, .ref q3, .ref q5, .int 0, .int 0, .int 0, .int 0, .int 0])), (q1, .inl (cI, 10, .inl (fun _ => 0))), (q2, .inl (cI, 10, .inl (fun _ => 0))), (q3, .inr (8, [.int 0, .int 0, .int 0, .int 0, .int 0, .int 0, .int 0])), (q5, .inr (8, [.int 0, .int 0, .int 0, .int 0, .int 0, .int 0, .int 0]))] := hD
  exact zcret (res := rs_X7_init cI cB aT h0 a1) F (show decode cX7_init 47 = .ok (.return_, 1) by decide +kernel) (fun k => [q1, q2, q3, q5].getD k 0) hP hD hS
