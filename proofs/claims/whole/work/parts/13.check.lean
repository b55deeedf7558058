-- the formatter of the index check may be null: nobody asks
theorem EnvG.fmt {G : zGT} {s : State} (h : EnvG G s) : va_Zq "jdk/internal/util/Preconditions" "SIOOBE_FORMATTER" "Ljava/util/function/BiFunction;" (AA G) s s.heap := h.2.2.2.2.2.2.2.2
theorem goodAWc {w : Jvm.Cond} (i : w ∈ AW) : GoodIn AW (w :: AW) := by
  intro v hv
  rcases List.mem_cons.mp hv with rfl | hv
  · exact ⟨i, good_of_word (List.mem_filter.mp i).2⟩
  · exact ⟨hv, good_of_word (List.mem_filter.mp hv).2⟩
set_option maxRecDepth 100000 in
theorem met_J3_n {G : zGT} {d : Nat} {Φ : Int32 → zMem → Prop} {σ : zMem} {v0 v1 : Int32} (h0 : ¬ v0 < 0) (h1 : v0 < v1) (h : Φ v0 σ) :
    Met (gl G) yJ3_checkIndex_8e157 (.code yJ3_checkIndex_8e157 cJ3_checkIndex_8e157 3 (some .int) :: AW) (rmD d) (va_Pc [.int v0, .int v1, .null] (Wl G σ)) (Qm G (some .int) (RI Φ)) 0 0 (AA G) := by
  refine Met.ofW (cc := cJ3_checkIndex_8e157) (maxL := 3) (ret := some .int) (by decide) rfl ?_
  intro p e s m args below meth c s₁ B hml hv
  obtain ⟨rfl, hP, hE⟩ := hv
  have hx := B.exec
  have hb := B.bytes
  have hl := lv_entry [.int v0, .int v1, .null] (n := 3) (Nat.le_of_ble_eq_true rfl)
  rw [lg_entry_eq]
  generalize (lg_sl [.int v0, .int v1, .null] ++ List.replicate (3 - (lg_sl [.int v0, .int v1, .null]).length) Slot.unset).toArray = ls at hl ⊢
  have hl : lv_has ls 3 [(0, .int v0), (1, .int v1), (2, .null)] := hl
  refine lv_iload_n hx hb (show decode cJ3_checkIndex_8e157 0 = .ok (.iload_n 0, 1) by decide +kernel) rfl (lv_at hl 0 rfl) ?_
  refine lv_if_lt hx hb (show decode cJ3_checkIndex_8e157 1 = .ok (.ifCond .lt 8, 3) by decide +kernel) (tgt := 9) (by decide) (fun q => absurd q h0) (fun _ => ?_)
  refine lv_iload_n hx hb (show decode cJ3_checkIndex_8e157 4 = .ok (.iload_n 0, 1) by decide +kernel) rfl (lv_at hl 0 rfl) ?_
  refine lv_iload_n hx hb (show decode cJ3_checkIndex_8e157 5 = .ok (.iload_n 1, 1) by decide +kernel) rfl (lv_at hl 1 rfl) ?_
  refine lv_icmp_lt hx hb (show decode cJ3_checkIndex_8e157 6 = .ok (.if_icmp .lt 10, 3) by decide +kernel) (tgt := 16) (by decide) (fun _ => ?_) (fun q => absurd h1 q)
  refine lv_iload_n hx hb (show decode cJ3_checkIndex_8e157 16 = .ok (.iload_n 0, 1) by decide +kernel) rfl (lv_at hl 0 rfl) ?_
  exact W.iret hx hb B.returns (fun t ht _ => ⟨⟨.inl v0, σ, h, rfl, by rw [ht]; exact hP⟩, va_S.rf.F ht⟩) (fun _ h => absurd h List.not_mem_nil) (show decode cJ3_checkIndex_8e157 17 = .ok (.ireturn, 1) by decide +kernel) B.notSynchronized
set_option maxRecDepth 100000 in
theorem met_J3_r {G : zGT} {d : Nat} {Φ : Int32 → zMem → Prop} {σ : zMem} {v0 v1 : Int32} (t : Nat) (h0 : ¬ v0 < 0) (h1 : v0 < v1) (h : Φ v0 σ) :
    Met (gl G) yJ3_checkIndex_8e157 (.code yJ3_checkIndex_8e157 cJ3_checkIndex_8e157 3 (some .int) :: AW) (rmD d) (va_Pc [.int v0, .int v1, .ref t] (Wl G σ)) (Qm G (some .int) (RI Φ)) 0 0 (AA G) := by
  refine Met.ofW (cc := cJ3_checkIndex_8e157) (maxL := 3) (ret := some .int) (by decide) rfl ?_
  intro p e s m args below meth c s₁ B hml hv
  obtain ⟨rfl, hP, hE⟩ := hv
  have hx := B.exec
  have hb := B.bytes
  have hl := lv_entry [.int v0, .int v1, .ref t] (n := 3) (Nat.le_of_ble_eq_true rfl)
  rw [lg_entry_eq]
  generalize (lg_sl [.int v0, .int v1, .ref t] ++ List.replicate (3 - (lg_sl [.int v0, .int v1, .ref t]).length) Slot.unset).toArray = ls at hl ⊢
  have hl : lv_has ls 3 [(0, .int v0), (1, .int v1), (2, .ref t)] := hl
  refine lv_iload_n hx hb (show decode cJ3_checkIndex_8e157 0 = .ok (.iload_n 0, 1) by decide +kernel) rfl (lv_at hl 0 rfl) ?_
  refine lv_if_lt hx hb (show decode cJ3_checkIndex_8e157 1 = .ok (.ifCond .lt 8, 3) by decide +kernel) (tgt := 9) (by decide) (fun q => absurd q h0) (fun _ => ?_)
  refine lv_iload_n hx hb (show decode cJ3_checkIndex_8e157 4 = .ok (.iload_n 0, 1) by decide +kernel) rfl (lv_at hl 0 rfl) ?_
  refine lv_iload_n hx hb (show decode cJ3_checkIndex_8e157 5 = .ok (.iload_n 1, 1) by decide +kernel) rfl (lv_at hl 1 rfl) ?_
  refine lv_icmp_lt hx hb (show decode cJ3_checkIndex_8e157 6 = .ok (.if_icmp .lt 10, 3) by decide +kernel) (tgt := 16) (by decide) (fun _ => ?_) (fun q => absurd h1 q)
  refine lv_iload_n hx hb (show decode cJ3_checkIndex_8e157 16 = .ok (.iload_n 0, 1) by decide +kernel) rfl (lv_at hl 0 rfl) ?_
  exact W.iret hx hb B.returns (fun t ht _ => ⟨⟨.inl v0, σ, h, rfl, by rw [ht]; exact hP⟩, va_S.rf.F ht⟩) (fun _ h => absurd h List.not_mem_nil) (show decode cJ3_checkIndex_8e157 17 = .ok (.ireturn, 1) by decide +kernel) B.notSynchronized
set_option maxRecDepth 100000 in
/-- the index check, for an index in its bounds -/
theorem c_chk {G : zGT} {d : Nat} {Φ : zMem → Prop} {σ : zMem} {v0 v1 : Int32} (h0 : ¬ v0 < 0) (h1 : v0 < v1) (h : Φ σ) : CTV G (d + 1) Y_J0_checkIndex_df160 [.inl v0, .inl v1] σ Φ := by
  intro hQ
  refine Met.ofW (cc := cJ0_checkIndex_df160) (maxL := 2) (ret := none) (by decide) rfl ?_
  intro p e s m args below meth c s₁ B hml hv
  obtain ⟨rfl, hP, hE⟩ := hv
  have hx := B.exec
  have hb := B.bytes
  have hts0 := atoms_spec (ws := (.code yJ0_checkIndex_df160 cJ0_checkIndex_df160 2 none :: AW)) B.pre
  have hts : ∀ w ∈ AW, _ := fun w hw => hts0 w (List.mem_cons_of_mem _ hw)
  have hown := findClass_of_methodNamed B.named
  have hl := lv_entry [.int v0, .int v1] (n := 2) (Nat.le_of_ble_eq_true rfl)
  rw [lg_entry_eq]
  show W p (gl G) e (rmD (d + 1)) s m _ below meth c s.heap [] 0 0 _ (F0 m 0 (lg_sl [.int v0, .int v1] ++ List.replicate (2 - (lg_sl [.int v0, .int v1]).length) Slot.unset).toArray [])
  generalize (lg_sl [.int v0, .int v1] ++ List.replicate (2 - (lg_sl [.int v0, .int v1]).length) Slot.unset).toArray = ls at hl ⊢
  have hl : lv_has ls 2 [(0, .int v0), (1, .int v1)] := hl
  refine lv_iload_n hx hb (show decode cJ0_checkIndex_df160 0 = .ok (.iload_n 0, 1) by decide +kernel) rfl (lv_at hl 0 rfl) ?_
  refine lv_iload_n hx hb (show decode cJ0_checkIndex_df160 1 = .ok (.iload_n 1, 1) by decide +kernel) rfl (lv_at hl 1 rfl) ?_
  have hg := show decode cJ0_checkIndex_df160 2 = .ok (.getstatic 1053, 3) by decide +kernel
  have hi := show decode cJ0_checkIndex_df160 5 = .ok (.invokestatic 1059, 3) by decide +kernel
  have i854 : Jvm.Cond.fieldLink yJ0_checkIndex_df160.cls 1053 "jdk/internal/util/Preconditions" "SIOOBE_FORMATTER" "Ljava/util/function/BiFunction;" ∈ AW := inT_in (i := 854) (by decide +kernel)
  have i856 : Jvm.Cond.methodLink yJ0_checkIndex_df160.cls 1059 yJ3_checkIndex_8e157 ∈ AW := inT_in (i := 856) (by decide +kernel)
  have i858 : Jvm.Cond.code yJ3_checkIndex_8e157 cJ3_checkIndex_8e157 3 (some .int) ∈ AW := inT_in (i := 858) (by decide +kernel)
  have i78 : Jvm.Cond.initialized yJ3_checkIndex_8e157.cls ∈ AW := inT_in (i := 78) (by decide +kernel)
  have i857 : Jvm.Cond.static yJ3_checkIndex_8e157 ∈ AW := inT_in (i := 857) (by decide +kernel)
  have hvw : GoodIn AW (va_wsS yJ0_checkIndex_df160.cls 1059 yJ3_checkIndex_8e157 (.code yJ3_checkIndex_8e157 cJ3_checkIndex_8e157 3 (some .int) :: AW)) := by
    intro w hw
    unfold va_wsS at hw
    rcases List.mem_append.mp hw with hw | hw
    · have : w ∈ AW := by
        simp only [List.mem_cons, List.not_mem_nil, or_false] at hw
        rcases hw with rfl | rfl | rfl
        · exact i856
        · exact i857
        · exact i78
      exact ⟨this, good_of_word (List.mem_filter.mp this).2⟩
    · exact goodAWc i858 w hw
  have hS : va_S (AA G) s.heap s.heap [] := va_S.rf
  have hcw := va_cwS (R := rmD (d + 1)) (args := (List.map (toV (gq G)) [.inl v0, .inl v1]).toArray) (s := s) (mc := 0) (ms := 0) (rm := rmD d) (bytes := cJ3_checkIndex_8e157) (maxL := 3) (ret := some .int) 3 hts hvw rfl rfl rfl (by decide +kernel) ⟨Nat.le_refl _, by show 8 + (3 + 11) + 40 * d ≤ 40 * (d + 1); omega⟩
  have fin : ∀ (H1 : Heap) (locs1 : List Loc), va_P (gD G) vwCl (wd G σ) H1 → va_S (AA G) s.heap H1 locs1 → W p (gl G) e (rmD (d + 1)) s m (List.map (toV (gq G)) [.inl v0, .inl v1]).toArray below meth c H1 locs1 0 0 (MQ below (Qm G none (RV Φ)) (List.map (toV (gq G)) [.inl v0, .inl v1]).toArray s 0 0 (AA G)) (F0 m 8 ls [.int v0]) := by
    intro H1 locs1 hP1 hS1
    refine lv_pop hx hb (show decode cJ0_checkIndex_df160 8 = .ok (.pop, 1) by decide +kernel) rfl ?_
    exact W.vret hx hb B.returns (fun t ht _ => ⟨⟨.inl 0, σ, h, rfl, by rw [ht]; exact hP1⟩, hS1.F ht⟩) hS1.2.2 (show decode cJ0_checkIndex_df160 9 = .ok (.return_, 1) by decide +kernel) B.notSynchronized
  rcases hE.fmt with hZ | ⟨t, hZ⟩
  · refine va_gets hx hb hZ hS hown (hts _ i854) (fun x hx => hx) hg ?_
    refine zback (rest := []) (ret := some .int) (Ψ := RI (fun r σ' => r = v0 ∧ σ' = σ)) (va_runS (g := F0 m 5 ls [.null, .int v1, .int v0]) (rest := []) (As := [.int v0, .int v1, .null]) (nL := 2) ⟨hx, hb, hml, hown, hts⟩ (met_J3_n (d := d) h0 h1 ⟨rfl, rfl⟩) hcw ⟨zblind, fun U hU hW => ⟨rfl, by rw [hU]; exact hP, hE.warm hW hU hS⟩⟩ rfl rfl hl.1 rfl (lv_room (Nat.le_of_ble_eq_true rfl)) hi ⟨Nat.le_refl _, Nat.le_refl _⟩) hS (fun r σ' H1 locs1 hΨ hP1 hS1 => ?_)
    rcases r with x | x | x
    · obtain ⟨rfl, rfl⟩ := hΨ
      exact fin H1 locs1 hP1 hS1
    · exact hΨ.elim
    · exact hΨ.elim
  · refine va_gets hx hb hZ hS hown (hts _ i854) (fun x hx => hx) hg ?_
    refine zback (rest := []) (ret := some .int) (Ψ := RI (fun r σ' => r = v0 ∧ σ' = σ)) (va_runS (g := F0 m 5 ls [.ref t, .int v1, .int v0]) (rest := []) (As := [.int v0, .int v1, .ref t]) (nL := 2) ⟨hx, hb, hml, hown, hts⟩ (met_J3_r t (d := d) h0 h1 ⟨rfl, rfl⟩) hcw ⟨zblind, fun U hU hW => ⟨rfl, by rw [hU]; exact hP, hE.warm hW hU hS⟩⟩ rfl rfl hl.1 rfl (lv_room (Nat.le_of_ble_eq_true rfl)) hi ⟨Nat.le_refl _, Nat.le_refl _⟩) hS (fun r σ' H1 locs1 hΨ hP1 hS1 => ?_)
    rcases r with x | x | x
    · obtain ⟨rfl, rfl⟩ := hΨ
      exact fin H1 locs1 hP1 hS1
    · exact hΨ.elim
    · exact hΨ.elim
