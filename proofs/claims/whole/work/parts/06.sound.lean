section LDW
variable {p : Program} {l : Launch} {e : Env} {R : Room} {s : State} {m : MethodId} {args : Array Value} {below : List Frame} {meth : Method} {c : Code} {H : Heap} {locs : List Loc} {cells slots : Nat} {Q : State → Prop}
theorem zldcwS {T : State} (X : Stand p l e R s m args below meth c T locs cells slots) (hexec : p.tables.exec = Jvm.exec) {own text : String} {index : Nat} {a : Addr} (hown : s.vm.findClass own = some m.cls)
    (hconst : (Cond.stringRef own index text).before args s = true) (hev : (Term.string own index).eval args s none [] s = some (.ref a)) {g : JFrame} (hg : g.method = m) (hdg : decode c.code g.pc = .ok (.ldc_w index, 3)) :
    ∀ target, Steps p.tables e below (T.setTop { g with pc := g.pc + 3, stack := .ref a :: g.stack }) target → Steps p.tables e below (T.setTop g) target := by
  obtain ⟨k, cf, i, a', hk, hcf, hcp, -, hr, hev'⟩ := Cond.stringRef_spec hown hconst
  cases hev.symm.trans hev'
  obtain ⟨k', hk', he⟩ := X.warmed.alike.2.2 _ _ hk
  have hr' : k'.resolved[index]? = some (some (.string a)) := by
    rcases X.warmed.entry hk hk' index with h | ⟨h, -⟩
    · rw [h]; exact hr
    · rw [hr] at h; cases h
  intro target hrest
  subst hg
  jvm_step X.here [hexec, hdg, ldc_w.wp_string (e := e) (s := T) (f := g) X.here.top hk' (by rw [he]; exact hcf) hcp hr']
  exact hrest
theorem zldcS (hexec : p.tables.exec = Jvm.exec) {cc : ByteArray} {pc : Nat} {ls : Array Slot} {rest : List Value} (hb : c.code = cc) {own tx : String} {index q : Nat} (hown : s.vm.findClass own = some m.cls) (hZ : vk_R own index tx q s) (hdg : decode cc pc = .ok (.ldc_w index, 3))
    (k : W p l e R s m args below meth c H locs cells slots Q (F0 m (pc + 3) ls (.ref q :: rest))) : W p l e R s m args below meth c H locs cells slots Q (F0 m pc ls rest) := by
  intro T hT X
  obtain ⟨t, a1, b1⟩ := k T hT X
  exact ⟨t, zldcwS X hexec hown (text := tx) (a := q) hZ.1 hZ.2 (g := F0 m pc ls rest) rfl (by rw [hb]; exact hdg) t a1, b1⟩
end LDW
set_option maxHeartbeats 4000000 in
theorem zdo_ok {G : zGT} {M : zMD} {d : Nat} {Φ : zAV → zMem → Prop} {t : zTE} {lv : zlv} {st : List zAV} {σ : zMem} {K : Nat → zlv → List zAV → zMem → Prop} (hM : okE M.1.1.cls M.1.2.1 t = true) (h : zdo G M d Φ t lv st σ K) (hK : ∀ pc' lv' st' σ', K pc' lv' st' σ' → WJ G M d Φ pc' lv' st' σ') : WJ G M d Φ t.1 lv st σ := by
  obtain ⟨pc, ins, len, a, b, c0, v, Y, sw⟩ := t
  unfold okE at hM
  obtain ⟨hdg, hI⟩ := zspl hM
  have hdg := zde hdg
  intro p e R s m args below meth c cells slots Q F H locs ls hP hS hL
  have F0' := F
  obtain ⟨⟨hx, hb, hml, hown, hts⟩, hE, hQ, ⟨hr1, hr2, hr3, hr4⟩, hret⟩ := F0'
  have go : ∀ {pc' : Nat} {lv' : zlv} {st' : List zAV} {σ' : zMem} {H' : Heap} {locs' : List Loc} {ls' : Array Slot}, K pc' lv' st' σ' → va_P (gD G) vwCl (wd G σ') H' → va_S (AA G) s.heap H' locs' → zlh (gq G) ls' M.1.2.2.1 lv' → W p (gl G) e R s m args below meth c H' locs' cells slots Q (F0 m pc' ls' (st'.map (toV (gq G)))) :=
    fun hk hP' hS' hL' => hK _ _ _ _ hk p e R s m args below meth c cells slots Q F _ _ _ hP' hS' hL'
  cases ins with
  | iload n =>
    have hlen := zbe hI
    subst hlen
    obtain ⟨x, h1, h⟩ := zgI_el h
    exact lv_iload hx hb hdg (zlh_at hL h1) (go h hP hS hL)
  | iload_n n =>
    have hlen := zbe hI
    subst hlen
    obtain ⟨x, h1, h⟩ := zgI_el h
    exact lv_iload_n hx hb hdg rfl (zlh_at hL h1) (go h hP hS hL)
  | lload n =>
    have hlen := zbe hI
    subst hlen
    obtain ⟨x, h1, h⟩ := zgL_el h
    exact lv_lload hx hb hdg (zlh_at hL h1) (go h hP hS hL)
  | lload_n n =>
    have hlen := zbe hI
    subst hlen
    obtain ⟨x, h1, h⟩ := zgL_el h
    exact lv_lload_n hx hb hdg rfl (zlh_at hL h1) (go h hP hS hL)
  | aload n =>
    have hlen := zbe hI
    subst hlen
    obtain ⟨x, h1, h⟩ := zgR_el h
    exact lv_aload hx hb hdg (zlh_at hL h1) (go h hP hS hL)
  | aload_n n =>
    have hlen := zbe hI
    subst hlen
    obtain ⟨x, h1, h⟩ := zgR_el h
    exact lv_aload_n hx hb hdg rfl (zlh_at hL h1) (go h hP hS hL)
  | istore n =>
    have hlen := zbe hI
    subst hlen
    obtain ⟨x, r, rfl, h⟩ := zI1_el h
    obtain ⟨lv2, h1, h⟩ := zsv_el h
    have hn : n < M.1.2.2.1 := by
      have h2 := h1
      unfold zput at h2
      rw [← hL.2]
      by_cases q : n < lv.length
      · exact q
      · rw [show Nat.blt n lv.length = false from by rw [Bool.eq_false_iff]; exact fun z => q (Nat.blt_eq.mp z)] at h2
        simp at h2
    exact lv_istore hx hb hdg hL.1 hn rfl (fun ls2 hl2 => go h hP hS (zput_has hL h1 hl2).1)
  | istore_n n =>
    have hlen := zbe hI
    subst hlen
    obtain ⟨x, r, rfl, h⟩ := zI1_el h
    obtain ⟨lv2, h1, h⟩ := zsv_el h
    have hn : n.val < M.1.2.2.1 := by
      have h2 := h1
      unfold zput at h2
      rw [← hL.2]
      by_cases q : n.val < lv.length
      · exact q
      · rw [show Nat.blt n.val lv.length = false from by rw [Bool.eq_false_iff]; exact fun z => q (Nat.blt_eq.mp z)] at h2
        simp at h2
    exact lv_istore_n hx hb hdg rfl hL.1 hn rfl (fun ls2 hl2 => go h hP hS (zput_has hL h1 hl2).1)
  | astore n =>
    have hlen := zbe hI
    subst hlen
    obtain ⟨x, r, rfl, h⟩ := zR1_el h
    obtain ⟨lv2, h1, h⟩ := zsv_el h
    have hn : n < M.1.2.2.1 := by
      have h2 := h1
      unfold zput at h2
      rw [← hL.2]
      by_cases q : n < lv.length
      · exact q
      · rw [show Nat.blt n lv.length = false from by rw [Bool.eq_false_iff]; exact fun z => q (Nat.blt_eq.mp z)] at h2
        simp at h2
    exact lv_astore hx hb hdg hL.1 hn rfl (fun ls2 hl2 => go h hP hS (zput_has hL h1 hl2).1)
  | astore_n n =>
    have hlen := zbe hI
    subst hlen
    obtain ⟨x, r, rfl, h⟩ := zR1_el h
    obtain ⟨lv2, h1, h⟩ := zsv_el h
    have hn : n.val < M.1.2.2.1 := by
      have h2 := h1
      unfold zput at h2
      rw [← hL.2]
      by_cases q : n.val < lv.length
      · exact q
      · rw [show Nat.blt n.val lv.length = false from by rw [Bool.eq_false_iff]; exact fun z => q (Nat.blt_eq.mp z)] at h2
        simp at h2
    exact lv_astore_n hx hb hdg rfl hL.1 hn rfl (fun ls2 hl2 => go h hP hS (zput_has hL h1 hl2).1)
  | lstore n =>
    have hlen := zbe hI
    subst hlen
    obtain ⟨x, r, rfl, h⟩ := zL1_el h
    obtain ⟨lv2, h1, h⟩ := zsv_el h
    have hn : n + 1 < M.1.2.2.1 := by
      have h2 := h1
      unfold zputL at h2
      rw [← hL.2]
      by_cases q : n + 1 < lv.length
      · exact q
      · rw [show Nat.blt (n + 1) lv.length = false from by rw [Bool.eq_false_iff]; exact fun z => q (Nat.blt_eq.mp z)] at h2
        simp at h2
    exact lv_lstore hx hb hdg hL.1 hn rfl (fun ls2 hl2 => go h hP hS (zputL_has hL h1 hl2).1)
  | lstore_n n =>
    have hlen := zbe hI
    subst hlen
    obtain ⟨x, r, rfl, h⟩ := zL1_el h
    obtain ⟨lv2, h1, h⟩ := zsv_el h
    have hn : n.val + 1 < M.1.2.2.1 := by
      have h2 := h1
      unfold zputL at h2
      rw [← hL.2]
      by_cases q : n.val + 1 < lv.length
      · exact q
      · rw [show Nat.blt (n.val + 1) lv.length = false from by rw [Bool.eq_false_iff]; exact fun z => q (Nat.blt_eq.mp z)] at h2
        simp at h2
    exact lv_lstore_n hx hb hdg rfl hL.1 hn rfl (fun ls2 hl2 => go h hP hS (zputL_has hL h1 hl2).1)
  | iconst n =>
    obtain ⟨h1, h2⟩ := zspl hI
    have hlen := zbe h1
    subst hlen
    exact lv_iconst hx hb hdg (zde h2) (go h hP hS hL)
  | bipush n =>
    obtain ⟨h1, h2⟩ := zspl hI
    have hlen := zbe h1
    subst hlen
    exact lv_bipush hx hb hdg (zde h2) (go h hP hS hL)
  | sipush n =>
    obtain ⟨h1, h2⟩ := zspl hI
    have hlen := zbe h1
    subst hlen
    exact lv_sipush hx hb hdg (zde h2) (go h hP hS hL)
  | ldc_w i =>
    obtain ⟨h1, h2⟩ := zspl hI
    have hlen := zbe h1
    subst hlen
    change (bif Nat.beq a 0 then K (pc + 3) lv (.inl v :: st) σ else K (pc + 3) lv (.inr (.inr b) :: st) σ) at h
    cases hz : Nat.beq a 0 with
    | true =>
      rw [hz] at h h2
      exact lv_ldcw hx hb hown (hts _ (inT_in h2)) hdg (go h hP hS hL)
    | false =>
      rw [hz] at h h2
      simp only [cond_false] at h2
      split at h2
      · rename_i r hr
        obtain ⟨h3, h4⟩ := zspl h2
        obtain ⟨h5, h6⟩ := zspl h3
        have e1 := zde h5
        have e2 := zbe h6
        have e3 := zbe h4
        have hR := hE.2.2.2.2.2.2.1 r (List.mem_of_getElem? hr)
        rw [e1, e2, e3] at hR
        exact zldcS hx hb hown hR hdg (go h hP hS hL)
      · cases h2
  | ldc i =>
    obtain ⟨h1, h2⟩ := zspl hI
    have hlen := zbe h1
    subst hlen
    change (bif Nat.beq a 0 then K (pc + 2) lv (.inl v :: st) σ else K (pc + 2) lv (.inr (.inr b) :: st) σ) at h
    cases hz : Nat.beq a 0 with
    | true =>
      rw [hz] at h h2
      exact lv_ldc hx hb hown (hts _ (inT_in h2)) hdg (go h hP hS hL)
    | false =>
      rw [hz] at h h2
      simp only [cond_false] at h2
      split at h2
      · rename_i r hr
        obtain ⟨h3, h4⟩ := zspl h2
        obtain ⟨h5, h6⟩ := zspl h3
        have e1 := zde h5
        have e2 := zbe h6
        have e3 := zbe h4
        have hR := hE.2.2.2.2.2.2.1 r (List.mem_of_getElem? hr)
        rw [e1, e2, e3] at hR
        exact va_ldcS hx hb hown hR hdg (go h hP hS hL)
      · cases h2
  | lconst n =>
    have hlen := zbe hI
    subst hlen
    exact lv_lconst hx hb hdg rfl (go h hP hS hL)
  | iadd =>
    have hlen := zbe hI
    subst hlen
    obtain ⟨x, y, r, rfl, h⟩ := zI2_el h
    exact lv_iadd hx hb hdg (go h hP hS hL)
  | isub =>
    have hlen := zbe hI
    subst hlen
    obtain ⟨x, y, r, rfl, h⟩ := zI2_el h
    exact lv_isub hx hb hdg (go h hP hS hL)
  | imul =>
    have hlen := zbe hI
    subst hlen
    obtain ⟨x, y, r, rfl, h⟩ := zI2_el h
    exact lv_imul hx hb hdg (go h hP hS hL)
  | iand =>
    have hlen := zbe hI
    subst hlen
    obtain ⟨x, y, r, rfl, h⟩ := zI2_el h
    exact lv_iand hx hb hdg (go h hP hS hL)
  | ior =>
    have hlen := zbe hI
    subst hlen
    obtain ⟨x, y, r, rfl, h⟩ := zI2_el h
    exact lv_ior hx hb hdg (go h hP hS hL)
  | ixor =>
    have hlen := zbe hI
    subst hlen
    obtain ⟨x, y, r, rfl, h⟩ := zI2_el h
    exact lv_ixor hx hb hdg (go h hP hS hL)
  | ishl =>
    have hlen := zbe hI
    subst hlen
    obtain ⟨x, y, r, rfl, h⟩ := zI2_el h
    exact lv_ishl hx hb hdg (go h hP hS hL)
  | ishr =>
    have hlen := zbe hI
    subst hlen
    obtain ⟨x, y, r, rfl, h⟩ := zI2_el h
    exact lv_ishr hx hb hdg (go h hP hS hL)
  | iushr =>
    have hlen := zbe hI
    subst hlen
    obtain ⟨x, y, r, rfl, h⟩ := zI2_el h
    exact lv_iushr hx hb hdg rfl (go h hP hS hL)
  | idiv =>
    have hlen := zbe hI
    subst hlen
    obtain ⟨x, y, r, rfl, hn, h⟩ := zI2_el h
    exact lv_idiv hx hb hdg hn (go h hP hS hL)
  | irem =>
    have hlen := zbe hI
    subst hlen
    obtain ⟨x, y, r, rfl, hn, h⟩ := zI2_el h
    exact lv_irem hx hb hdg hn (go h hP hS hL)
  | ineg =>
    have hlen := zbe hI
    subst hlen
    obtain ⟨x, r, rfl, h⟩ := zI1_el h
    exact lv_ineg hx hb hdg (go h hP hS hL)
  | i2l =>
    have hlen := zbe hI
    subst hlen
    obtain ⟨x, r, rfl, h⟩ := zI1_el h
    exact lv_i2l hx hb hdg rfl (go h hP hS hL)
  | i2b =>
    have hlen := zbe hI
    subst hlen
    obtain ⟨x, r, rfl, h⟩ := zI1_el h
    exact lv_i2b hx hb hdg rfl (go h hP hS hL)
  | i2c =>
    have hlen := zbe hI
    subst hlen
    obtain ⟨x, r, rfl, h⟩ := zI1_el h
    exact lv_i2c hx hb hdg rfl (go h hP hS hL)
  | l2i =>
    have hlen := zbe hI
    subst hlen
    obtain ⟨x, r, rfl, h⟩ := zL1_el h
    exact lv_l2i hx hb hdg rfl (go h hP hS hL)
  | ladd =>
    have hlen := zbe hI
    subst hlen
    obtain ⟨x, y, r, rfl, h⟩ := zL2_el h
    exact lv_ladd hx hb hdg (go h hP hS hL)
  | lmul =>
    have hlen := zbe hI
    subst hlen
    obtain ⟨x, y, r, rfl, h⟩ := zL2_el h
    exact lv_lmul hx hb hdg (go h hP hS hL)
  | ldiv =>
    have hlen := zbe hI
    subst hlen
    obtain ⟨x, y, r, rfl, hn, h⟩ := zL2_el h
    exact lv_ldiv hx hb hdg hn (go h hP hS hL)
  | lcmp =>
    have hlen := zbe hI
    subst hlen
    obtain ⟨x, y, r, rfl, h⟩ := zL2_el h
    exact W.lcmp hx hb hdg (go h hP hS hL)
  | iinc n k =>
    obtain ⟨h1, h2⟩ := zspl hI
    have hlen := zbe h1
    subst hlen
    have hv := zde h2
    obtain ⟨x, h3, h⟩ := zgI_el h
    obtain ⟨lv2, h4, h⟩ := zsv_el h
    have hn : n < M.1.2.2.1 := by
      rw [← hL.2]
      exact (List.getElem?_eq_some_iff.mp h3).1
    obtain ⟨i0, hi0⟩ := List.getElem?_of_mem ((zll_mem (gq G) lv 0 (n, Value.int x)).mpr ⟨n, .inl x, by simp, h3, rfl⟩)
    exact lv_iinc hx hb hdg hL.1 hi0 (by rw [hv]) hn rfl (fun ls2 hl2 => go h hP hS (zput_has hL h4 hl2).1)
  | goto o =>
    obtain ⟨h1, h2⟩ := zspl hI
    have hlen := zbe h1
    subst hlen
    exact lv_goto hx hb hdg (zde h2) (go h hP hS hL)
  | ifCond cd o =>
    obtain ⟨h1, h2⟩ := zspl hI
    have hlen := zbe h1
    subst hlen
    obtain ⟨x, r, rfl, h⟩ := zI1_el h
    cases cd with
    | eq => exact lv_if_eq hx hb hdg (zde h2) (fun q => go (zif_t h q) hP hS hL) (fun q => go (zif_f h q) hP hS hL)
    | ne => exact lv_if_ne hx hb hdg (zde h2) (fun q => go (zif_f h q) hP hS hL) (fun q => go (zif_t h q) hP hS hL)
    | lt => exact lv_if_lt hx hb hdg (zde h2) (fun q => go (zif_t h q) hP hS hL) (fun q => go (zif_f h q) hP hS hL)
    | ge => exact lv_if_ge hx hb hdg (zde h2) (fun q => go (zif_t h q) hP hS hL) (fun q => go (zif_f h q) hP hS hL)
    | gt => exact lv_if_gt hx hb hdg (zde h2) (fun q => go (zif_t h q) hP hS hL) (fun q => go (zif_f h q) hP hS hL)
    | le => exact lv_if_le hx hb hdg (zde h2) (fun q => go (zif_t h q) hP hS hL) (fun q => go (zif_f h q) hP hS hL)
  | if_icmp cd o =>
    obtain ⟨h1, h2⟩ := zspl hI
    have hlen := zbe h1
    subst hlen
    obtain ⟨x, y, r, rfl, h⟩ := zI2_el h
    cases cd with
    | eq => exact lv_icmp_eq hx hb hdg (zde h2) (fun q => go (zif_t h q) hP hS hL) (fun q => go (zif_f h q) hP hS hL)
    | ne => exact lv_icmp_ne hx hb hdg (zde h2) (fun q => go (zif_f h q) hP hS hL) (fun q => go (zif_t h q) hP hS hL)
    | lt => exact lv_icmp_lt hx hb hdg (zde h2) (fun q => go (zif_t h q) hP hS hL) (fun q => go (zif_f h q) hP hS hL)
    | ge => exact lv_icmp_ge hx hb hdg (zde h2) (fun q => go (zif_t h q) hP hS hL) (fun q => go (zif_f h q) hP hS hL)
    | gt => exact lv_icmp_gt hx hb hdg (zde h2) (fun q => go (zif_t h q) hP hS hL) (fun q => go (zif_f h q) hP hS hL)
    | le => exact lv_icmp_le hx hb hdg (zde h2) (fun q => go (zif_t h q) hP hS hL) (fun q => go (zif_f h q) hP hS hL)
  | tableswitch df lo hi offs =>
    obtain ⟨h1, h3⟩ := zspl hI
    obtain ⟨h1, h2⟩ := zspl h1
    have e1 := zde h1
    have e3 := zde h3
    obtain ⟨x, r, rfl, h⟩ := zI1_el h
    rcases zsw_tab offs.toList lo sw h2 h with ⟨i, o, t, q1, q2, q3, q4⟩ | ⟨q1, q2⟩
    · have hi : i < offs.size := by
        have := (List.getElem?_eq_some_iff.mp q1).1
        simpa using this
      refine lv_tableIn (off := o) hx hb hdg (by omega) (by omega) ?_ q3 (go q4 hP hS hL)
      rw [show (x.toInt - lo).toNat = i by omega, ← Array.getElem?_toList]
      exact q1
    · have e4 : (offs.toList.length : Int) = offs.size := by simp
      exact lv_tableOut hx hb hdg (by omega) e1 (go q2 hP hS hL)
  | lookupswitch df ps =>
    obtain ⟨h1, h3⟩ := zspl hI
    obtain ⟨h1, h2⟩ := zspl h1
    have e1 := zde h1
    obtain ⟨x, r, rfl, h⟩ := zI1_el h
    obtain ⟨t, q1, q2⟩ := zsw_lk e1 ps.toList sw h2 h
    exact lv_lookup hx hb hdg h3 rfl q1 (go q2 hP hS hL)
  | dup =>
    have hlen := zbe hI
    subst hlen
    obtain ⟨v, r, rfl, hv, h⟩ := zA1_el h
    exact lv_dup hx hb hdg (by rw [cat_of, hv]; rfl) (go h hP hS hL)
  | dup2 =>
    have hlen := zbe hI
    subst hlen
    obtain ⟨v1, r1, rfl, hv1, h⟩ := zA1_el h
    obtain ⟨v2, r, rfl, hv2, h⟩ := zA1_el h
    exact lv_dup2_11 hx hb hdg (by rw [cat_of, hv1]; rfl) (by rw [cat_of, hv2]; rfl) (go h hP hS hL)
  | pop =>
    have hlen := zbe hI
    subst hlen
    obtain ⟨v, r, rfl, hv, h⟩ := zA1_el h
    exact lv_pop hx hb hdg (by rw [cat_of, hv]; rfl) (go h hP hS hL)
  | getfield i =>
    obtain ⟨h1, h2⟩ := zspl hI
    have hlen := zbe h1
    subst hlen
    obtain ⟨k, r, rfl, hq⟩ := zR1_el h
    clear h
    have h := hq
    clear hq
    split at h
    · rename_i ci ts hk
      cases hc : Nat.beq ci a with
      | false => rw [hc] at h; exact h.elim
      | true =>
        rw [hc] at h
        simp only [cond_true] at h
        have hca := zbe hc
        subst hca
        split at h
        · rename_i t ht
          obtain ⟨q, hq, hlq, hkq⟩ := lay_ok hk
          rw [hq] at h2
          simp only at h2
          obtain ⟨g1, g2⟩ := zspl h2
          obtain ⟨hu, -⟩ := cl_ok _ _ hq
          have hg := wd_get G σ hk
          have hv : (objE (gq G) (σ k) 0 ts)[b]? = some (toV (gq G) (slotA (σ k b) t)) := by
            rw [objE_get, ht, slot_eq]; simp
          exact va_get (ref := (q.2.1 b).1) (C := q.1) (T := q.2.1) (N := q.2.2) hx hb hts hu hown hE.1 hP k hg hq b (Nat.blt_eq.mp g1) (hts _ (inT_in g2)) (fun x hx => hx) hv hdg (go h hP hS hL)
        · exact h.elim
    · exact h.elim
    · rename_i hk
      cases hc : Nat.ble 1000 k && Nat.blt k 1004 with
      | false => rw [hc] at h; exact h.elim
      | true =>
        rw [hc] at h
        simp only [cond_true] at h
        obtain ⟨c1, c2⟩ := zspl hc
        have l1 : 1000 ≤ k := Nat.le_of_ble_eq_true c1
        have l2 : k < 1004 := Nat.blt_eq.mp c2
        obtain ⟨i4, hi4, rfl⟩ : ∃ j, j < 4 ∧ k = 1000 + j := ⟨k - 1000, by omega, by omega⟩
        obtain ⟨hO, hco, hva, hby⟩ := hE.2.2.2.2.1.1 i4 hi4
        split at h2
        · rename_i q hq
          have ha : a < 13 := (List.getElem?_eq_some_iff.mp hq).1
          rw [show Nat.beq a 100 = false from by rw [Bool.eq_false_iff]; exact fun z => by have := zbe z; omega, show Nat.beq a 101 = false from by rw [Bool.eq_false_iff]; exact fun z => by have := zbe z; omega] at h
          exact h.elim
        · obtain ⟨g1, g2⟩ := zspl h2
          cases z1 : Nat.beq a 100 with
          | true =>
            rw [z1] at h g2
            simp only [cond_true] at h g2
            rw [show 1000 + i4 + 100 = 1100 + i4 by omega] at h
            exact vk_getf hx hb hva hS hown (hts _ (inT_in g2)) (fun x hx => hx) hdg (go h hP hS hL)
          | false =>
            rw [z1] at h g2
            simp only [cond_false] at h g2
            cases z2 : Nat.beq a 101 with
            | true =>
              rw [z2] at h g2
              exact vk_getf hx hb hco hS hown (hts _ (inT_in g2)) (fun x hx => hx) hdg (go h hP hS hL)
            | false => rw [z2] at h; exact h.elim
  | putfield i =>
    obtain ⟨h1, h2⟩ := zspl hI
    have hlen := zbe h1
    subst hlen
    obtain ⟨w, k, r, rfl, hq⟩ := zVR_el h
    clear h
    have h := hq
    clear hq
    split at h
    · rename_i ci ts hk
      cases hc : Nat.beq ci a with
      | false => rw [hc] at h; exact h.elim
      | true =>
        rw [hc] at h
        simp only [cond_true] at h
        have hca := zbe hc
        subst hca
        split at h
        · rename_i t ht
          obtain ⟨q, hq, hlq, hkq⟩ := lay_ok hk
          rw [hq] at h2
          simp only at h2
          obtain ⟨g1, g3⟩ := zspl h2
          obtain ⟨g1, g2⟩ := zspl g1
          obtain ⟨hu, ty0, hty, hnm⟩ := cl_ok _ _ hq
          have hg := wd_get G σ hk
          have hbl : b < ts.length := (List.getElem?_eq_some_iff.mp ht).1
          have hko := hkq b t ht
          have hfin : (q.2.1 b).2.2.2 = false := by simpa using g3
          have put : ∀ (x : Int32) (ty : FieldType), toV (gq G) w = slotV (gq G) x t → parseFieldDescriptor (q.2.1 b).2.2.1 = some ty → narrow ty (toV (gq G) w) = toV (gq G) w → fits ty (toV (gq G) w) = true → K (pc + 3) lv r (zwr σ k b x) → W p (gl G) e R s m args below meth c H locs cells slots Q (F0 m pc ls (toV (gq G) w :: .ref (gq G k) :: r.map (toV (gq G)))) := by
            intro x ty e1 e2 e3 e4 hk2
            refine va_put (ref := (q.2.1 b).1) (C := q.1) (T := q.2.1) (N := q.2.2) hx hb hts hu ty0 hty hnm hown hE.1 hP (wd_D hQ σ) hS k hg hq b (Nat.blt_eq.mp g1) (hts _ (inT_in g2)) (fun x hx => hx) hfin e2 e3 e4 (by rw [objE_len]; exact hbl) hdg (fun H1 locs1 hP1 hD1 hS1 => ?_)
            have es : (wd G σ).set k (gq G k, .inr (ci, (objE (gq G) (σ k) 0 ts).set b (toV (gq G) w))) = wd G (zwr σ k b x) := by
              refine wd_set hk ?_ (fun a ha => by funext j; exact zwr_cell σ k b x j ha)
              simp only [cellE]
              congr 2
              apply List.ext_getElem?
              intro j
              rw [List.getElem?_set, objE_get, objE_get, objE_len]
              by_cases hj : b = j
              · subst hj
                rw [if_pos rfl, if_pos hbl, ht, e1]
                simp [zwr]
              · rw [if_neg hj]
                cases hz : ts[j]? with
                | none => rfl
                | some t2 =>
                  simp only [Option.map_some, Nat.zero_add]
                  rw [zwr_slot σ k b x k (fun z => hj z.symm)]
            rw [es] at hP1
            exact go hk2 hP1 hS1 hL
          match t, w, h, hko, put with
          | 0, .inl x, h, hko, put => exact put x .int rfl (zde hko) rfl rfl (h _ rfl)
          | 1, .inl x, h, hko, put =>
            by_cases hx1 : x = 0 ∨ x = 1
            · have h' : ∀ σ', σ' = zwr σ k b x → K (pc + 3) lv r σ' := by
                have this : (if x = 0 ∨ x = 1 then (∀ σ', σ' = zwr σ k b x → K (pc + 3) lv r σ') else False) := h
                rwa [if_pos hx1] at this
              exact put x .boolean rfl (zde hko) (by rcases hx1 with rfl | rfl <;> rfl) (by rcases hx1 with rfl | rfl <;> rfl) (h' _ rfl)
            · have this : (if x = 0 ∨ x = 1 then (∀ σ', σ' = zwr σ k b x → K (pc + 3) lv r σ') else False) := h
              rw [if_neg hx1] at this
              exact this.elim
          | 2, .inr (.inr j), h, hko, put =>
            have h : (bif Nat.blt j 2147483648 then (∀ σ', σ' = zwr σ k b (Int32.ofNat j) → K (pc + 3) lv r σ') else False) := h
            cases hj : Nat.blt j 2147483648 with
            | false => rw [hj] at h; exact h.elim
            | true =>
              rw [hj] at h
              have hj2 : j < 2147483648 := Nat.blt_eq.mp hj
              have ej : (Int32.ofNat j).toNatClampNeg = j := clamp_of rfl hj2
              have hko : (match parseFieldDescriptor (q.2.1 b).2.2.1 with | some (.object _) => true | _ => false) = true := hko
              split at hko
              · rename_i n hn
                exact put (Int32.ofNat j) (.object n) (by simp [toV, slotV, ej]) hn rfl rfl (h _ rfl)
              · cases hko
          | 0, .inr x, h, _, _ => exact h.elim
          | 1, .inr x, h, _, _ => exact h.elim
          | 2, .inl x, h, _, _ => exact h.elim
          | 2, .inr (.inl x), h, _, _ => exact h.elim
          | t + 3, .inl x, h, _, _ => exact h.elim
          | t + 3, .inr (.inl x), h, _, _ => exact h.elim
          | t + 3, .inr (.inr x), h, _, _ => exact h.elim
        · exact h.elim
    · exact h.elim
  | iaload =>
    have hlen := zbe hI
    subst hlen
    obtain ⟨i, k, r, rfl, hq⟩ := zIR_el h
    clear h
    have h := hq
    clear hq
    split at h
    · rename_i n hk
      obtain ⟨hin, h⟩ := h
      exact va_iald hx hb hE.1 hP k 0 (wd_get G σ hk) rfl hin hdg (go h hP hS hL)
    · exact h.elim
    · rename_i hk
      cases hc : Nat.beq k 2000 with
      | false => rw [hc] at h; exact h.elim
      | true =>
        rw [hc] at h
        obtain ⟨hin, h⟩ := h
        have e1 := zbe hc
        subst e1
        exact va_sld hx hb hE.2.1 hE.2.2.1 hE.2.2.2.1 hS hin hdg (go h hP hS hL)
  | baload =>
    have hlen := zbe hI
    subst hlen
    obtain ⟨i, k, r, rfl, hq⟩ := zIR_el h
    clear h
    have h := hq
    clear hq
    split at h
    · rename_i n hk
      obtain ⟨hin, h⟩ := h
      exact va_bald hx hb hE.1 hP k 1 (wd_get G σ hk) rfl hin hdg (go h hP hS hL)
    · exact h.elim
    · rename_i hk
      cases hc : Nat.ble 1100 k && Nat.blt k 1104 with
      | false => rw [hc] at h; exact h.elim
      | true =>
        rw [hc] at h
        obtain ⟨hin, h⟩ := h
        obtain ⟨c1, c2⟩ := zspl hc
        have l1 : 1100 ≤ k := Nat.le_of_ble_eq_true c1
        have l2 : k < 1104 := Nat.blt_eq.mp c2
        obtain ⟨i4, hi4, rfl⟩ : ∃ j, j < 4 ∧ k = 1100 + j := ⟨k - 1100, by omega, by omega⟩
        obtain ⟨hO, hco, hva, hby⟩ := hE.2.2.2.2.1.1 i4 hi4
        rw [show 1100 + i4 - 1100 = i4 by omega] at hin h
        exact va_tb hx hb hby hS hin rfl hdg (go h hP hS hL)
  | iastore =>
    have hlen := zbe hI
    subst hlen
    obtain ⟨x, i, k, r, rfl, hq⟩ := zIIR_el h
    clear h
    have h := hq
    clear hq
    split at h
    · rename_i n hk
      obtain ⟨hin, h⟩ := h
      refine va_iast hx hb hE.1 hP (wd_D hQ σ) hS k 0 (wd_get G σ hk) rfl hin hdg (fun H1 locs1 hP1 hD1 hS1 => ?_)
      have es : (wd G σ).set k (gq G k, .inl (bif false then gB G else gI G, n, .inl (upd (σ k) i.toNatClampNeg (x)))) = wd G (zwr σ k i.toNatClampNeg (x)) := by
        refine wd_set hk ?_ (fun a ha => by funext j; exact zwr_cell σ k _ _ j ha)
        simp only [cellE]
        rw [zwr_row]
      exact go (h _ rfl) (es ▸ hP1) hS1 hL
    · exact h.elim
  | bastore =>
    have hlen := zbe hI
    subst hlen
    obtain ⟨x, i, k, r, rfl, hq⟩ := zIIR_el h
    clear h
    have h := hq
    clear hq
    split at h
    · rename_i n hk
      obtain ⟨hin, h⟩ := h
      refine va_bast hx hb hE.1 hP (wd_D hQ σ) hS k 1 (wd_get G σ hk) rfl hin hdg (fun H1 locs1 hP1 hD1 hS1 => ?_)
      have es : (wd G σ).set k (gq G k, .inl (bif true then gB G else gI G, n, .inl (upd (σ k) i.toNatClampNeg (x.toInt8.toInt32)))) = wd G (zwr σ k i.toNatClampNeg (x.toInt8.toInt32)) := by
        refine wd_set hk ?_ (fun a ha => by funext j; exact zwr_cell σ k _ _ j ha)
        simp only [cellE]
        rw [zwr_row]
      exact go (h _ rfl) (es ▸ hP1) hS1 hL
    · exact h.elim
  | arraylength =>
    have hlen := zbe hI
    subst hlen
    obtain ⟨k, r, rfl, hq⟩ := zR1_el h
    clear h
    have h := hq
    clear hq
    split at h
    · rename_i bb n hk
      cases bb with
      | false => exact va_alen hx hb hE.1 hP k 0 (wd_get G σ hk) rfl rfl hdg (go h hP hS hL)
      | true => exact va_alen hx hb hE.1 hP k 1 (wd_get G σ hk) rfl rfl hdg (go h hP hS hL)
    · exact h.elim
    · rename_i hk
      cases hc : Nat.beq k 2000 with
      | true =>
        rw [hc] at h
        have e1 := zbe hc
        subst e1
        exact va_slen hx hb hE.2.1 hE.2.2.1 hE.2.2.2.1 hS hdg (go h hP hS hL)
      | false =>
        rw [hc] at h
        simp only [cond_false] at h
        cases hc2 : Nat.ble 1100 k && Nat.blt k 1104 with
        | false => rw [hc2] at h; exact h.elim
        | true =>
          rw [hc2] at h
          obtain ⟨c1, c2⟩ := zspl hc2
          have l1 : 1100 ≤ k := Nat.le_of_ble_eq_true c1
          have l2 : k < 1104 := Nat.blt_eq.mp c2
          obtain ⟨i4, hi4, rfl⟩ : ∃ j, j < 4 ∧ k = 1100 + j := ⟨k - 1100, by omega, by omega⟩
          obtain ⟨hO, hco, hva, hby⟩ := hE.2.2.2.2.1.1 i4 hi4
          simp only [cond_true] at h
          rw [show 1100 + i4 - 1100 = i4 by omega] at h
          exact va_tlen hx hb hby hS rfl hdg (go h hP hS hL)
  | getstatic i =>
    obtain ⟨h1, h2⟩ := zspl hI
    have hlen := zbe h1
    subst hlen
    unfold zdo at h
    dsimp only at h
    split at h
    · rename_i r hr
      rw [hr] at h2
      exact va_gets hx hb (hE.2.2.2.2.2.1 r (List.mem_of_getElem? hr)) hS hown (hts _ (inT_in h2)) (fun x hx => hx) hdg (go h hP hS hL)
    · exact h.elim
  | invokevirtual i =>
    obtain ⟨h1, h2⟩ := zspl hI
    obtain ⟨h1, h3⟩ := zspl h1
    obtain ⟨h1, h4⟩ := zspl h1
    have hlen := zbe h1
    subst hlen
    obtain ⟨y1, y6⟩ := zspl h3
    obtain ⟨y1, y5⟩ := zspl y1
    obtain ⟨y1, y4b⟩ := zspl y1
    obtain ⟨y1, y4⟩ := zspl y1
    obtain ⟨y1, y3⟩ := zspl y1
    obtain ⟨y1, y2⟩ := zspl y1
    obtain ⟨y0, y1⟩ := zspl y1
    have hmx : Y.2.2.1 ≤ 20 := Nat.le_of_ble_eq_true y6
    have hwy : GoodIn AW (.code Y.1 Y.2.1 Y.2.2.1 Y.2.2.2.1 :: AW) := by
      intro w hw
      rcases List.mem_cons.mp hw with rfl | hw
      · exact ⟨inT_in y0, good_of_word (List.mem_filter.mp (inT_in y0)).2⟩
      · exact ⟨hw, good_of_word (List.mem_filter.mp hw).2⟩
    unfold zdo at h
    dsimp only at h
    split at h
    · rename_i as k rest hcut
      cases hc : zrcv k b && Nat.ble (zcats rest) 8 with
      | false => rw [hc] at h; exact h.elim
      | true =>
        rw [hc] at h
        simp only [cond_true] at h
        obtain ⟨c1, c2⟩ := zspl hc
        obtain ⟨d', rfl, Ψ, hC, hf⟩ := zcall_el h
        obtain ⟨bs, e1, e2, e3⟩ := zcut_el _ _ _ _ _ _ hcut
        simp only [List.append_nil] at e1
        subst e1
        subst e2
        have hrc : ∃ cell : Cell, H[gq G k]? = some cell ∧ cell.vm.isStatics = false ∧ s.vm.findClass Y.1.cls = some cell.cls := by
          unfold zrcv at c1
          split at c1
          · rename_i ci ts hk
            have e4 := zbe c1
            subst e4
            obtain ⟨q, hq, -, -⟩ := lay_ok hk
            rw [hq] at h2
            rw [← zde h2]
            exact va_recv hE.1 hP hq (wd_get G σ hk)
          · cases c1
          · obtain ⟨c3, c4⟩ := zspl c1
            obtain ⟨c3, c5⟩ := zspl c3
            have e4 := zbe c3
            subst e4
            have l1 : 1000 ≤ k := Nat.le_of_ble_eq_true c5
            have l2 : k < 1004 := Nat.blt_eq.mp c4
            obtain ⟨i4, hi4, rfl⟩ : ∃ j, j < 4 ∧ k = 1000 + j := ⟨k - 1000, by omega, by omega⟩
            have h2' : decide (Y.1.cls = "java/lang/String") = true := h2
            rw [zde h2']
            exact vk_recv (i := i4) hE.2.2.2.2.1 hi4 hS
        have hst : (as.reverse ++ .inr (.inr k) :: rest).map (toV (gq G)) = (as.map (toV (gq G))).reverse ++ .ref (gq G k) :: rest.map (toV (gq G)) := by
          simp [toV]
        rw [hst]
        have hvw : GoodIn AW (wsV M.1.1.cls i Y.1.cls Y.1 (.code Y.1 Y.2.1 Y.2.2.1 Y.2.2.2.1 :: AW)) := by
          intro w hw
          unfold wsV at hw
          rcases List.mem_append.mp hw with hw | hw
          · have : w ∈ AW := by
              simp only [List.mem_cons, List.not_mem_nil, or_false] at hw
              rcases hw with rfl | rfl | rfl | rfl
              · exact inT_in h4
              · exact inT_in y2
              · exact inT_in (by simpa using y3)
              · exact inT_in y1
            exact ⟨this, good_of_word (List.mem_filter.mp this).2⟩
          · exact hwy w hw
        have hcw := cwV (R := R) (args := args) (s := s) (mc := 0) (ms := 0) (rm := rmD d') (bytes := Y.2.1) (maxL := Y.2.2.1) (ret := Y.2.2.2.1) Y.2.2.2.2.1 hts hvw rfl rfl rfl ⟨rfl, zde y4, zde y4b, zde y5⟩ ⟨by show d' + 1 ≤ _; omega, by show 8 + (Y.2.2.1 + 11) + 40 * d' ≤ _; omega⟩
        have hrun := va_runV (p := p) (l := gl G) (e := e) (below := below) (meth := meth) (g := F0 m pc ls ((as.map (toV (gq G))).reverse ++ .ref (gq G k) :: rest.map (toV (gq G)))) (rest := rest.map (toV (gq G))) (As := as.map (toV (gq G))) (nL := M.1.2.2.1) (cells := cells) (slots := slots) (locs := locs) (H := H) ⟨hx, hb, hml, hown, hts⟩ (hC hQ) hcw
          ⟨zblind, hrc, fun U hU hW => ⟨rfl, by rw [hU]; exact hP, hE.warm hW hU hS⟩⟩ rfl (by rw [List.length_map]; exact e3) hL.1.1 rfl (lv_room (by rw [zcats_eq]; exact Nat.le_of_ble_eq_true c2)) hdg ⟨hr3, hr4⟩
        refine zback hrun hS (fun r σ' H1 locs1 hΨ hP1 hS1 => ?_)
        obtain ⟨w, hw, hf⟩ := hf r σ' hΨ
        have g := go hf hP1 hS1 hL
        rw [List.map_append, ← hw] at g
        exact g
    · exact h.elim
  | invokestatic i =>
    obtain ⟨h1, h34⟩ := zspl hI
    have hlen := zbe h1
    subst hlen
    unfold zdo at h
    dsimp only at h
    cases hb2 : Nat.beq b 2 with
    | true =>
      rw [hb2] at h h34
      simp only [cond_true] at h h34
      obtain ⟨m1, m4⟩ := zspl h34
      obtain ⟨m1, m3⟩ := zspl m1
      obtain ⟨m1, m2⟩ := zspl m1
      match d, h, hr1, hr2 with
      | 0, h, _, _ => exact h.elim
      | d' + 1, h, hr1, hr2 =>
        obtain ⟨x, y, r, rfl, hq⟩ := zI2_el h
        clear h
        cases hc : Nat.ble (zcats r) 8 with
        | false => rw [hc] at hq; exact hq.elim
        | true =>
          rw [hc] at hq
          simp only [cond_true] at hq
          have hc8 : zcats r ≤ 8 := Nat.le_of_ble_eq_true hc
          exact va_mmin hx hb (by rw [hml, hL.1.1]) hown (hts _ (inT_in m1)) (hts _ (inT_in m2)) (hts _ (inT_in m3)) (hts _ (inT_in m4)) (by omega) (by rw [zcats_eq]; omega) hr3 hr4 hdg (go hq hP hS hL)
    | false =>
    rw [hb2] at h h34
    simp only [cond_false] at h h34
    obtain ⟨h3, h4⟩ := zspl h34
    obtain ⟨y1, y6⟩ := zspl h3
    obtain ⟨y1, y5⟩ := zspl y1
    obtain ⟨y1, y4b⟩ := zspl y1
    obtain ⟨y1, y4⟩ := zspl y1
    obtain ⟨y1, y3⟩ := zspl y1
    obtain ⟨y1, y2⟩ := zspl y1
    obtain ⟨y0, y1⟩ := zspl y1
    have hmx : Y.2.2.1 ≤ 20 := Nat.le_of_ble_eq_true y6
    have hwy : GoodIn AW (.code Y.1 Y.2.1 Y.2.2.1 Y.2.2.2.1 :: AW) := by
      intro w hw
      rcases List.mem_cons.mp hw with rfl | hw
      · exact ⟨inT_in y0, good_of_word (List.mem_filter.mp (inT_in y0)).2⟩
      · exact ⟨hw, good_of_word (List.mem_filter.mp hw).2⟩
    split at h
    · rename_i as rest hcut
      cases hc : Nat.ble (zcats rest) 8 with
      | false => rw [hc] at h; exact h.elim
      | true =>
        rw [hc] at h
        simp only [cond_true] at h
        obtain ⟨d', rfl, Ψ, hC, hf⟩ := zcall_el h
        obtain ⟨bs, e1, e2, e3⟩ := zcut_el _ _ _ _ _ _ hcut
        simp only [List.append_nil] at e1
        subst e1
        subst e2
        have hst : (as.reverse ++ rest).map (toV (gq G)) = (as.map (toV (gq G))).reverse ++ rest.map (toV (gq G)) := by simp
        rw [hst]
        have hrun : va_Run p (gl G) e R s m args below meth c H locs cells slots 0 0 (F0 m pc ls ((as.map (toV (gq G))).reverse ++ rest.map (toV (gq G)))) (rest.map (toV (gq G))) (Qm G Y.2.2.2.1 Ψ (as.map (toV (gq G))).toArray) (AA G) := by
          cases hz : Nat.beq b 0 with
          | true =>
            rw [hz] at h4
            simp only [cond_true] at h4
            have hvw : GoodIn AW (va_wsS M.1.1.cls i Y.1 (.code Y.1 Y.2.1 Y.2.2.1 Y.2.2.2.1 :: AW)) := by
              intro w hw
              unfold va_wsS at hw
              rcases List.mem_append.mp hw with hw | hw
              · have : w ∈ AW := by
                  simp only [List.mem_cons, List.not_mem_nil, or_false] at hw
                  rcases hw with rfl | rfl | rfl
                  · exact inT_in h4
                  · exact inT_in y2
                  · exact inT_in y1
                exact ⟨this, good_of_word (List.mem_filter.mp this).2⟩
              · exact hwy w hw
            have hcw := va_cwS (R := R) (args := args) (s := s) (mc := 0) (ms := 0) (rm := rmD d') (bytes := Y.2.1) (maxL := Y.2.2.1) (ret := Y.2.2.2.1) Y.2.2.2.2.1 hts hvw rfl rfl rfl ⟨zde y4, zde y4b, zde y5⟩ ⟨by show d' + 1 ≤ _; omega, by show 8 + (Y.2.2.1 + 11) + 40 * d' ≤ _; omega⟩
            exact va_runS (g := F0 m pc ls ((as.map (toV (gq G))).reverse ++ rest.map (toV (gq G)))) (rest := rest.map (toV (gq G))) (As := as.map (toV (gq G))) (nL := M.1.2.2.1) (cells := cells) (slots := slots) (locs := locs) (H := H) ⟨hx, hb, hml, hown, hts⟩ (hC hQ) hcw
              ⟨zblind, fun U hU hW => ⟨rfl, by rw [hU]; exact hP, hE.warm hW hU hS⟩⟩ rfl (by rw [List.length_map]; exact e3) hL.1.1 rfl (lv_room (by rw [zcats_eq]; exact Nat.le_of_ble_eq_true hc)) hdg ⟨hr3, hr4⟩
          | false =>
            rw [hz] at h4
            simp only [cond_false] at h4
            split at h4
            · rename_i r hr
              obtain ⟨n1, n3⟩ := zspl h4
              obtain ⟨n1, n2⟩ := zspl n1
              have f1 := zde n1
              have f2 := zbe n2
              have f3 := zde n3
              have hN := hE.2.2.2.2.2.2.2.1 r (List.mem_of_getElem? hr)
              rw [f1, f2, f3] at hN
              have hcw := va_cnB (R := R) (args := args) (s := s) (mc := 0) (ms := 0) (rm := rmD d') (bytes := Y.2.1) (maxL := Y.2.2.1) (ret := Y.2.2.2.1) Y.2.2.2.2.1 hts hwy rfl rfl rfl hN (hts _ (inT_in y1)) ⟨zde y4, zde y4b, zde y5⟩ ⟨by show d' + 1 ≤ _; omega, by show 8 + (Y.2.2.1 + 11) + 40 * d' ≤ _; omega⟩
              exact va_runSN (g := F0 m pc ls ((as.map (toV (gq G))).reverse ++ rest.map (toV (gq G)))) (rest := rest.map (toV (gq G))) (As := as.map (toV (gq G))) (nL := M.1.2.2.1) (cells := cells) (slots := slots) (locs := locs) (H := H) ⟨hx, hb, hml, hown, hts⟩ (hC hQ) ⟨hcw, hts _ (inT_in y2), trivial⟩
                ⟨zblind, fun U hU hW => ⟨rfl, by rw [hU]; exact hP, hE.warm hW hU hS⟩⟩ rfl (by rw [List.length_map]; exact e3) hL.1.1 rfl (lv_room (by rw [zcats_eq]; exact Nat.le_of_ble_eq_true hc)) hdg ⟨hr3, hr4⟩
            · cases h4
        refine zback hrun hS (fun r σ' H1 locs1 hΨ hP1 hS1 => ?_)
        obtain ⟨w, hw, hf⟩ := hf r σ' hΨ
        have g := go hf hP1 hS1 hL
        rw [List.map_append, ← hw] at g
        exact g
    · exact h.elim
  | ireturn =>
    have hlen := zbe hI
    subst hlen
    obtain ⟨x, r, rfl, hq⟩ := zI1_el h
    clear h
    have h := hq
    clear hq
    match r, h with
    | [], h =>
      obtain ⟨⟨y, cc, mL, ret, n, is⟩, tb⟩ := M
      have fin : ∀ ty : FieldType, ret = some ty → retI (some ty) = .ireturn → retOK (some ty) (.inl x) → Φ (.inl x) σ → W p (gl G) e R s m args below meth c H locs cells slots Q (F0 m pc ls [toV (gq G) (.inl x)]) := by
        intro ty e1 e2 e3 hΦ
        subst e1
        exact hret (.inl x) σ pc ls H locs hΦ e3 (by rw [e2]; exact hdg) hP hS
      match ret, h, fin with
      | some .int, h, fin => exact fin .int rfl rfl ⟨x, rfl⟩ h
      | some .boolean, h, fin =>
        by_cases hx1 : x = 0 ∨ x = 1
        · have h' : Φ (.inl x) σ := by
            have this : (if x = 0 ∨ x = 1 then Φ (.inl x) σ else False) := h
            rwa [if_pos hx1] at this
          exact fin .boolean rfl rfl ⟨x, rfl, hx1⟩ h'
        · have this : (if x = 0 ∨ x = 1 then Φ (.inl x) σ else False) := h
          rw [if_neg hx1] at this
          exact this.elim
      | some .char, h, fin => exact fin .char rfl rfl ⟨x, rfl, h.1⟩ h.2
      | some .byte, h, fin => exact fin .byte rfl rfl ⟨x, rfl, h.1⟩ h.2
      | none, h, _ => exact h.elim
      | some .short, h, _ => exact h.elim
      | some .long, h, _ => exact h.elim
      | some .float, h, _ => exact h.elim
      | some .double, h, _ => exact h.elim
      | some (.object _), h, _ => exact h.elim
      | some (.array _), h, _ => exact h.elim
    | _ :: _, h => exact h.elim
  | areturn =>
    have hlen := zbe hI
    subst hlen
    obtain ⟨k, r, rfl, hq⟩ := zR1_el h
    clear h
    have h := hq
    clear hq
    obtain ⟨⟨y, cc, mL, ret, n, is⟩, tb⟩ := M
    split at h
    · rename_i nm hr1
      have hr2 : ret = some (.object nm) := hr1
      subst hr2
      exact hret (.inr (.inr k)) σ pc ls H locs h ⟨k, rfl⟩ hdg hP hS
    · exact h.elim
  | return_ =>
    have hlen := zbe hI
    subst hlen
    obtain ⟨⟨y, cc, mL, ret, n, is⟩, tb⟩ := M
    cases ret with
    | some ty => exact False.elim h
    | none =>
      cases st with
      | nil => exact hret (.inl 0) σ pc ls H locs h trivial hdg hP hS
      | cons v st => exact False.elim h
  | _ => exact False.elim h
theorem zstep_ok {G : zGT} {M : zMD} {d : Nat} {Φ : zAV → zMem → Prop} {pc : Nat} {lv : zlv} {st : List zAV} {σ : zMem} {K : Nat → zlv → List zAV → zMem → Prop} (hM : okT M.1.1.cls M.1.2.1 M.2 = true) (h : zstep G M d Φ pc lv st σ K) (hK : ∀ pc' lv' st' σ', K pc' lv' st' σ' → WJ G M d Φ pc' lv' st' σ') : WJ G M d Φ pc lv st σ := by
  unfold zstep at h
  split at h
  · exact h.elim
  · rename_i t ht
    obtain ⟨h1, h2⟩ := zfnd_in ht
    subst h2
    exact zdo_ok (List.all_eq_true.mp hM t h1) h hK
/-- THE WALK: what ZP asks is enough -/
theorem ZP_ok {G : zGT} {M : zMD} {d : Nat} {Φ : zAV → zMem → Prop} {sp : List (Nat × List Bool)} (hM : okT M.1.1.cls M.1.2.1 M.2 = true) : ∀ (n pc : Nat) (lv : zlv) (st : List zAV) (σ : zMem), ZP G M d Φ sp n pc lv st σ → WJ G M d Φ pc lv st σ
  | 0, pc, lv, st, σ, h => h
  | n + 1, pc, lv, st, σ, h => zstep_ok hM h (fun pc' lv' st' σ' hk => by
      split at hk
      · exact WJ_mask _ hk
      · exact ZP_ok hM n pc' lv' st' σ' hk)
