-- the law's start
def zgq (q1 : Nat) (u1 : Nat → Nat) (q2 : Nat) (u2 : Nat → Nat) (adK adV : Nat → Nat) (b : Nat) : Nat → Nat := fun k =>
  bif Nat.beq k 0 then q1 else bif Nat.blt k 72 then u1 (k - 1) else bif Nat.beq k 72 then q2 else bif Nat.blt k 1000 then u2 (k - 73) else bif Nat.blt k 1100 then adK (k - 1000) else bif Nat.blt k 2000 then adV (k - 1100) else b
def zs0 : zMem := fun a => bif Nat.beq a 0 then upd (upd (fun _ => 0) 14 (-1000000005)) 17 8 else bif Nat.beq a 27 then upd (fun _ => 0) 2 1 else bif Nat.beq a 48 then upd (upd (fun _ => 0) 3 49) 4 1000 else
  bif Nat.beq a 71 then upd (upd (fun _ => 0) 0 (-1000000005)) 1 (-1000000005) else bif Nat.beq a 72 then upd (fun _ => 0) 24 8 else bif Nat.beq a 96 then upd (upd (fun _ => 0) 0 (-1)) 1 (-1) else fun _ => 0
set_option maxRecDepth 100000 in
set_option maxHeartbeats 4000000 in
theorem wd_0 (D : va_G) (cI cB : ClassId) (q1 : Nat) (u1 : Nat → Nat) (q2 : Nat) (u2 : Nat → Nat) (adK adV : Nat → Nat) (b L : Nat) (xs : Nat → Int32) (l : Launch) :
    wd (D, zgq q1 u1 q2 u2 adK adV b, cI, cB, L, xs, l) zs0 = rs_X11_init cI cB (adK 0) q1 u1 ++ rs_X12_init cI cB (adK 0) q2 u2 := rfl
abbrev zFL : List Jvm.Cond := flatC (Jvm.Cond.and given_1 narrow_1)
def ztm : Nat → Term := fun i => match i with
  | 0 => .string "RoomsDesk$Reader" 24
  | 1 => .string "RoomsDesk$Reader" 65
  | 2 => .string "RoomsDesk$Reader" 47
  | _ => .string "RoomsDesk$Reader" 64
theorem zt_ex : ∀ i, i < 4 → Jvm.Cond.exactly (ztm i) "java/lang/String" ∈ zFL := by decide +kernel
theorem zt_co : ∀ i, i < 4 → Jvm.Cond.eq (.field (ztm i) "java/lang/String" "coder" "B") (.int 0) ∈ zFL := by decide +kernel
theorem zt_ar : ∀ i, i < 4 → Jvm.Cond.arrayOf (.field (ztm i) "java/lang/String" "value" "[B") .byte ∈ zFL := by decide +kernel
theorem zt_le : ∀ i, i < 4 → Jvm.Cond.eq (.length (.field (ztm i) "java/lang/String" "value" "[B")) (.int (Int32.ofNat (ztl.getD i 0))) ∈ zFL := by decide +kernel
theorem zt_el : ∀ i, i < 4 → ∀ j, j < ztl.getD i 0 → Jvm.Cond.eq (.elem (.field (ztm i) "java/lang/String" "value" "[B") (.int (Int32.ofNat j))) (.int ((ztx.getD i []).getD j 0)) ∈ zFL := by decide +kernel
theorem zt_ne : ∀ i, i < 4 → ∀ j, j < 4 → i ≠ j → Jvm.Cond.not (Jvm.Cond.eq (ztm i) (ztm j)) ∈ zFL ∨ Jvm.Cond.not (Jvm.Cond.eq (ztm j) (ztm i)) ∈ zFL := by decide +kernel
theorem zeqR {args : Array Value} {s : State} {t u : Term} {a : Nat} (h : (Jvm.Cond.eq t u).before args s = true) (ht : t.eval args s none [] s = some (.ref a)) : u.eval args s none [] s = some (.ref a) := by
  cases hv : u.eval args s none [] s with
  | none => simp [Cond.before, Cond.holds, Cond.value, ht, hv] at h
  | some w =>
    simp only [Cond.before, Cond.holds, Cond.value, ht, hv] at h
    cases w <;> simp_all
/-- what the start gives: the classes, the texts, the statics, the links -/
theorem env_0 {s : State} {b : Nat} (hts : ∀ w ∈ lw_tbl, w.before #[Value.ref b] s = true) (hgv : (Jvm.Cond.and given_1 narrow_1).before #[Value.ref b] s = true) :
    ∃ (D : va_G) (cI cB : ClassId) (adK adV : Nat → Nat), va_K D vwCl [(cI, .int), (cB, .byte)] s ∧ vk_S 4 ztl ztx adK adV (fun q => s.heap.size ≤ q) s s.heap ∧
      (∀ q : Nat → Nat, ∀ r ∈ stF, va_Z r.1 r.2.1 r.2.2.1 (toV q r.2.2.2) (fun q => s.heap.size ≤ q) s s.heap) ∧ (∀ r ∈ zsr, vk_R r.1 r.2.1 r.2.2.1 (adK r.2.2.2) s) ∧
      (∀ r ∈ znw, va_Nw (.methodLinkNest r.1 r.2.1 r.2.2.1 r.2.2.2) s) ∧ va_Zq "jdk/internal/util/Preconditions" "SIOOBE_FORMATTER" "Ljava/util/function/BiFunction;" (fun q => s.heap.size ≤ q) s s.heap := by
  have hs := flat_of_before _ hgv
  have hw : ∀ (i : Nat) (w : Jvm.Cond), lw_tbl[i]? = some w → w.before #[Value.ref b] s = true := fun i w h => hts w (List.mem_of_getElem? h)
  have htA : ∀ w ∈ AW, w.before #[Value.ref b] s = true := fun w h => hts w (List.mem_filter.mp h).1
  have hA : ∀ a : Nat, a < s.heap.size → ¬ (fun q : Nat => s.heap.size ≤ q) a := fun a h => Nat.not_le.mpr h
  obtain ⟨adK, adV, hS, hev⟩ := vk_Sof (N := 4) (tm := ztm) (len := ztl) (byt := ztx) (A := fun q : Nat => s.heap.size ≤ q) (args := #[Value.ref b]) (s := s) (by decide +kernel) (fun i hi => hs _ (zt_ex i hi)) (fun i hi => hs _ (zt_co i hi))
    (fun i hi => hs _ (zt_ar i hi)) (fun i hi => hs _ (zt_le i hi)) (fun i hi j hj => hs _ (zt_el i hi j hj)) (fun i j hi hj h => (zt_ne i hi j hj h).imp (hs _) (hs _)) hA
  have hcl : ∀ k : Nat, ∃ q : ClassId × (Nat → Nat), ∀ q0, vwCl[k]? = some q0 → u_Kn s q0.1 q0.2.1 q0.2.2 q.1 q.2 := by
    intro k
    match k with
    | 0 =>
      obtain ⟨c, i, h⟩ := u_known (C := RX0) (T := TX0) (N := 7) (n := 7) htA zuw0 (hw 151 _ (by decide +kernel))
      exact ⟨(c, i), fun q hq => by cases hq; exact h⟩
    | 1 =>
      obtain ⟨c, i, h⟩ := u_known (C := RX1) (T := TX1) (N := 7) (n := 7) htA zuw1 (hw 90 _ (by decide +kernel))
      exact ⟨(c, i), fun q hq => by cases hq; exact h⟩
    | 2 =>
      obtain ⟨c, i, h⟩ := u_known (C := RX2) (T := TX2) (N := 8) (n := 8) htA zuw2 (hw 331 _ (by decide +kernel))
      exact ⟨(c, i), fun q hq => by cases hq; exact h⟩
    | 3 =>
      obtain ⟨c, i, h⟩ := u_known (C := RX3) (T := TX3) (N := 3) (n := 3) htA zuw3 (hw 96 _ (by decide +kernel))
      exact ⟨(c, i), fun q hq => by cases hq; exact h⟩
    | 4 =>
      obtain ⟨c, i, h⟩ := u_known (C := RX4) (T := TX4) (N := 3) (n := 3) htA zuw4 (hw 291 _ (by decide +kernel))
      exact ⟨(c, i), fun q hq => by cases hq; exact h⟩
    | 5 =>
      obtain ⟨c, i, h⟩ := u_known (C := RX5) (T := TX5) (N := 5) (n := 5) htA zuw5 (hw 234 _ (by decide +kernel))
      exact ⟨(c, i), fun q hq => by cases hq; exact h⟩
    | 6 =>
      obtain ⟨c, i, h⟩ := u_known (C := RX6) (T := TX6) (N := 6) (n := 6) htA zuw6 (hw 285 _ (by decide +kernel))
      exact ⟨(c, i), fun q hq => by cases hq; exact h⟩
    | 7 =>
      obtain ⟨c, i, h⟩ := u_known (C := RX7) (T := TX7) (N := 10) (n := 10) htA zuw7 (hw 408 _ (by decide +kernel))
      exact ⟨(c, i), fun q hq => by cases hq; exact h⟩
    | 8 =>
      obtain ⟨c, i, h⟩ := u_known (C := RX8) (T := TX8) (N := 7) (n := 7) htA zuw8 (hw 339 _ (by decide +kernel))
      exact ⟨(c, i), fun q hq => by cases hq; exact h⟩
    | 9 =>
      obtain ⟨c, i, h⟩ := u_known (C := RX9) (T := TX9) (N := 3) (n := 3) htA zuw9 (hw 265 _ (by decide +kernel))
      exact ⟨(c, i), fun q hq => by cases hq; exact h⟩
    | 10 =>
      obtain ⟨c, i, h⟩ := u_known (C := RX10) (T := TX10) (N := 12) (n := 12) htA zuw10 (hw 186 _ (by decide +kernel))
      exact ⟨(c, i), fun q hq => by cases hq; exact h⟩
    | 11 =>
      obtain ⟨c, i, h⟩ := u_known (C := RX11) (T := TX11) (N := 18) (n := 18) htA zuw11 (hw 82 _ (by decide +kernel))
      exact ⟨(c, i), fun q hq => by cases hq; exact h⟩
    | 12 =>
      obtain ⟨c, i, h⟩ := u_known (C := RX12) (T := TX12) (N := 69) (n := 69) htA zuw12 (hw 1136 _ (by decide +kernel))
      exact ⟨(c, i), fun q hq => by cases hq; exact h⟩
    | k + 13 => exact ⟨(0, fun _ => 0), fun q hq => by simp at hq⟩
  obtain ⟨dc, hdc⟩ := Classical.axiomOfChoice hcl
  obtain ⟨cI, kI, pI, i1, i2, i3⟩ := Cond.arrayClass_spec (hw 111 (.arrayClass .int) (by decide +kernel))
  obtain ⟨cB, kB, pB, b1, b2, b3⟩ := Cond.arrayClass_spec (hw 283 (.arrayClass .byte) (by decide +kernel))
  have e0 : (ztm 0).eval #[Value.ref b] s none [] s = some (.ref (adK 0)) := hev 0 (by decide)
  have e1 : (ztm 1).eval #[Value.ref b] s none [] s = some (.ref (adK 1)) := hev 1 (by decide)
  have e2 : (ztm 2).eval #[Value.ref b] s none [] s = some (.ref (adK 2)) := hev 2 (by decide)
  have e3 : (ztm 3).eval #[Value.ref b] s none [] s = some (.ref (adK 3)) := hev 3 (by decide)
  refine ⟨(fun k => (dc k).1, fun k => (dc k).2), cI, cB, adK, adV, ⟨fun c q hq => hdc c q hq, fun k q hk => ?_⟩, hS, fun q r hr => ?_, fun r hr => ?_, fun r hr => ?_, ?_⟩
  · match k, hk with
    | 0, hk => cases hk; exact ⟨fun n z => ⟨fun k h => (by cases h), kI, i2, pI, i3⟩, i1⟩
    | 1, hk => cases hk; exact ⟨fun n z => ⟨fun k h => (by cases h), kB, b2, pB, b3⟩, b1⟩
    | k + 2, hk => simp at hk
  · simp only [stF, List.mem_cons, List.not_mem_nil, or_false] at hr
    subst hr
    exact va_Zof (hw 838 _ (by decide +kernel)) (hw 76 _ (by decide +kernel)) (va_eqt (z := 1) (hs _ (by decide +kernel))) hA
  · simp only [zsr, List.mem_cons, List.not_mem_nil, or_false] at hr
    rcases hr with rfl | rfl | rfl | rfl | rfl | rfl | rfl
    · exact vk_R.of (A := #[Value.ref b]) (hw 307 _ (by decide +kernel)) e0
    · exact vk_R.of (A := #[Value.ref b]) (hw 824 _ (by decide +kernel)) e2
    · exact vk_R.of (A := #[Value.ref b]) (hw 932 _ (by decide +kernel)) e3
    · exact vk_R.of (A := #[Value.ref b]) (hw 933 _ (by decide +kernel)) e1
    · exact vk_R.of (A := #[Value.ref b]) (hw 972 _ (by decide +kernel)) (zeqR (t := ztm 0) (hs _ (by decide +kernel)) e0)
    · exact vk_R.of (A := #[Value.ref b]) (hw 997 _ (by decide +kernel)) (zeqR (t := ztm 1) (hs _ (by decide +kernel)) e1)
    · exact vk_R.of (A := #[Value.ref b]) (hw 1032 _ (by decide +kernel)) (zeqR (t := ztm 0) (hs _ (by decide +kernel)) e0)
  · simp only [znw, List.mem_cons, List.not_mem_nil, or_false] at hr
    rcases hr with rfl | rfl
    · exact va_Nw.of rfl (hw 896 _ (by decide +kernel))
    · exact va_Nw.of rfl (hw 914 _ (by decide +kernel))
  · exact va_Zqof (hw 855 _ (by decide +kernel)) (hw 78 _ (by decide +kernel)) (hs _ (by decide +kernel)) hA
theorem env_1 {s : State} {G : zGT} {adK adV : Nat → Nat} (hK : va_K (gD G) vwCl (zky G) s) (hX : va_X (gq G 2000) (gL G) (gX G) s s.heap) (hbl : gq G 2000 < s.heap.size) (hAA : ∀ a, AA G a → s.heap.size ≤ a)
    (k1 : ∀ i, i < 4 → gq G (1000 + i) = adK i) (k2 : ∀ i, i < 4 → gq G (1100 + i) = adV i) (hSt : vk_S 4 ztl ztx adK adV (fun q => s.heap.size ≤ q) s s.heap)
    (hZ : ∀ q : Nat → Nat, ∀ r ∈ stF, va_Z r.1 r.2.1 r.2.2.1 (toV q r.2.2.2) (fun q => s.heap.size ≤ q) s s.heap) (hR : ∀ r ∈ zsr, vk_R r.1 r.2.1 r.2.2.1 (adK r.2.2.2) s)
    (hN : ∀ r ∈ znw, va_Nw (.methodLinkNest r.1 r.2.1 r.2.2.1 r.2.2.2) s) (hZq : va_Zq "jdk/internal/util/Preconditions" "SIOOBE_FORMATTER" "Ljava/util/function/BiFunction;" (fun q => s.heap.size ≤ q) s s.heap) : EnvG G s := by
  have hS := hSt.narrow hAA
  refine ⟨hK, hX, hbl, fun h => absurd (hAA _ h) (Nat.not_le.mpr hbl), ⟨fun i hi => ?_, fun i j hi hj h => ?_⟩, fun r hr => (hZ (gq G) r hr).narrow hAA, fun r hr => ?_, hN, hZq.narrow hAA⟩
  · have h := hS.1 i hi
    rw [← k1 i hi, ← k2 i hi] at h
    exact h
  · refine hS.2 i j hi hj ?_
    rw [← k1 i hi, ← k1 j hj]
    exact h
  · have h := hR r hr
    have lt : ∀ r ∈ zsr, r.2.2.2 < 4 := by decide
    rw [← k1 _ (lt r hr)] at h
    exact h
theorem rall_0 : Rall zs0 := by
  have z8 : (zs0 72 8).toInt = 0 := by decide +kernel
  have z2 : (zs0 72 2).toInt = 0 := by decide +kernel
  refine ⟨⟨by unfold Rcnt; decide +kernel, by unfold Rcnt; decide +kernel, by unfold Rcnt; decide +kernel, by unfold Rcnt; decide +kernel, by unfold Rcnt; decide +kernel, by unfold Rcnt; decide +kernel, by unfold Rcnt; decide +kernel, by unfold Rcnt; decide +kernel, by unfold Rcnt; decide +kernel⟩,
    fun a h => absurd h (by rw [z2]; omega), ⟨fun a h => absurd h (by rw [z8]; omega), fun c _ _ => rfl⟩, ⟨fun a h => absurd h (by rw [z8]; omega), fun c _ _ => rfl⟩, ⟨fun a h => absurd h (by rw [z8]; omega), fun c _ _ => rfl⟩,
    ⟨fun a h => absurd h (by rw [z8]; omega), fun k _ => ?_⟩, Or.inl ⟨by decide +kernel, by decide +kernel⟩, ⟨fun s hs => ?_, fun i _ => ?_⟩, fun i h => absurd h (by rw [show (zs0 72 25).toInt = 0 by decide +kernel]; omega), fun i h => absurd h (by rw [show (zs0 72 28).toInt = 0 by decide +kernel]; omega),
    Or.inl ⟨by decide +kernel, by decide +kernel⟩, ⟨by decide +kernel, by decide +kernel⟩, ⟨Or.inl (by decide +kernel), fun h => absurd h (by decide +kernel)⟩, ⟨Or.inl (by decide +kernel), fun h => absurd h (by decide +kernel)⟩⟩
  · show (0 : Int32) = 0 ∧ (0 : Int32) = 0 ∧ (0 : Int32) = 0 ∧ 0 ≤ (0 : Int32).toInt ∧ (0 : Int32).toInt ≤ 100 ∧ 0 ≤ (0 : Int32).toInt ∧ (0 : Int32).toInt ≤ 100 ∧ 0 ≤ (0 : Int32).toInt ∧ (0 : Int32).toInt ≤ 60
    decide
  · match s, hs with
    | 0, _ => decide +kernel
    | 1, _ => decide +kernel
  · show (0 : Int32) = 0 ∧ -128 ≤ (0 : Int32).toInt ∧ (0 : Int32).toInt < 128
    decide
section LAWF
variable {p : Program} {l : Launch} {e : Env} {R : Room} {s : State} {m : MethodId} {args : Array Value} {below : List Frame} {meth : Method} {c : Code} {H : Heap} {locs : List Loc} {cells slots : Nat} {Q : State → Prop}
variable {own : String} {cc : ByteArray} {nL pc : Nat} {ls : Array Slot} {rest : List Value} {D : va_G} {cI cB : ClassId} {aT : Nat} {A : Nat → Prop} {ws : va_W}
theorem lnew {ci idx : Nat} {q0 : vw_C} {ty : Nat → FieldType} {fs : List Value} (F : CallFix p m c cc nL s args AW own) (hK : zK D cI cB aT s) (hP : va_P D vwCl ws H) (hD : va_D A ws) (hS : va_S A s.heap H locs) (hA : ∀ q : Nat, s.heap.size ≤ q → A q) (hc : vwCl[ci]? = some q0) (hty : ∀ k, k < q0.2.2 → parseFieldDescriptor (q0.2.1 k).2.2.1 = some (ty k))
    (i1 : Cond.classLink own idx q0.1 ∈ AW) (i2 : Cond.instantiable q0.1 q0.2.2 ∈ AW) (i3 : Cond.initialized q0.1 ∈ AW) (hfs : ∀ j, j < q0.2.2 → defaultValue (ty j) = vp_V fs j) (hc1 : cells + 1 ≤ R.cells) (hs1 : slots + q0.2.2 ≤ R.slots) (hdg : decode cc pc = .ok (.new idx, 3))
    (kk : ∀ (q : Nat) (H1 : Heap), va_P D vwCl (ws ++ [(q, .inr (ci, fs))]) H1 → va_D A (ws ++ [(q, .inr (ci, fs))]) → va_S A s.heap H1 locs → W p l e R s m args below meth c H1 locs (cells + 1) (slots + q0.2.2) Q (F0 m (pc + 3) ls (.ref q :: rest))) : W p l e R s m args below meth c H locs cells slots Q (F0 m pc ls rest) := by
  obtain ⟨hx, hb, hml, hown, hts⟩ := F
  obtain ⟨hu, -⟩ := cl_ok ci q0 hc
  exact va_new (C := q0.1) (T := q0.2.1) (N := q0.2.2) hx hb hts hu ty hty hown (hts _ i1) (hts _ i2) (hts _ i3) hK.1 hP hD hS hA hc hfs hc1 hs1 hdg kk
variable {y : MethodName} {cy : ByteArray} {mL : Nat} {rm : Room} {mc ms ci b : Nat} {fs as : List Value} {res : (Nat → Nat) → va_W} {wr : va_W}
theorem lcal {idx : Nat} (j : Nat) (isR : List Nat) (F : CallFix p m c cc nL s args AW own) (hC : zCt l D cI cB aT y cy mL rm mc ms ci fs as b res) (hni : Cond.methodLink own idx y ∈ AW) (iC : Cond.code y cy mL none ∈ AW) (iI : Cond.initialized y.cls ∈ AW) (iM : Cond.instanceMethod y ∈ AW) (hy1 : y.name = "<init>")
    (hd : y.cls ≠ "java/lang/invoke/MethodHandle" ∧ y.cls ≠ "java/lang/invoke/VarHandle" ∧ (parseMethodDescriptor y.desc).map (fun d => d.parameters.length) = some as.length) (hrc : rm.cells = mc) (hrs : rm.slots = ms) (hRm : rm.frames + 1 ≤ R.frames ∧ 8 + (mL + 11) + rm.locals ≤ R.locals)
    (hK : zK D cI cB aT s) (hP : va_P D vwCl ws H) (hD : va_D A ws) (hS : va_S A s.heap H locs) (hA : ∀ q : Nat, s.heap.size ≤ q → A q) (hj : ws[j]? = some (b, .inr (ci, fs))) (hR : isR.map (fun i => ws[i]?) = wr.map some) (hn : va_nd isR = true) (hdis : ∀ i ∈ isR, i ∉ [j])
    (hls : ls.size = nL) (hrest : (rest.map fun v => v.category).sum ≤ 8) (hdg : decode cc pc = .ok (.invokespecial idx, 3)) (hf : cells + mc ≤ R.cells ∧ slots + ms ≤ R.slots)
    (kk : ∀ (q : Nat → Nat) (H1 : Heap) (locs1 : List Loc), va_P D vwCl (wr ++ res q) H1 → va_D A (wr ++ res q) → va_S A s.heap H1 locs1 → W p l e R s m args below meth c H1 locs1 (cells + mc) (slots + ms) Q (F0 m (pc + 3) ls rest)) : W p l e R s m args below meth c H locs cells slots Q (F0 m pc ls (as.reverse ++ .ref b :: rest)) := by
  obtain ⟨hx, hb, hml, hown, hts⟩ := F
  have hj1 : [j].map (fun i => ws[i]?) = [(b, (.inr (ci, fs) : va_E))].map some := by simp [hj]
  have hj2 : [j].filterMap (fun i => ws[i]?) = [(b, (.inr (ci, fs) : va_E))] := by simp [hj]
  have hPc := hP.sub (ws' := [(b, .inr (ci, fs))]) [j] hj2
  have hDc := hD.sub (ws' := [(b, .inr (ci, fs))]) [j] (by simp [va_nd]) hj1
  have hcw := cwI (R := R) (args := args) (s := s) (mc := mc) (ms := ms) (rm := rm) (bytes := cy) (maxL := mL) as.length hts (goodAW iC) rfl hrc hrs (hts _ iI) (hts _ hni) (hts _ iM) hy1 hd hRm
  refine zafter j isR (va_runI (g := F0 m pc ls (as.reverse ++ .ref b :: rest)) (As := as) (rest := rest) (nL := nL) ⟨hx, hb, hml, hown, hts⟩ (hC H.size) hcw ⟨zblind2, fun U hU hW => ⟨rfl, by rw [hU], by rw [hU]; exact hPc, hK.warm hW, hDc.weaken (fun _ _ _ _ => trivial)⟩⟩ rfl rfl hls rfl (lv_room hrest) hdg hf) hP hD hS hA hj1 hR hn hdis kk
end LAWF
theorem zni_0 {s : State} {b : Nat} (hts : ∀ w ∈ lw_tbl, w.before #[Value.ref b] s = true) : ∀ r ∈ zni, va_Nw (.methodLinkNest r.1 r.2.1 r.2.2.1 r.2.2.2) s := by
  have hw : ∀ (i : Nat) (w : Jvm.Cond), lw_tbl[i]? = some w → w.before #[Value.ref b] s = true := fun i w h => hts w (List.mem_of_getElem? h)
  intro r hr
  simp only [zni, List.mem_cons, List.not_mem_nil, or_false] at hr
  rcases hr with rfl | rfl | rfl | rfl | rfl | rfl | rfl | rfl | rfl
  · exact va_Nw.of rfl (hw 91 _ (by decide +kernel))
  · exact va_Nw.of rfl (hw 97 _ (by decide +kernel))
  · exact va_Nw.of rfl (hw 152 _ (by decide +kernel))
  · exact va_Nw.of rfl (hw 235 _ (by decide +kernel))
  · exact va_Nw.of rfl (hw 266 _ (by decide +kernel))
  · exact va_Nw.of rfl (hw 292 _ (by decide +kernel))
  · exact va_Nw.of rfl (hw 337 _ (by decide +kernel))
  · exact va_Nw.of rfl (hw 340 _ (by decide +kernel))
  · exact va_Nw.of rfl (hw 414 _ (by decide +kernel))
/-- the law's walk starts on the memory that the constructors leave -/
theorem qi_0 {G : zGT} {A : Nat → Prop} (hD : va_D A (wd G zs0)) : QI G := by
  intro i j hi hj h
  have g : ∀ k, k < zNC → ∃ c, zlay[k]? = some c := fun k hk => ⟨_, List.getElem?_eq_getElem (by rw [zlay_len]; exact hk)⟩
  obtain ⟨ci, h1⟩ := g i hi
  obtain ⟨cj, h2⟩ := g j hj
  exact hD.1 i j _ _ (wd_get G zs0 h1) (wd_get G zs0 h2) h
theorem aa_0 {G : zGT} {A : Nat → Prop} (hD : va_D A (wd G zs0)) : ∀ a, AA G a → A a := by
  rintro a ⟨k, hk, rfl⟩
  have g : ∃ c, zlay[k]? = some c := ⟨_, List.getElem?_eq_getElem (by rw [zlay_len]; exact hk)⟩
  obtain ⟨c, h⟩ := g
  exact hD.2 k _ (wd_get G zs0 h)
