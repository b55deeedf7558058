-- constructors
def zni : List (String × Nat × MethodName × String) := [("RoomsDesk", 9, yX1_init, "RoomsDesk"), ("RoomsDesk$Claims", 26, yX3_init, "RoomsDesk"), ("RoomsDesk", 18, yX0_init, "RoomsDesk"), ("RoomsDesk", 37, yX5_init, "RoomsDesk"), ("RoomsDesk", 47, yX9_init, "RoomsDesk"), ("RoomsDesk$Reader", 11, yX4_init, "RoomsDesk"), ("RoomsDesk$Court", 11, yX4_init, "RoomsDesk"), ("RoomsDesk$Court", 23, yX8_init, "RoomsDesk"), ("RoomsDesk$Search", 20, yX8_init, "RoomsDesk")]
def zK (D : va_G) (cI cB : ClassId) (aT : Nat) (U : State) : Prop := va_K D vwCl [(cI, .int), (cB, .byte)] U ∧ vk_R "RoomsDesk$Reader" 24 "vntkm" aT U ∧ ∀ r ∈ zni, va_Nw (.methodLinkNest r.1 r.2.1 r.2.2.1 r.2.2.2) U
theorem zK.warm {D : va_G} {cI cB : ClassId} {aT : Nat} {s U : State} (h : zK D cI cB aT s) (hW : s.WarmedH U.vm) : zK D cI cB aT U := ⟨va_K.moved hW.alike h.1, h.2.1.warm hW, fun r hr => va_Nw.warmM hW (h.2.2 r hr)⟩
theorem zK.same {D : va_G} {cI cB : ClassId} {aT : Nat} {u U : State} (h : zK D cI cB aT u) (hv : U.vm = u.vm) : zK D cI cB aT U := ⟨va_K.moved (by rw [hv]; exact Vm.Alike.refl u.vm) h.1, h.2.1.same hv, fun r hr => va_Nw.same rfl hv.symm (h.2.2 r hr)⟩
def zPre (D : va_G) (cI cB : ClassId) (aT ci : Nat) (fs : List Value) (h0 sz : Nat) (U : State) : Prop := U.heap.size = sz ∧ va_P D vwCl [(h0, .inr (ci, fs))] U.heap ∧ zK D cI cB aT U ∧ va_D (fun _ => True) [(h0, .inr (ci, fs))]
def zQv (D : va_G) (res : (Nat → Nat) → va_W) (A : Nat → Prop) : Array Value → State → Outcome → State → Prop := va_Qv (fun _ : Nat → Nat => True) (fun q t => va_P D vwCl (res q) t.heap ∧ va_D A (res q)) A
/-- a constructor's contract -/
def zCt (l : Launch) (D : va_G) (cI cB : ClassId) (aT : Nat) (y : MethodName) (cc : ByteArray) (maxL : Nat) (rm : Room) (mc ms ci : Nat) (fs : List Value) (as : List Value) (h0 : Nat) (res : (Nat → Nat) → va_W) : Prop :=
  ∀ sz : Nat, Met l y (.code y cc maxL none :: AW) rm (va_Pc (.ref h0 :: as) (zPre D cI cB aT ci fs h0 sz)) (zQv D res (va_A [(h0, .inr (ci, fs))] sz)) mc ms (va_A [(h0, .inr (ci, fs))] sz)
/-- a constructor's frame -/
def zFr (p : Program) (s : State) (m : MethodId) (meth : Method) (c : Code) (y : MethodName) (cc : ByteArray) (maxL : Nat) (args : Array Value) : Prop :=
  p.tables.exec = Jvm.exec ∧ c.code = cc ∧ c.maxLocals = maxL ∧ s.vm.findClass y.cls = some m.cls ∧ (∀ w ∈ AW, w.before args s = true) ∧ meth.sig.returnType = none ∧ meth.locks = false ∧ meth.name = "<init>"
theorem zCt_of {l : Launch} {D : va_G} {cI cB : ClassId} {aT : Nat} {y : MethodName} {cc : ByteArray} {maxL : Nat} {rm : Room} {mc ms ci : Nat} {fs as : List Value} {h0 : Nat} {res : (Nat → Nat) → va_W} (hy : plainName y.cls = true) (hi : y.name = "<init>") (hn : (lg_sl (.ref h0 :: as)).length ≤ maxL)
    (h : ∀ (p : Program) (e : Env) (s : State) (m : MethodId) (args : Array Value) (below : List Frame) (meth : Method) (c : Code), zFr p s m meth c y cc maxL args → zK D cI cB aT s → ∀ A : Nat → Prop, (∀ q : Nat, s.heap.size ≤ q → A q) → va_P D vwCl [(h0, .inr (ci, fs))] s.heap → va_D A [(h0, .inr (ci, fs))] → ∀ ls : Array Slot, lv_has ls maxL (lv_args 0 (.ref h0 :: as)) →
      W p l e rm s m args below meth c s.heap [] 0 0 (MQ below (zQv D res A) args s mc ms A) (F0 m 0 ls [])) : zCt l D cI cB aT y cc maxL rm mc ms ci fs as h0 res := by
  intro sz
  refine Met.ofW (cc := cc) (maxL := maxL) (ret := none) hy rfl ?_
  intro p e s m args below meth c s₁ B hml hv
  obtain ⟨rfl, hsz, hP, hK, hD0⟩ := hv
  have hts := atoms_spec (ws := (.code y cc maxL none :: AW)) B.pre
  have hin := (name_of_methodNamed B.named B.method).1
  subst hsz
  have hD := hD0.self (sz := s.heap.size)
  rw [lg_entry_eq]
  exact h p e s m _ below meth c ⟨B.exec, B.bytes, hml, findClass_of_methodNamed B.named, fun w hw => hts w (List.mem_cons_of_mem _ hw), B.returns, B.notSynchronized, hin.trans hi⟩ hK _ (fun q hq => Or.inr hq) hP hD _ (lv_entry (.ref h0 :: as) hn)
theorem goodAW {w : Cond} (i : w ∈ AW) : GoodIn AW (w :: AW) := by
  intro v hv
  rcases List.mem_cons.mp hv with rfl | hv
  · exact ⟨i, good_of_word (List.mem_filter.mp i).2⟩
  · exact ⟨hv, good_of_word (List.mem_filter.mp hv).2⟩
section ZC
variable {p : Program} {l : Launch} {e : Env} {R : Room} {s : State} {m : MethodId} {args : Array Value} {below : List Frame} {meth : Method} {c : Code} {H : Heap} {locs : List Loc} {cells slots : Nat} {Q : State → Prop}
variable {y0 : MethodName} {cc : ByteArray} {nL pc : Nat} {ls : Array Slot} {rest : List Value} {D : va_G} {cI cB : ClassId} {aT : Nat} {A : Nat → Prop} {ws : va_W}
theorem zcret {res : (Nat → Nat) → va_W} {mc ms : Nat} (F : zFr p s m meth c y0 cc nL args) (hdg : decode cc pc = .ok (.return_, 1)) (q : Nat → Nat) (hP : va_P D vwCl (res q) H) (hD : va_D A (res q)) (hS : va_S A s.heap H locs) :
    W p l e R s m args below meth c H locs mc ms (MQ below (zQv D res A) args s mc ms A) (F0 m pc ls []) :=
  W.vret F.1 F.2.1 F.2.2.2.2.2.1 (fun t ht hW => ⟨⟨q, rfl, trivial, by rw [ht]; exact hP, hD⟩, hS.F ht⟩) hS.2.2 hdg F.2.2.2.2.2.2.1
theorem zobj {a idx : Nat} (F : zFr p s m meth c y0 cc nL args) (hls : ls.size = nL) (i1 : Cond.methodLink y0.cls idx Lib.objectInit ∈ AW) (hdg : decode cc pc = .ok (.invokespecial idx, 3)) (hframes : 1 ≤ R.frames) (hlocals : (rest.map fun v => v.category).sum + 12 ≤ R.locals)
    (kk : W p l e R s m args below meth c H locs cells slots Q (F0 m (pc + 3) ls rest)) : W p l e R s m args below meth c H locs cells slots Q (F0 m pc ls (.ref a :: rest)) := by
  obtain ⟨hx, hb, hml, hown, hts, hr, hlk, hin⟩ := F
  refine W.objInit hx hb hown (hts _ i1) (hts _ (inT_in (i := 87) (by decide +kernel))) (hts _ (inT_in (i := 88) (by decide +kernel))) rfl (by rw [hml]; exact hls) rfl hdg hframes ?_ ?_
  · show 2 * 0 + (rest.map fun v => v.category).sum + 12 ≤ R.locals
    omega
  · exact W.eq (g2 := F0 m (pc + 3) ls rest) rfl kk
theorem zarrI {n : Int32} {N : Nat} (F : zFr p s m meth c y0 cc nL args) (hK : zK D cI cB aT s) (hP : va_P D vwCl ws H) (hD : va_D A ws) (hS : va_S A s.heap H locs) (hA : ∀ q : Nat, s.heap.size ≤ q → A q) (hn : ¬ n < 0) (hN : n.toNatClampNeg = N) (hb4 : N * componentBytes .int ≤ 536870912) (hc1 : cells + 1 ≤ R.cells) (hs1 : slots + N ≤ R.slots) (hdg : decode cc pc = .ok (.newarray .int, 2))
    (kk : ∀ (q : Nat) (H1 : Heap), va_P D vwCl (ws ++ [(q, .inl (cI, N, .inl (fun _ => 0)))]) H1 → va_D A (ws ++ [(q, .inl (cI, N, .inl (fun _ => 0)))]) → va_S A s.heap H1 locs → W p l e R s m args below meth c H1 locs (cells + 1) (slots + N) Q (F0 m (pc + 2) ls (.ref q :: rest))) :
    W p l e R s m args below meth c H locs cells slots Q (F0 m pc ls (.int n :: rest)) := by
  obtain ⟨hx, hb, hml, hown, hts, hr, hlk, hin⟩ := F
  refine va_newa (atype := .int) (ty := .int) (a0 := (N, .inl (fun _ => 0))) hx hb (hts _ (inT_in (i := 111) (by decide +kernel))) rfl hK.1 hP hD hS hA (fun _ => rfl) hn hN hb4 hc1 hs1 hdg (fun q cA H1 hK1 hP1 hD1 hS1 => ?_)
  have e1 : s.vm.findClass ("[" ++ FieldType.int.toString) = some cA := (hK1.2 2 _ rfl).2
  have e2 : s.vm.findClass ("[" ++ FieldType.int.toString) = some cI := (hK.1.2 0 _ rfl).2
  have : cA = cI := Option.some.inj (e1.symm.trans e2)
  subst this
  exact kk q H1 hP1 hD1 hS1
theorem zarrB {n : Int32} {N : Nat} (F : zFr p s m meth c y0 cc nL args) (hK : zK D cI cB aT s) (hP : va_P D vwCl ws H) (hD : va_D A ws) (hS : va_S A s.heap H locs) (hA : ∀ q : Nat, s.heap.size ≤ q → A q) (hn : ¬ n < 0) (hN : n.toNatClampNeg = N) (hb4 : N * componentBytes .byte ≤ 536870912) (hc1 : cells + 1 ≤ R.cells) (hs1 : slots + N ≤ R.slots) (hdg : decode cc pc = .ok (.newarray .byte, 2))
    (kk : ∀ (q : Nat) (H1 : Heap), va_P D vwCl (ws ++ [(q, .inl (cB, N, .inl (fun _ => 0)))]) H1 → va_D A (ws ++ [(q, .inl (cB, N, .inl (fun _ => 0)))]) → va_S A s.heap H1 locs → W p l e R s m args below meth c H1 locs (cells + 1) (slots + N) Q (F0 m (pc + 2) ls (.ref q :: rest))) :
    W p l e R s m args below meth c H locs cells slots Q (F0 m pc ls (.int n :: rest)) := by
  obtain ⟨hx, hb, hml, hown, hts, hr, hlk, hin⟩ := F
  refine va_newa (atype := .byte) (ty := .byte) (a0 := (N, .inl (fun _ => 0))) hx hb (hts _ (inT_in (i := 283) (by decide +kernel))) rfl hK.1 hP hD hS hA (fun _ => rfl) hn hN hb4 hc1 hs1 hdg (fun q cA H1 hK1 hP1 hD1 hS1 => ?_)
  have e1 : s.vm.findClass ("[" ++ FieldType.byte.toString) = some cA := (hK1.2 2 _ rfl).2
  have e2 : s.vm.findClass ("[" ++ FieldType.byte.toString) = some cB := (hK.1.2 1 _ rfl).2
  have : cA = cB := Option.some.inj (e1.symm.trans e2)
  subst this
  exact kk q H1 hP1 hD1 hS1
theorem zcnew {ci idx : Nat} {q0 : vw_C} {ty : Nat → FieldType} {fs : List Value} (F : zFr p s m meth c y0 cc nL args) (hK : zK D cI cB aT s) (hP : va_P D vwCl ws H) (hD : va_D A ws) (hS : va_S A s.heap H locs) (hA : ∀ q : Nat, s.heap.size ≤ q → A q) (hc : vwCl[ci]? = some q0) (hty : ∀ k, k < q0.2.2 → parseFieldDescriptor (q0.2.1 k).2.2.1 = some (ty k))
    (i1 : Cond.classLink y0.cls idx q0.1 ∈ AW) (i2 : Cond.instantiable q0.1 q0.2.2 ∈ AW) (i3 : Cond.initialized q0.1 ∈ AW) (hfs : ∀ j, j < q0.2.2 → defaultValue (ty j) = vp_V fs j) (hc1 : cells + 1 ≤ R.cells) (hs1 : slots + q0.2.2 ≤ R.slots) (hdg : decode cc pc = .ok (.new idx, 3))
    (kk : ∀ (q : Nat) (H1 : Heap), va_P D vwCl (ws ++ [(q, .inr (ci, fs))]) H1 → va_D A (ws ++ [(q, .inr (ci, fs))]) → va_S A s.heap H1 locs → W p l e R s m args below meth c H1 locs (cells + 1) (slots + q0.2.2) Q (F0 m (pc + 3) ls (.ref q :: rest))) : W p l e R s m args below meth c H locs cells slots Q (F0 m pc ls rest) := by
  obtain ⟨hx, hb, hml, hown, hts, hr, hlk, hin⟩ := F
  obtain ⟨hu, -⟩ := cl_ok ci q0 hc
  exact va_new (C := q0.1) (T := q0.2.1) (N := q0.2.2) hx hb hts hu ty hty hown (hts _ i1) (hts _ i2) (hts _ i3) hK.1 hP hD hS hA hc hfs hc1 hs1 hdg kk
theorem zcput {ci idx a k : Nat} {q0 : vw_C} {fs : List Value} {ty : FieldType} {v : Value} (j : Nat) (F : zFr p s m meth c y0 cc nL args) (hK : zK D cI cB aT s) (hP : va_P D vwCl ws H) (hD : va_D A ws) (hS : va_S A s.heap H locs) (he : ws[j]? = some (a, .inr (ci, fs))) (hc : vwCl[ci]? = some q0) (hk : k < q0.2.2)
    (hlink : Cond.fieldLink y0.cls idx (q0.2.1 k).1 (q0.2.1 k).2.1 (q0.2.1 k).2.2.1 ∈ AW) (hdecl : (q0.2.1 k).1 = y0.cls) (hd : parseFieldDescriptor (q0.2.1 k).2.2.1 = some ty) (hn : narrow ty v = v) (hfit : fits ty v = true) (hl : k < fs.length) (hdg : decode cc pc = .ok (.putfield idx, 3))
    (kk : ∀ (H1 : Heap) (locs1 : List Loc), va_P D vwCl (ws.set j (a, .inr (ci, fs.set k v))) H1 → va_D A (ws.set j (a, .inr (ci, fs.set k v))) → va_S A s.heap H1 locs1 → W p l e R s m args below meth c H1 locs1 cells slots Q (F0 m (pc + 3) ls rest)) : W p l e R s m args below meth c H locs cells slots Q (F0 m pc ls (v :: .ref a :: rest)) := by
  obtain ⟨hx, hb, hml, hown, hts, hr, hlk, hin⟩ := F
  obtain ⟨hu, ty0, ht1, ht2⟩ := cl_ok ci q0 hc
  cases hf : (q0.2.1 k).2.2.2 with
  | true => exact va_putF (ref := (q0.2.1 k).1) (C := q0.1) (T := q0.2.1) (N := q0.2.2) hx hb hts hu ty0 ht1 ht2 hown hK.1 hP hD hS j he hc k hk (hts _ hlink) (fun x hx => hx) hf hin hdecl hd hn hfit hl hdg kk
  | false => exact va_put (ref := (q0.2.1 k).1) (C := q0.1) (T := q0.2.1) (N := q0.2.2) hx hb hts hu ty0 ht1 ht2 hown hK.1 hP hD hS j he hc k hk (hts _ hlink) (fun x hx => hx) hf hd hn hfit hl hdg kk
theorem zcget {ci idx a k : Nat} {q0 : vw_C} {fs : List Value} {v : Value} (j : Nat) (F : zFr p s m meth c y0 cc nL args) (hK : zK D cI cB aT s) (hP : va_P D vwCl ws H) (he : ws[j]? = some (a, .inr (ci, fs))) (hc : vwCl[ci]? = some q0) (hk : k < q0.2.2)
    (hlink : Cond.fieldLink y0.cls idx (q0.2.1 k).1 (q0.2.1 k).2.1 (q0.2.1 k).2.2.1 ∈ AW) (hv : fs[k]? = some v) (hdg : decode cc pc = .ok (.getfield idx, 3)) (kk : W p l e R s m args below meth c H locs cells slots Q (F0 m (pc + 3) ls (v :: rest))) : W p l e R s m args below meth c H locs cells slots Q (F0 m pc ls (.ref a :: rest)) := by
  obtain ⟨hx, hb, hml, hown, hts, hr, hlk, hin⟩ := F
  obtain ⟨hu, -⟩ := cl_ok ci q0 hc
  exact va_get (ref := (q0.2.1 k).1) (C := q0.1) (T := q0.2.1) (N := q0.2.2) hx hb hts hu hown hK.1 hP j he hc k hk (hts _ hlink) (fun x hx => hx) hv hdg kk
variable {y : MethodName} {cy : ByteArray} {mL : Nat} {rm : Room} {mc ms ci b : Nat} {fs as : List Value} {res : (Nat → Nat) → va_W} {wr : va_W}
theorem zblind2 {sz : Nat} : FrameBlind (va_Pc (.ref b :: as) (zPre D cI cB aT ci fs b sz)) := fun a U g mk q => ⟨q.1, q.2.1, q.2.2.1, q.2.2.2.1.same rfl, q.2.2.2.2⟩
theorem zafter {st0 : List Value} {aa : Array Value} (j : Nat) (isR : List Nat) (hr : va_Run p l e R s m args below meth c H locs cells slots mc ms (F0 m pc ls st0) rest (zQv D res (va_A [(b, .inr (ci, fs))] H.size) aa) (va_A [(b, .inr (ci, fs))] H.size)) (hP : va_P D vwCl ws H) (hD : va_D A ws) (hS : va_S A s.heap H locs) (hA : ∀ q : Nat, s.heap.size ≤ q → A q)
    (hj : [j].map (fun i => ws[i]?) = [(b, (.inr (ci, fs) : va_E))].map some) (hR : isR.map (fun i => ws[i]?) = wr.map some) (hn : va_nd isR = true) (hdis : ∀ i ∈ isR, i ∉ [j])
    (kk : ∀ (q : Nat → Nat) (H1 : Heap) (locs1 : List Loc), va_P D vwCl (wr ++ res q) H1 → va_D A (wr ++ res q) → va_S A s.heap H1 locs1 → W p l e R s m args below meth c H1 locs1 (cells + mc) (slots + ms) Q (F0 m (pc + 3) ls rest)) : W p l e R s m args below meth c H locs cells slots Q (F0 m pc ls st0) := by
  have hFc := va_free (wc := [(b, .inr (ci, fs))]) hD hS hA [j] hj
  refine va_callv hr hS (fun q _ h => hFc q h) hFc (fun u t H1 locs1 ht hvm hw hB hz1 hk1 hS1 => ?_)
  obtain ⟨hP1, hD1⟩ := hB
  rw [ht] at hP1
  obtain ⟨hP2, hD2⟩ := va_join (wr := wr) (w1 := res u) hP hD [j] isR hj hR hn hdis hk1 hFc hP1 hD1
  exact kk u H1 locs1 hP2 hD2 hS1
theorem zcalN {idx : Nat} {host : String} (j : Nat) (isR : List Nat) (F : zFr p s m meth c y0 cc nL args) (hC : zCt l D cI cB aT y cy mL rm mc ms ci fs as b res) (hni : (y0.cls, idx, y, host) ∈ zni) (iC : Cond.code y cy mL none ∈ AW) (iI : Cond.initialized y.cls ∈ AW) (iM : Cond.instanceMethod y ∈ AW) (hy1 : y.name = "<init>")
    (hd : y.cls ≠ "java/lang/invoke/MethodHandle" ∧ y.cls ≠ "java/lang/invoke/VarHandle" ∧ (parseMethodDescriptor y.desc).map (fun d => d.parameters.length) = some as.length) (hrc : rm.cells = mc) (hrs : rm.slots = ms) (hRm : rm.frames + 1 ≤ R.frames ∧ 8 + (mL + 11) + rm.locals ≤ R.locals)
    (hK : zK D cI cB aT s) (hP : va_P D vwCl ws H) (hD : va_D A ws) (hS : va_S A s.heap H locs) (hA : ∀ q : Nat, s.heap.size ≤ q → A q) (hj : ws[j]? = some (b, .inr (ci, fs))) (hR : isR.map (fun i => ws[i]?) = wr.map some) (hn : va_nd isR = true) (hdis : ∀ i ∈ isR, i ∉ [j])
    (hls : ls.size = nL) (hrest : (rest.map fun v => v.category).sum ≤ 8) (hdg : decode cc pc = .ok (.invokespecial idx, 3)) (hf : cells + mc ≤ R.cells ∧ slots + ms ≤ R.slots)
    (kk : ∀ (q : Nat → Nat) (H1 : Heap) (locs1 : List Loc), va_P D vwCl (wr ++ res q) H1 → va_D A (wr ++ res q) → va_S A s.heap H1 locs1 → W p l e R s m args below meth c H1 locs1 (cells + mc) (slots + ms) Q (F0 m (pc + 3) ls rest)) : W p l e R s m args below meth c H locs cells slots Q (F0 m pc ls (as.reverse ++ .ref b :: rest)) := by
  obtain ⟨hx, hb, hml, hown, hts, hr, hlk, hin⟩ := F
  have hj1 : [j].map (fun i => ws[i]?) = [(b, (.inr (ci, fs) : va_E))].map some := by simp [hj]
  have hj2 : [j].filterMap (fun i => ws[i]?) = [(b, (.inr (ci, fs) : va_E))] := by simp [hj]
  have hPc := hP.sub (ws' := [(b, .inr (ci, fs))]) [j] hj2
  have hDc := hD.sub (ws' := [(b, .inr (ci, fs))]) [j] (by simp [va_nd]) hj1
  have hcw := va_cnB (R := R) (args := args) (s := s) (mc := mc) (ms := ms) (rm := rm) (bytes := cy) (maxL := mL) (ret := none) as.length hts (goodAW iC) rfl hrc hrs (hK.2.2 _ hni) (hts _ iI) hd hRm
  refine zafter j isR (va_runIN (g := F0 m pc ls (as.reverse ++ .ref b :: rest)) (As := as) (rest := rest) (nL := nL) ⟨hx, hb, hml, hown, hts⟩ (hC H.size) ⟨hcw, hy1, hts _ iM⟩ ⟨zblind2, fun U hU hW => ⟨rfl, by rw [hU], by rw [hU]; exact hPc, hK.warm hW, hDc.weaken (fun _ _ _ _ => trivial)⟩⟩ rfl rfl hls rfl (lv_room hrest) hdg hf) hP hD hS hA hj1 hR hn hdis kk
theorem zcal {idx : Nat} (j : Nat) (isR : List Nat) (F : zFr p s m meth c y0 cc nL args) (hC : zCt l D cI cB aT y cy mL rm mc ms ci fs as b res) (hni : Cond.methodLink y0.cls idx y ∈ AW) (iC : Cond.code y cy mL none ∈ AW) (iI : Cond.initialized y.cls ∈ AW) (iM : Cond.instanceMethod y ∈ AW) (hy1 : y.name = "<init>")
    (hd : y.cls ≠ "java/lang/invoke/MethodHandle" ∧ y.cls ≠ "java/lang/invoke/VarHandle" ∧ (parseMethodDescriptor y.desc).map (fun d => d.parameters.length) = some as.length) (hrc : rm.cells = mc) (hrs : rm.slots = ms) (hRm : rm.frames + 1 ≤ R.frames ∧ 8 + (mL + 11) + rm.locals ≤ R.locals)
    (hK : zK D cI cB aT s) (hP : va_P D vwCl ws H) (hD : va_D A ws) (hS : va_S A s.heap H locs) (hA : ∀ q : Nat, s.heap.size ≤ q → A q) (hj : ws[j]? = some (b, .inr (ci, fs))) (hR : isR.map (fun i => ws[i]?) = wr.map some) (hn : va_nd isR = true) (hdis : ∀ i ∈ isR, i ∉ [j])
    (hls : ls.size = nL) (hrest : (rest.map fun v => v.category).sum ≤ 8) (hdg : decode cc pc = .ok (.invokespecial idx, 3)) (hf : cells + mc ≤ R.cells ∧ slots + ms ≤ R.slots)
    (kk : ∀ (q : Nat → Nat) (H1 : Heap) (locs1 : List Loc), va_P D vwCl (wr ++ res q) H1 → va_D A (wr ++ res q) → va_S A s.heap H1 locs1 → W p l e R s m args below meth c H1 locs1 (cells + mc) (slots + ms) Q (F0 m (pc + 3) ls rest)) : W p l e R s m args below meth c H locs cells slots Q (F0 m pc ls (as.reverse ++ .ref b :: rest)) := by
  obtain ⟨hx, hb, hml, hown, hts, hr, hlk, hin⟩ := F
  have hj1 : [j].map (fun i => ws[i]?) = [(b, (.inr (ci, fs) : va_E))].map some := by simp [hj]
  have hj2 : [j].filterMap (fun i => ws[i]?) = [(b, (.inr (ci, fs) : va_E))] := by simp [hj]
  have hPc := hP.sub (ws' := [(b, .inr (ci, fs))]) [j] hj2
  have hDc := hD.sub (ws' := [(b, .inr (ci, fs))]) [j] (by simp [va_nd]) hj1
  have hcw := cwI (R := R) (args := args) (s := s) (mc := mc) (ms := ms) (rm := rm) (bytes := cy) (maxL := mL) as.length hts (goodAW iC) rfl hrc hrs (hts _ iI) (hts _ hni) (hts _ iM) hy1 hd hRm
  refine zafter j isR (va_runI (g := F0 m pc ls (as.reverse ++ .ref b :: rest)) (As := as) (rest := rest) (nL := nL) ⟨hx, hb, hml, hown, hts⟩ (hC H.size) hcw ⟨zblind2, fun U hU hW => ⟨rfl, by rw [hU], by rw [hU]; exact hPc, hK.warm hW, hDc.weaken (fun _ _ _ _ => trivial)⟩⟩ rfl rfl hls rfl (lv_room hrest) hdg hf) hP hD hS hA hj1 hR hn hdis kk
end ZC
