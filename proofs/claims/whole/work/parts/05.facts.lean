theorem zuw {ws : List Jvm.Cond} (ps : List Nat) (h : ws = ps.filterMap (fun i => lw_tbl[i]?)) (g : ws.all goodWord = true) : ∀ w ∈ ws, w ∈ AW := by
  intro w hw
  have h1 := List.all_eq_true.mp g w hw
  rw [h] at hw
  obtain ⟨i, -, hi⟩ := List.mem_filterMap.mp hw
  exact AW_in hi h1
theorem zuw0 : ∀ w ∈ u_ws RX0 TX0 7, w ∈ AW := zuw [170, 172, 174, 176, 178, 180, 182] (by decide +kernel) (by decide +kernel)
theorem zuw1 : ∀ w ∈ u_ws RX1 TX1 7, w ∈ AW := zuw [135, 137, 139, 141, 143, 145, 147] (by decide +kernel) (by decide +kernel)
theorem zuw2 : ∀ w ∈ u_ws RX2 TX2 8, w ∈ AW := zuw [390, 392, 394, 396, 398, 400, 402, 404] (by decide +kernel) (by decide +kernel)
theorem zuw3 : ∀ w ∈ u_ws RX3 TX3 3, w ∈ AW := zuw [104, 106, 108] (by decide +kernel) (by decide +kernel)
theorem zuw4 : ∀ w ∈ u_ws RX4 TX4 3, w ∈ AW := zuw [300, 302, 304] (by decide +kernel) (by decide +kernel)
theorem zuw5 : ∀ w ∈ u_ws RX5 TX5 5, w ∈ AW := zuw [253, 255, 257, 259, 261] (by decide +kernel) (by decide +kernel)
theorem zuw6 : ∀ w ∈ u_ws RX6 TX6 6, w ∈ AW := zuw [317, 319, 321, 323, 325, 327] (by decide +kernel) (by decide +kernel)
theorem zuw7 : ∀ w ∈ u_ws RX7 TX7 10, w ∈ AW := zuw [428, 430, 432, 434, 436, 438, 440, 442, 444, 446] (by decide +kernel) (by decide +kernel)
theorem zuw8 : ∀ w ∈ u_ws RX8 TX8 7, w ∈ AW := zuw [359, 361, 363, 365, 367, 369, 371] (by decide +kernel) (by decide +kernel)
theorem zuw9 : ∀ w ∈ u_ws RX9 TX9 3, w ∈ AW := zuw [276, 278, 280] (by decide +kernel) (by decide +kernel)
theorem zuw10 : ∀ w ∈ u_ws RX10 TX10 12, w ∈ AW := zuw [208, 210, 212, 214, 216, 218, 220, 222, 224, 226, 228, 230] (by decide +kernel) (by decide +kernel)
theorem zuw11 : ∀ w ∈ u_ws RX11 TX11 18, w ∈ AW := zuw [468, 470, 472, 474, 476, 478, 480, 482, 484, 486, 488, 490, 492, 494, 496, 498, 500, 502] (by decide +kernel) (by decide +kernel)
theorem zuw12 : ∀ w ∈ u_ws RX12 TX12 69, w ∈ AW := zuw [1210, 1212, 1214, 1216, 1218, 1220, 1222, 1224, 1226, 1228, 1230, 1232, 1234, 1236, 1238, 1240, 1242, 1244, 1246, 1248, 1250, 1252, 1254, 1256, 1258, 1260, 1262, 1264, 1266, 1268, 1270, 1272, 1274, 1276, 1278, 1280, 1282, 1284, 1286, 1288, 1290, 1292, 1294, 1296, 1298, 1300, 1302, 1304, 1306, 1308, 1310, 1312, 1314, 1316, 1318, 1320, 1322, 1324, 1326, 1328, 1330, 1332, 1334, 1336, 1338, 1340, 1342, 1344, 1346] (by decide +kernel) (by decide +kernel)
theorem cl_ok : ∀ (ci : Nat) (q : vw_C), vwCl[ci]? = some q → (∀ w ∈ u_ws q.1 q.2.1 q.2.2, w ∈ AW) ∧ ∃ ty0 : Nat → FieldType, (∀ k, k < q.2.2 → parseFieldDescriptor (q.2.1 k).2.2.1 = some (ty0 k)) ∧ ∀ a, a < q.2.2 → ∀ b, b < q.2.2 → a ≠ b → (q.2.1 a).2.1 ≠ (q.2.1 b).2.1 := by
  intro ci q h
  match ci, h with
  | 0, h => cases h; exact ⟨zuw0, tyX0, tyX0_ok, nmX0⟩
  | 1, h => cases h; exact ⟨zuw1, tyX1, tyX1_ok, nmX1⟩
  | 2, h => cases h; exact ⟨zuw2, tyX2, tyX2_ok, nmX2⟩
  | 3, h => cases h; exact ⟨zuw3, tyX3, tyX3_ok, nmX3⟩
  | 4, h => cases h; exact ⟨zuw4, tyX4, tyX4_ok, nmX4⟩
  | 5, h => cases h; exact ⟨zuw5, tyX5, tyX5_ok, nmX5⟩
  | 6, h => cases h; exact ⟨zuw6, tyX6, tyX6_ok, nmX6⟩
  | 7, h => cases h; exact ⟨zuw7, tyX7, tyX7_ok, nmX7⟩
  | 8, h => cases h; exact ⟨zuw8, tyX8, tyX8_ok, nmX8⟩
  | 9, h => cases h; exact ⟨zuw9, tyX9, tyX9_ok, nmX9⟩
  | 10, h => cases h; exact ⟨zuw10, tyX10, tyX10_ok, nmX10⟩
  | 11, h => cases h; exact ⟨zuw11, tyX11, tyX11_ok, nmX11⟩
  | 12, h => cases h; exact ⟨zuw12, tyX12, tyX12_ok, nmX12⟩
  | _ + 13, h => simp [vwCl] at h
def kindOK (ds : String) (t : Nat) : Bool := match t with
  | 0 => decide (parseFieldDescriptor ds = some .int)
  | 1 => decide (parseFieldDescriptor ds = some .boolean)
  | 2 => match parseFieldDescriptor ds with | some (.object _) => true | _ => false
  | _ => true
def okLC (c : zLC) : Bool := match c with
  | .inl _ => true
  | .inr (ci, ts) => match vwCl[ci]? with
    | some q => Nat.beq ts.length q.2.2 && (List.range ts.length).all (fun j => kindOK (q.2.1 j).2.2.1 (ts.getD j 9))
    | none => false
theorem zlay_all : zlay.all okLC = true := by decide +kernel
theorem lay_ok {k ci : Nat} {ts : List Nat} (h : zlay[k]? = some (.inr (ci, ts))) : ∃ q : vw_C, vwCl[ci]? = some q ∧ ts.length = q.2.2 ∧ ∀ (j t : Nat), ts[j]? = some t → kindOK (q.2.1 j).2.2.1 t = true := by
  have h1 := List.all_eq_true.mp zlay_all _ (List.mem_of_getElem? h)
  unfold okLC at h1
  simp only at h1
  split at h1
  · rename_i q hq
    rw [Bool.and_eq_true] at h1
    refine ⟨q, hq, Nat.eq_of_beq_eq_true h1.1, fun j t ht => ?_⟩
    have hj : j < ts.length := (List.getElem?_eq_some_iff.mp ht).1
    have h2 := List.all_eq_true.mp h1.2 j (List.mem_range.mpr hj)
    rw [List.getD_eq_getElem?_getD, ht] at h2
    exact h2
  · cases h1
theorem zspl {P Q : Bool} (h : (P && Q) = true) : P = true ∧ Q = true := by rwa [Bool.and_eq_true] at h
theorem zde {P : Prop} [Decidable P] (h : decide P = true) : P := of_decide_eq_true h
theorem zbe {a b : Nat} (h : Nat.beq a b = true) : a = b := Nat.eq_of_beq_eq_true h
theorem zsw_tab {x : Int32} {f : Nat → Prop} {dd pc : Nat} : ∀ (offs : List Int) (lo : Int) (sw : List (Int32 × Nat)), okTs pc lo offs sw = true → zsw x sw f dd →
    (∃ (i : Nat) (o : Int) (t : Nat), offs[i]? = some o ∧ x.toInt = lo + i ∧ (pc : Int) + o = (t : Int) ∧ f t) ∨ ((x.toInt < lo ∨ lo + offs.length ≤ x.toInt) ∧ f dd)
  | [], lo, [], _, h => Or.inr ⟨by simp; omega, h⟩
  | [], lo, z :: s, h1, _ => by simp [okTs] at h1
  | o :: r, lo, [], h1, _ => by simp [okTs] at h1
  | o :: r, lo, z :: s, h1, h => by
    unfold okTs at h1
    obtain ⟨h2, h3⟩ := zspl h1
    obtain ⟨h4, h5⟩ := zspl h2
    have e4 := zde h4
    have e5 := zde h5
    by_cases hx : x = z.1
    · exact Or.inl ⟨0, o, z.2, rfl, by rw [hx, e4]; simp, e5, zif_t h hx⟩
    · rcases zsw_tab r (lo + 1) s h3 (zif_f h hx) with ⟨i, o', t, q1, q2, q3, q4⟩ | ⟨q1, q2⟩
      · exact Or.inl ⟨i + 1, o', t, by simpa using q1, by rw [q2]; simp; omega, q3, q4⟩
      · refine Or.inr ⟨?_, q2⟩
        have hne : x.toInt ≠ lo := fun e => hx (Int32.toInt_inj.mp (by rw [e4]; exact e))
        simp only [List.length_cons]
        omega
theorem zsw_lk {x : Int32} {f : Nat → Prop} {dd pc : Nat} {df : Int} (hd : (pc : Int) + df = (dd : Int)) : ∀ (ps : List (Int × Int)) (sw : List (Int32 × Nat)), okSw pc ps sw = true → zsw x sw f dd →
    ∃ t : Nat, (pc : Int) + Op.lookupswitch.offset ps df x.toInt = (t : Int) ∧ f t
  | [], [], _, h => ⟨dd, by rw [Op.lookupswitch.offset_nil]; exact hd, h⟩
  | [], z :: s, h1, _ => by simp [okSw] at h1
  | o :: r, [], h1, _ => by simp [okSw] at h1
  | (a, o) :: r, z :: s, h1, h => by
    unfold okSw at h1
    obtain ⟨h2, h3⟩ := zspl h1
    obtain ⟨h4, h5⟩ := zspl h2
    have e4 := zde h4
    have e5 := zde h5
    by_cases hx : x = z.1
    · exact ⟨z.2, by rw [Op.lookupswitch.offset_cons, if_pos (by rw [hx]; exact e4.symm)]; exact e5, zif_t h hx⟩
    · obtain ⟨t, q1, q2⟩ := zsw_lk hd r s h3 (zif_f h hx)
      exact ⟨t, by rw [lv_osw hx e4]; exact q1, q2⟩
section FR
variable {G : zGT} {M : zMD} {d : Nat} {Φ : zAV → zMem → Prop}
/-- a call's end: what comes back is on the stack, the world is the callee's -/
theorem zback {p : Program} {e : Env} {R : Room} {s : State} {m : MethodId} {args : Array Value} {below : List Frame} {meth : Method} {c : Code} {cells slots : Nat} {Q : State → Prop} {H : Heap} {locs : List Loc} {ls : Array Slot} {pc : Nat} {st0 : List Value} {rest : List zAV} {ret : Option FieldType} {Ψ : zAV → zMem → Prop} {aa : Array Value}
    (hr : va_Run p (gl G) e R s m args below meth c H locs cells slots 0 0 (F0 m pc ls st0) (rest.map (toV (gq G))) (Qm G ret Ψ aa) (AA G)) (hS : va_S (AA G) s.heap H locs)
    (kk : ∀ (r : zAV) (σ' : zMem) (H1 : Heap) (locs1 : List Loc), Ψ r σ' → va_P (gD G) vwCl (wd G σ') H1 → va_S (AA G) s.heap H1 locs1 → W p (gl G) e R s m args below meth c H1 locs1 cells slots Q (F0 m (pc + 3) ls ((rvO (gq G) ret r).toList ++ rest.map (toV (gq G))))) :
    W p (gl G) e R s m args below meth c H locs cells slots Q (F0 m pc ls st0) := by
  intro T hT X
  obtain ⟨v, st₀, t, T', L, h0, X', hL, e1, e2, ⟨⟨r, σ', hΨ, hv, hP⟩, hz, hk⟩, st⟩ := hr T hT X
  cases hv
  rw [h0] at hz hk
  obtain ⟨t2, a1, b1⟩ := kk r σ' T'.heap (locs ++ L) hΨ (by rw [e1]; exact hP)
    ⟨Nat.le_trans hS.1 (by rw [e1]; exact hz), fun q h1 h2 => by rw [e1, hk q (Nat.lt_of_lt_of_le h1 hS.1) h2]; exact hS.2.1 q h1 h2, fun q hq => by
      rcases List.mem_append.mp hq with h | h
      · exact hS.2.2 q h
      · exact hL q h⟩ T' rfl X'
  exact ⟨t2, st t2 a1, b1⟩
theorem zcall_el {Y : zYD} {as : List zAV} {σ : zMem} {f : List zAV → zMem → Prop} (h : zcall G d Y as σ f) : ∃ d', d = d' + 1 ∧ ∃ Ψ : zAV → zMem → Prop, CTx G d' Y as σ Ψ ∧ ∀ r σ', Ψ r σ' → ∃ w : List zAV, (rvO (gq G) Y.2.2.2.1 r).toList = w.map (toV (gq G)) ∧ f w σ' := by
  obtain ⟨y, cc, mL, ret, n, is⟩ := Y
  match d, h with
  | 0, h => exact h.elim
  | d' + 1, h =>
    refine ⟨d', rfl, ?_⟩
    cases ret with
    | none => exact ⟨_, h, fun r σ' hr => ⟨[], rfl, hr⟩⟩
    | some ty =>
      have key : ∀ (h : CTI G d' (y, cc, mL, some ty, n, is) as σ (fun x σ' => f [.inl x] σ')), ∃ Ψ : zAV → zMem → Prop, CTx G d' (y, cc, mL, some ty, n, is) as σ Ψ ∧ ∀ r σ', Ψ r σ' → ∃ w : List zAV, (rvO (gq G) (some ty) r).toList = w.map (toV (gq G)) ∧ f w σ' := by
        intro h
        refine ⟨_, h, fun r σ' hr => ?_⟩
        rcases r with x | x | x
        · exact ⟨[.inl x], rfl, hr⟩
        · exact hr.elim
        · exact hr.elim
      cases ty with
      | object n =>
        refine ⟨_, h, fun r σ' hr => ?_⟩
        rcases r with x | x | x
        · exact hr.elim
        · exact hr.elim
        · exact ⟨[.inr (.inr x)], rfl, hr⟩
      | _ => exact key h
theorem zblind {G : zGT} {av : List Value} {σ : zMem} : FrameBlind (va_Pc av (Wl G σ)) := fun a U g mk q => ⟨q.1, q.2.1, q.2.2.same rfl rfl⟩
end FR
