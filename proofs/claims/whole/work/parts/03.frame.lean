abbrev zlv : Type := List (Option zAV)
def rmD (d : Nat) : Room := { frames := d, cells := 0, slots := 0, locals := 40 * d }
def rvO (q : Nat → Nat) : Option FieldType → zAV → Option Value
  | none, _ => none
  | some _, r => some (toV q r)
def Qm (G : zGT) (ret : Option FieldType) (Φ : zAV → zMem → Prop) : Array Value → State → Outcome → State → Prop := fun _ st o t =>
  (∃ (r : zAV) (σ' : zMem), Φ r σ' ∧ o = .returned (rvO (gq G) ret r) ∧ va_P (gD G) vwCl (wd G σ') t.heap) ∧ va_F (AA G) st t
def Wl (G : zGT) (σ : zMem) (U : State) : Prop := va_P (gD G) vwCl (wd G σ) U.heap ∧ EnvG G U
/-- a method, called with as on the memory σ, returns what Φ says -/
def CTx (G : zGT) (d : Nat) (Y : zYD) (as : List zAV) (σ : zMem) (Φ : zAV → zMem → Prop) : Prop :=
  QI G → Met (gl G) Y.1 (.code Y.1 Y.2.1 Y.2.2.1 Y.2.2.2.1 :: AW) (rmD d) (va_Pc (as.map (toV (gq G))) (Wl G σ)) (Qm G Y.2.2.2.1 Φ) 0 0 (AA G)
def RI (Φ : Int32 → zMem → Prop) : zAV → zMem → Prop := fun r σ => match r with | .inl x => Φ x σ | _ => False
def RR (Φ : Nat → zMem → Prop) : zAV → zMem → Prop := fun r σ => match r with | .inr (.inr k) => Φ k σ | _ => False
def RV (Φ : zMem → Prop) : zAV → zMem → Prop := fun _ σ => Φ σ
abbrev CTI (G : zGT) (d : Nat) (Y : zYD) (as : List zAV) (σ : zMem) (Φ : Int32 → zMem → Prop) : Prop := CTx G d Y as σ (RI Φ)
abbrev CTR (G : zGT) (d : Nat) (Y : zYD) (as : List zAV) (σ : zMem) (Φ : Nat → zMem → Prop) : Prop := CTx G d Y as σ (RR Φ)
abbrev CTV (G : zGT) (d : Nat) (Y : zYD) (as : List zAV) (σ : zMem) (Φ : zMem → Prop) : Prop := CTx G d Y as σ (RV Φ)
-- locals
def zll (q : Nat → Nat) : Nat → zlv → List (Nat × Value)
  | _, [] => []
  | i, none :: r => zll q (i + 1) r
  | i, some v :: r => (i, toV q v) :: zll q (i + 1) r
theorem zll_mem (q : Nat → Nat) : ∀ (lv : zlv) (i : Nat) (x : Nat × Value), x ∈ zll q i lv ↔ ∃ k v, x.1 = i + k ∧ lv[k]? = some (some v) ∧ x.2 = toV q v
  | [], i, x => by simp [zll]
  | none :: r, i, x => by
    rw [zll, zll_mem q r (i + 1) x]
    constructor
    · rintro ⟨k, v, h1, h2, h3⟩
      exact ⟨k + 1, v, by omega, by simpa using h2, h3⟩
    · rintro ⟨k, v, h1, h2, h3⟩
      match k, h2 with
      | 0, h2 => simp at h2
      | k + 1, h2 => exact ⟨k, v, by omega, by simpa using h2, h3⟩
  | some w :: r, i, x => by
    rw [zll, List.mem_cons, zll_mem q r (i + 1) x]
    constructor
    · rintro (h | ⟨k, v, h1, h2, h3⟩)
      · exact ⟨0, w, by rw [h]; rfl, by simp, by rw [h]⟩
      · exact ⟨k + 1, v, by omega, by simpa using h2, h3⟩
    · rintro ⟨k, v, h1, h2, h3⟩
      match k, h2 with
      | 0, h2 =>
        simp only [List.getElem?_cons_zero, Option.some.injEq] at h2
        left
        obtain ⟨a, b⟩ := x
        simp only at h1 h3
        rw [h1, h3, h2]; rfl
      | k + 1, h2 => exact Or.inr ⟨k, v, by omega, by simpa using h2, h3⟩
def zlh (q : Nat → Nat) (ls : Array Slot) (nL : Nat) (lv : zlv) : Prop := lv_has ls nL (zll q 0 lv) ∧ lv.length = nL
theorem zlh_at {q : Nat → Nat} {ls : Array Slot} {nL : Nat} {lv : zlv} (h : zlh q ls nL lv) {i : Nat} {v : zAV} (hv : lv[i]? = some (some v)) : ls[i]? = some (.val (toV q v)) :=
  h.1.2.2 (i, toV q v) ((zll_mem q lv 0 _).mpr ⟨i, v, by simp, hv, rfl⟩)
def zisL : zAV → Bool
  | .inr (.inl _) => true
  | _ => false
def zpok (lv : zlv) : Nat → Bool
  | 0 => true
  | j + 1 => match lv[j]? with
    | some (some v) => !(zisL v)
    | _ => true
def zput (lv : zlv) (i : Nat) (v : zAV) : Option zlv := bif Nat.blt i lv.length && zpok lv i then some (lv.set i (some v)) else none
def zputL (lv : zlv) (i : Nat) (v : zAV) : Option zlv := bif Nat.blt (i + 1) lv.length && zpok lv i then some ((lv.set i (some v)).set (i + 1) none) else none
theorem cat_of (q : Nat → Nat) (v : zAV) : (toV q v).category = if zisL v then 2 else 1 := by
  rcases v with x | x | x <;> simp [toV, Value.category, zisL]
theorem zput_has {q : Nat → Nat} {lv lv' : zlv} {i nL : Nat} {v : zAV} {ls ls' : Array Slot} (h : zlh q ls nL lv) (hp : zput lv i v = some lv')
    (h' : lv_has ls' nL ((i, toV q v) :: (zll q 0 lv).filter (fun x => !(x.1 == i) && !(x.1 + 1 == i && x.2.category == 2)))) : zlh q ls' nL lv' ∧ i < nL := by
  unfold zput at hp
  cases hb : Nat.blt i lv.length && zpok lv i with
  | false => rw [hb] at hp; simp at hp
  | true =>
    rw [hb] at hp
    simp only [cond_true, Option.some.injEq] at hp
    subst hp
    rw [Bool.and_eq_true] at hb
    have hi : i < lv.length := Nat.blt_eq.mp hb.1
    refine ⟨⟨⟨h'.1, h'.2.1, fun x hx => ?_⟩, by rw [List.length_set]; exact h.2⟩, by rw [← h.2]; exact hi⟩
    obtain ⟨k, w, h1, h2, h3⟩ := (zll_mem q _ 0 x).mp hx
    rw [List.getElem?_set] at h2
    by_cases e : i = k
    · rw [if_pos e, if_pos hi] at h2
      simp only [Option.some.injEq] at h2
      refine h'.2.2 x (List.mem_cons.mpr (Or.inl ?_))
      obtain ⟨a, b⟩ := x
      simp only at h1 h3
      rw [h1, h3, ← h2, e]; simp
    · rw [if_neg e] at h2
      refine h'.2.2 x (List.mem_cons.mpr (Or.inr (List.mem_filter.mpr ⟨(zll_mem q lv 0 x).mpr ⟨k, w, h1, h2, h3⟩, ?_⟩)))
      have e1 : x.1 = k := by omega
      rw [e1, h3, cat_of]
      have : (k == i) = false := by simp; exact fun z => e z.symm
      rw [this]
      cases hk : (k + 1 == i) with
      | false => simp
      | true =>
        have hk2 : k + 1 = i := by simpa using hk
        subst hk2
        have hz := hb.2
        rw [zpok, h2] at hz
        simp only at hz
        simp at hz
        simp [hz]
theorem zputL_has {q : Nat → Nat} {lv lv' : zlv} {i nL : Nat} {v : zAV} {ls ls' : Array Slot} (h : zlh q ls nL lv) (hp : zputL lv i v = some lv')
    (h' : lv_has ls' nL ((i, toV q v) :: (zll q 0 lv).filter (fun x => !(x.1 == i) && (!(x.1 == i + 1) && !(x.1 + 1 == i && x.2.category == 2))))) : zlh q ls' nL lv' ∧ i + 1 < nL := by
  unfold zputL at hp
  cases hb : Nat.blt (i + 1) lv.length && zpok lv i with
  | false => rw [hb] at hp; simp at hp
  | true =>
    rw [hb] at hp
    simp only [cond_true, Option.some.injEq] at hp
    subst hp
    rw [Bool.and_eq_true] at hb
    have hi : i + 1 < lv.length := Nat.blt_eq.mp hb.1
    refine ⟨⟨⟨h'.1, h'.2.1, fun x hx => ?_⟩, by rw [List.length_set, List.length_set]; exact h.2⟩, by rw [← h.2]; exact hi⟩
    obtain ⟨k, w, h1, h2, h3⟩ := (zll_mem q _ 0 x).mp hx
    rw [List.getElem?_set, List.length_set] at h2
    by_cases e0 : i + 1 = k
    · rw [if_pos e0, if_pos hi] at h2
      simp at h2
    rw [if_neg e0, List.getElem?_set] at h2
    by_cases e : i = k
    · rw [if_pos e, if_pos (by omega)] at h2
      simp only [Option.some.injEq] at h2
      refine h'.2.2 x (List.mem_cons.mpr (Or.inl ?_))
      obtain ⟨a, b⟩ := x
      simp only at h1 h3
      rw [h1, h3, ← h2, e]; simp
    · rw [if_neg e] at h2
      refine h'.2.2 x (List.mem_cons.mpr (Or.inr (List.mem_filter.mpr ⟨(zll_mem q lv 0 x).mpr ⟨k, w, h1, h2, h3⟩, ?_⟩)))
      have e1 : x.1 = k := by omega
      rw [e1, h3, cat_of]
      have t1 : (k == i) = false := by simp; exact fun z => e z.symm
      have t2 : (k == i + 1) = false := by simp; exact fun z => e0 z.symm
      rw [t1, t2]
      cases hk : (k + 1 == i) with
      | false => simp
      | true =>
        have hk2 : k + 1 = i := by simpa using hk
        subst hk2
        have hz := hb.2
        rw [zpok, h2] at hz
        simp only at hz
        simp at hz
        simp [hz]
/-- known locals that are wanted no more are forgotten -/
def zmk : List Bool → zlv → zlv
  | [], lv => lv.map (fun _ => none)
  | _, [] => []
  | b :: bs, v :: vs => (bif b then v else none) :: zmk bs vs
theorem zmk_len : ∀ (bs : List Bool) (lv : zlv), (zmk bs lv).length = lv.length
  | [], lv => by simp [zmk]
  | b :: bs, [] => by simp [zmk]
  | b :: bs, v :: vs => by simp [zmk, zmk_len bs vs]
theorem zmk_get : ∀ (bs : List Bool) (lv : zlv) (i : Nat) (v : zAV), (zmk bs lv)[i]? = some (some v) → lv[i]? = some (some v)
  | [], lv, i, v, h => by
    simp only [zmk, List.getElem?_map] at h
    cases hz : lv[i]? with
    | none => rw [hz] at h; simp at h
    | some w => rw [hz] at h; simp at h
  | b :: bs, [], i, v, h => by simp [zmk] at h
  | b :: bs, w :: vs, 0, v, h => by
    cases b <;> simp [zmk] at h ⊢
    exact h
  | b :: bs, w :: vs, i + 1, v, h => by
    simp only [zmk, List.getElem?_cons_succ] at h ⊢
    exact zmk_get bs vs i v h
theorem zmk_has {q : Nat → Nat} {ls : Array Slot} {nL : Nat} {lv : zlv} (bs : List Bool) (h : zlh q ls nL lv) : zlh q ls nL (zmk bs lv) := by
  refine ⟨⟨h.1.1, h.1.2.1, fun x hx => ?_⟩, by rw [zmk_len]; exact h.2⟩
  obtain ⟨k, v, h1, h2, h3⟩ := (zll_mem q _ 0 x).mp hx
  exact h.1.2.2 x ((zll_mem q _ 0 x).mpr ⟨k, v, h1, zmk_get bs lv k v h2, h3⟩)
-- a frame
def retOK : Option FieldType → zAV → Prop
  | none, _ => True
  | some .int, r => ∃ x : Int32, r = .inl x
  | some .boolean, r => ∃ x : Int32, r = .inl x ∧ (x = 0 ∨ x = 1)
  | some (.object _), r => ∃ k : Nat, r = .inr (.inr k)
  | some ty, r => ∃ x : Int32, r = .inl x ∧ narrow ty (.int x) = .int x
def retI : Option FieldType → Instr
  | none => .return_
  | some (.object _) => .areturn
  | some _ => .ireturn
def retSt (q : Nat → Nat) : Option FieldType → zAV → List Value
  | none, _ => []
  | some _, r => [toV q r]
def FCx (G : zGT) (M : zMD) (d : Nat) (Φ : zAV → zMem → Prop) (p : Program) (e : Env) (R : Room) (s : State) (m : MethodId) (args : Array Value) (below : List Frame) (meth : Method) (c : Code) (cells slots : Nat) (Q : State → Prop) : Prop :=
  (p.tables.exec = Jvm.exec ∧ c.code = M.1.2.1 ∧ c.maxLocals = M.1.2.2.1 ∧ s.vm.findClass M.1.1.cls = some m.cls ∧ ∀ w ∈ AW, w.before args s = true) ∧ EnvG G s ∧ QI G ∧
  (d ≤ R.frames ∧ 40 * d ≤ R.locals ∧ cells ≤ R.cells ∧ slots ≤ R.slots) ∧
  ∀ (r : zAV) (σ : zMem) (pc : Nat) (ls : Array Slot) (H : Heap) (locs : List Loc), Φ r σ → retOK M.1.2.2.2.1 r → decode M.1.2.1 pc = .ok (retI M.1.2.2.2.1, 1) →
    va_P (gD G) vwCl (wd G σ) H → va_S (AA G) s.heap H locs → W p (gl G) e R s m args below meth c H locs cells slots Q (F0 m pc ls (retSt (gq G) M.1.2.2.2.1 r))
/-- the frame of the method M at pc, with these locals and this stack on the memory σ, comes to an end that Φ allows -/
def WJ (G : zGT) (M : zMD) (d : Nat) (Φ : zAV → zMem → Prop) (pc : Nat) (lv : zlv) (st : List zAV) (σ : zMem) : Prop :=
  ∀ (p : Program) (e : Env) (R : Room) (s : State) (m : MethodId) (args : Array Value) (below : List Frame) (meth : Method) (c : Code) (cells slots : Nat) (Q : State → Prop),
    FCx G M d Φ p e R s m args below meth c cells slots Q → ∀ (H : Heap) (locs : List Loc) (ls : Array Slot),
    va_P (gD G) vwCl (wd G σ) H → va_S (AA G) s.heap H locs → zlh (gq G) ls M.1.2.2.1 lv →
    W p (gl G) e R s m args below meth c H locs cells slots Q (F0 m pc ls (st.map (toV (gq G))))
theorem WJ_mask {G : zGT} {M : zMD} {d : Nat} {Φ : zAV → zMem → Prop} {pc : Nat} {lv : zlv} {st : List zAV} {σ : zMem} (bs : List Bool) (h : WJ G M d Φ pc (zmk bs lv) st σ) : WJ G M d Φ pc lv st σ :=
  fun p e R s m args below meth c cells slots Q F H locs ls hP hS hL => h p e R s m args below meth c cells slots Q F H locs ls hP hS (zmk_has bs hL)
def zen : List zAV → zlv
  | [] => []
  | v :: vs => match v with
    | .inr (.inl x) => some (.inr (.inl x)) :: none :: zen vs
    | v => some v :: zen vs
theorem zen_pick (q : Nat → Nat) : ∀ (vs : List zAV) (i : Nat) (k : Nat) (v : zAV), (zen vs)[k]? = some (some v) → (i + k, toV q v) ∈ lv_args i (vs.map (toV q))
  | [], i, k, v, h => by simp [zen] at h
  | w :: vs, i, k, v, h => by
    have nl : ∀ (w : zAV), zisL w = false → zen (w :: vs) = some w :: zen vs := by
      intro w hw
      rcases w with x | x | x
      · rfl
      · simp [zisL] at hw
      · rfl
    cases hw : zisL w with
    | false =>
      rw [nl w hw] at h
      have hc : (toV q w).category = 1 := by rw [cat_of, hw]; rfl
      simp only [List.map_cons, lv_args]
      rw [if_neg (by rw [hc]; decide)]
      match k, h with
      | 0, h =>
        simp only [List.getElem?_cons_zero, Option.some.injEq] at h
        rw [h]; exact List.mem_cons_self
      | k + 1, h =>
        rw [show i + (k + 1) = i + 1 + k by omega]
        exact List.mem_cons_of_mem _ (zen_pick q vs (i + 1) k v (by simpa using h))
    | true =>
      rcases w with x | x | x
      · simp [zisL] at hw
      · simp only [zen] at h
        simp only [List.map_cons, lv_args]
        rw [if_pos (by simp [toV, Value.category])]
        match k, h with
        | 0, h =>
          simp only [List.getElem?_cons_zero, Option.some.injEq] at h
          rw [← h]; exact List.mem_cons_self
        | 1, h => simp at h
        | k + 2, h =>
          rw [show i + (k + 2) = i + 2 + k by omega]
          exact List.mem_cons_of_mem _ (zen_pick q vs (i + 2) k v (by simpa using h))
      · simp [zisL] at hw
theorem zen_len (q : Nat → Nat) : ∀ (vs : List zAV), (zen vs).length = (lg_sl (vs.map (toV q))).length
  | [] => rfl
  | w :: vs => by
    have ih := zen_len q vs
    unfold lg_sl at ih ⊢
    rcases w with x | x | x <;> simp [zen, toV, Value.category, ih]
theorem zpad_get (a : zlv) (n i : Nat) (v : zAV) (h : (a ++ List.replicate n none)[i]? = some (some v)) : a[i]? = some (some v) := by
  by_cases hi : i < a.length
  · rwa [List.getElem?_append_left hi] at h
  · rw [List.getElem?_append_right (by omega), List.getElem?_replicate] at h
    split at h <;> simp at h
/-- a method's contract out of its walk -/
theorem CT_of {G : zGT} {d : Nat} {M : zMD} {as : List zAV} {σ : zMem} {Φ : zAV → zMem → Prop} (hy : plainName M.1.1.cls = true) (hn : (zen as).length ≤ M.1.2.2.1)
    (hr : M.1.2.2.2.1 = none ∨ M.1.2.2.2.1 = some .int ∨ M.1.2.2.2.1 = some .boolean ∨ M.1.2.2.2.1 = some .char ∨ M.1.2.2.2.1 = some .byte ∨ ∃ n, M.1.2.2.2.1 = some (.object n))
    (h : WJ G M d Φ 0 (zen as ++ List.replicate (M.1.2.2.1 - (zen as).length) none) [] σ) : CTx G d M.1 as σ Φ := by
  intro hQ
  refine Met.ofW (cc := M.1.2.1) (maxL := M.1.2.2.1) (ret := M.1.2.2.2.1) hy rfl ?_
  intro p e s m args below meth c s₁ B hml hv
  obtain ⟨rfl, hP, hE⟩ := hv
  have hts := atoms_spec (ws := (.code M.1.1 M.1.2.1 M.1.2.2.1 M.1.2.2.2.1 :: AW)) B.pre
  have hlocks := B.notSynchronized
  have hret := B.returns
  rw [lg_entry_eq]
  have hL0 := lv_entry (as.map (toV (gq G))) (n := M.1.2.2.1) (by rw [← zen_len]; exact hn)
  have hL : zlh (gq G) ((lg_sl (as.map (toV (gq G))) ++ List.replicate (M.1.2.2.1 - (lg_sl (as.map (toV (gq G)))).length) Slot.unset).toArray) M.1.2.2.1 (zen as ++ List.replicate (M.1.2.2.1 - (zen as).length) none) := by
    refine ⟨⟨hL0.1, hL0.2.1, fun x hx => ?_⟩, by simp; omega⟩
    obtain ⟨k, v, h1, h2, h3⟩ := (zll_mem _ _ 0 x).mp hx
    refine hL0.2.2 x ?_
    have := zen_pick (gq G) as 0 k v (zpad_get _ _ _ _ h2)
    obtain ⟨a, b⟩ := x
    simp only at h1 h3
    rw [h1, h3]
    exact this
  refine h p e (rmD d) s m _ below meth c 0 0 _ ⟨⟨B.exec, B.bytes, hml, findClass_of_methodNamed B.named, fun w hw => hts w (List.mem_cons_of_mem _ hw)⟩, hE, hQ, ⟨Nat.le_refl _, Nat.le_refl _, Nat.le_refl _, Nat.le_refl _⟩, ?_⟩ s.heap [] _ hP va_S.rf hL
  intro r σ' pc ls H locs hΦ hok hd hP' hS'
  have hfin : ∀ t : State, t.heap = H → s.WarmedH t.vm → Qm G M.1.2.2.2.1 Φ (as.map (toV (gq G))).toArray s (.returned (rvO (gq G) M.1.2.2.2.1 r)) t :=
    fun t ht _ => ⟨⟨r, σ', hΦ, rfl, by rw [ht]; exact hP'⟩, hS'.F ht⟩
  obtain ⟨Y, tb⟩ := M
  obtain ⟨y, cc, mL, ret, k⟩ := Y
  simp only at hr hok hd hret hfin ⊢
  rcases hr with rfl | rfl | rfl | rfl | rfl | ⟨n, rfl⟩
  · exact W.vret B.exec B.bytes hret hfin hS'.2.2 hd hlocks
  · obtain ⟨x, rfl⟩ := hok
    exact W.iret B.exec B.bytes hret hfin hS'.2.2 hd hlocks
  · obtain ⟨x, rfl, hx⟩ := hok
    exact W.zret B.exec B.bytes hret (by rcases hx with rfl | rfl <;> rfl) hfin hS'.2.2 hd hlocks
  · obtain ⟨x, rfl, hx⟩ := hok
    exact W.zret B.exec B.bytes hret hx hfin hS'.2.2 hd hlocks
  · obtain ⟨x, rfl, hx⟩ := hok
    exact W.zret B.exec B.bytes hret hx hfin hS'.2.2 hd hlocks
  · obtain ⟨x, rfl⟩ := hok
    exact W.aret B.exec B.bytes hret (Or.inl ⟨n, rfl⟩) (Or.inr ⟨_, rfl⟩) hfin hS'.2.2 hd hlocks
