abbrev zAV : Type := Int32 ⊕ (Int64 ⊕ Nat)
abbrev zMem : Type := Nat → Nat → Int32
abbrev zYD : Type := MethodName × ByteArray × Nat × Option FieldType × Nat × List Nat
abbrev zTE : Type := Nat × Instr × Nat × Nat × Nat × Nat × Int32 × zYD × List (Int32 × Nat)
abbrev zMD : Type := zYD × List zTE
abbrev zLC : Type := (Bool × Nat) ⊕ (Nat × List Nat)
abbrev zGT : Type := va_G × (Nat → Nat) × ClassId × ClassId × Nat × (Nat → Int32) × Launch
abbrev gD (G : zGT) : va_G := G.1
abbrev gq (G : zGT) : Nat → Nat := G.2.1
abbrev gI (G : zGT) : ClassId := G.2.2.1
abbrev gB (G : zGT) : ClassId := G.2.2.2.1
abbrev gL (G : zGT) : Nat := G.2.2.2.2.1
abbrev gX (G : zGT) : Nat → Int32 := G.2.2.2.2.2.1
abbrev gl (G : zGT) : Launch := G.2.2.2.2.2.2
/-- the cells of the class and of the reference, in the order in which the constructors make them -/
def zlay : List zLC := [.inr (11, [4, 17, 23, 30, 37, 43, 49, 51, 58, 67, 72, 73, 74, 0, 0, 0, 0, 0]), .inr (1, [5, 6, 7, 8, 9, 13, 0]), .inl (false, 24), .inl (false, 24), .inl (false, 24), .inl (false, 24), .inr (3, [10, 11, 12]), .inl (false, 216), .inl (false, 216), .inl (false, 24), .inr (3, [14, 15, 16]), .inl (false, 216), .inl (false, 216), .inl (false, 24), .inr (0, [18, 19, 20, 21, 22, 0, 0]), .inl (false, 16), .inl (false, 16), .inl (false, 16), .inl (false, 16), .inl (false, 16), .inr (10, [4, 17, 0, 24, 25, 26, 27, 28, 29, 0, 0, 1]), .inl (false, 24), .inl (false, 24), .inl (false, 24), .inl (false, 24), .inl (false, 6), .inl (false, 2400), .inr (10, [4, 17, 0, 31, 32, 33, 34, 35, 36, 0, 0, 1]), .inl (false, 24), .inl (false, 24), .inl (false, 24), .inl (false, 24), .inl (false, 6), .inl (false, 2400), .inr (5, [38, 39, 40, 41, 42]), .inl (false, 24), .inl (false, 24), .inl (false, 6), .inl (false, 6), .inl (false, 6), .inr (5, [44, 45, 46, 47, 48]), .inl (false, 24), .inl (false, 24), .inl (false, 6), .inl (false, 6), .inl (false, 6), .inr (9, [50, 0, 0]), .inl (true, 96), .inr (6, [49, 52, 55, 2, 2, 0]), .inr (4, [53, 54, 0]), .inl (false, 96), .inl (false, 96), .inr (4, [56, 57, 0]), .inl (false, 96), .inl (false, 96), .inr (2, [4, 37, 59, 62, 65, 66, 0, 0]), .inr (4, [60, 61, 0]), .inl (false, 96), .inl (false, 96), .inr (4, [63, 64, 0]), .inl (false, 96), .inl (false, 96), .inr (8, [0, 0, 0, 0, 0, 0, 0]), .inl (false, 26), .inr (7, [58, 68, 69, 70, 71, 0, 1, 0, 0, 0]), .inl (false, 10), .inl (false, 10), .inr (8, [0, 0, 0, 0, 0, 0, 0]), .inr (8, [0, 0, 0, 0, 0, 0, 0]), .inl (false, 200), .inl (true, 48), .inl (false, 2), .inr (12, [0, 0, 0, 76, 77, 78, 79, 80, 0, 81, 82, 83, 84, 85, 86, 87, 88, 89, 90, 91, 92, 93, 0, 0, 0, 0, 94, 95, 0, 1, 0, 96, 97, 98, 99, 100, 101, 102, 103, 0, 0, 104, 105, 106, 107, 108, 1, 0, 0, 0, 109, 110, 0, 1, 1, 0, 0, 0, 111, 112, 0, 0, 0, 113, 114, 115, 0, 0, 116]), .inl (false, 16), .inl (false, 16), .inl (false, 16), .inl (false, 16), .inl (false, 16), .inl (false, 24), .inl (false, 24), .inl (false, 24), .inl (false, 24), .inl (false, 24), .inl (false, 24), .inl (false, 24), .inl (false, 216), .inl (false, 216), .inl (false, 24), .inl (false, 216), .inl (false, 216), .inl (false, 18), .inl (false, 200), .inl (false, 96), .inl (false, 24), .inl (false, 24), .inl (false, 18), .inl (false, 2), .inl (false, 48), .inl (false, 24), .inl (false, 24), .inl (false, 6), .inl (false, 600), .inl (false, 600), .inl (false, 600), .inl (false, 600), .inl (false, 24), .inl (false, 96), .inl (false, 96), .inl (false, 96), .inl (false, 96), .inl (false, 96), .inl (false, 96), .inl (false, 10), .inl (false, 24)]
abbrev zNC : Nat := 114
def toV (q : Nat → Nat) : zAV → Value
  | .inl x => .int x
  | .inr (.inl x) => .long x
  | .inr (.inr k) => .ref (q k)
def slotV (q : Nat → Nat) (x : Int32) : Nat → Value
  | 0 => .int x
  | 1 => .int x
  | 2 => .ref (q x.toNatClampNeg)
  | r + 3 => .ref (q r)
def slotA (x : Int32) : Nat → zAV
  | 0 => .inl x
  | 1 => .inl x
  | 2 => .inr (.inr x.toNatClampNeg)
  | r + 3 => .inr (.inr r)
theorem slot_eq (q : Nat → Nat) (x : Int32) (t : Nat) : toV q (slotA x t) = slotV q x t := by
  match t with
  | 0 => rfl
  | 1 => rfl
  | 2 => rfl
  | r + 3 => rfl
def objE (q : Nat → Nat) (f : Nat → Int32) : Nat → List Nat → List Value
  | _, [] => []
  | j, t :: ts => slotV q (f j) t :: objE q f (j + 1) ts
theorem objE_len (q : Nat → Nat) (f : Nat → Int32) : ∀ (ts : List Nat) (j : Nat), (objE q f j ts).length = ts.length
  | [], _ => rfl
  | t :: ts, j => by simp [objE, objE_len q f ts (j + 1)]
theorem objE_get (q : Nat → Nat) (f : Nat → Int32) : ∀ (ts : List Nat) (j i : Nat), (objE q f j ts)[i]? = (ts[i]?).map (fun t => slotV q (f (j + i)) t)
  | [], _, _ => by simp [objE]
  | t :: ts, j, 0 => by simp [objE]
  | t :: ts, j, i + 1 => by
    simp only [objE, List.getElem?_cons_succ]
    rw [objE_get q f ts (j + 1) i, show j + 1 + i = j + (i + 1) by omega]
def cellE (G : zGT) (σ : zMem) (k : Nat) : zLC → va_E
  | .inl (b, n) => .inl (bif b then gB G else gI G, n, .inl (σ k))
  | .inr (ci, ts) => .inr (ci, objE (gq G) (σ k) 0 ts)
def wdL (G : zGT) (σ : zMem) : Nat → List zLC → va_W
  | _, [] => []
  | k, c :: cs => (gq G k, cellE G σ k c) :: wdL G σ (k + 1) cs
def wd (G : zGT) (σ : zMem) : va_W := wdL G σ 0 zlay
theorem wdL_get (G : zGT) (σ : zMem) : ∀ (cs : List zLC) (k i : Nat), (wdL G σ k cs)[i]? = (cs[i]?).map (fun c => (gq G (k + i), cellE G σ (k + i) c))
  | [], _, _ => by simp [wdL]
  | c :: cs, k, 0 => by simp [wdL]
  | c :: cs, k, i + 1 => by
    simp only [wdL, List.getElem?_cons_succ]
    rw [wdL_get G σ cs (k + 1) i, show k + 1 + i = k + (i + 1) by omega]
theorem wd_get (G : zGT) (σ : zMem) {k : Nat} {c : zLC} (h : zlay[k]? = some c) : (wd G σ)[k]? = some (gq G k, cellE G σ k c) := by
  unfold wd
  rw [wdL_get, h]
  simp
theorem zlay_len : zlay.length = zNC := by decide +kernel
theorem zlay_lt {k : Nat} {c : zLC} (h : zlay[k]? = some c) : k < zNC := by
  rw [← zlay_len]
  exact (List.getElem?_eq_some_iff.mp h).1
def zwr (σ : zMem) (k j : Nat) (v : Int32) : zMem := fun a b => if a = k ∧ b = j then v else σ a b
theorem zwr_same (σ : zMem) (k j : Nat) (v : Int32) : zwr σ k j v k j = v := by simp [zwr]
theorem zwr_cell (σ : zMem) (k j : Nat) (v : Int32) {a : Nat} (b : Nat) (h : a ≠ k) : zwr σ k j v a b = σ a b := by simp [zwr, h]
theorem zwr_slot (σ : zMem) (k j : Nat) (v : Int32) (a : Nat) {b : Nat} (h : b ≠ j) : zwr σ k j v a b = σ a b := by simp [zwr, h]
theorem zwr_row (σ : zMem) (k j : Nat) (v : Int32) : zwr σ k j v k = upd (σ k) j v := by
  funext b
  simp only [zwr, upd, true_and]
theorem wd_set {G : zGT} {σ σ' : zMem} {k : Nat} {c : zLC} {e : va_E} (h : zlay[k]? = some c) (he : cellE G σ' k c = e) (ho : ∀ a, a ≠ k → σ' a = σ a) : (wd G σ).set k (gq G k, e) = wd G σ' := by
  have cell_eq : ∀ (i : Nat) (c : zLC), i ≠ k → cellE G σ i c = cellE G σ' i c := by
    intro i c hi
    rcases c with ⟨b, n⟩ | ⟨ci, ts⟩ <;> simp [cellE, ho i hi]
  apply List.ext_getElem?
  intro i
  rw [List.getElem?_set]
  have hl : ∀ τ : zMem, (wd G τ).length = zlay.length := by
    intro τ
    have : ∀ (cs : List zLC) (k : Nat), (wdL G τ k cs).length = cs.length := by
      intro cs
      induction cs with
      | nil => intro k; rfl
      | cons c cs ih => intro k; simp [wdL, ih]
    exact this zlay 0
  have hk : k < (wd G σ).length := by rw [hl]; exact (List.getElem?_eq_some_iff.mp h).1
  by_cases hi : k = i
  · subst hi
    rw [if_pos rfl, if_pos hk, wd_get G σ' h, he]
  · rw [if_neg hi]
    unfold wd
    rw [wdL_get, wdL_get]
    cases hz : zlay[i]? with
    | none => rfl
    | some c2 =>
      simp only [Option.map_some, Nat.zero_add]
      rw [cell_eq i c2 (fun q => hi q.symm)]
def AA (G : zGT) : Nat → Prop := fun a => ∃ k, k < zNC ∧ a = gq G k
def QI (G : zGT) : Prop := ∀ i j, i < zNC → j < zNC → gq G i = gq G j → i = j
theorem wd_D {G : zGT} (hQ : QI G) (σ : zMem) : va_D (AA G) (wd G σ) := by
  have hg : ∀ (k : Nat) (p : Nat × va_E), (wd G σ)[k]? = some p → k < zNC ∧ p.1 = gq G k := by
    intro k p hp
    unfold wd at hp
    rw [wdL_get] at hp
    cases hz : zlay[k]? with
    | none => rw [hz] at hp; simp at hp
    | some c =>
      rw [hz] at hp
      simp only [Option.map_some, Nat.zero_add, Option.some.injEq] at hp
      refine ⟨zlay_lt hz, ?_⟩
      rw [← hp]
  refine ⟨fun i j p r hi hj he => ?_, fun k p hp => ?_⟩
  · obtain ⟨h1, h2⟩ := hg i p hi
    obtain ⟨h3, h4⟩ := hg j r hj
    exact hQ i j h1 h3 (by rw [← h2, ← h4]; exact he)
  · obtain ⟨h1, h2⟩ := hg k p hp
    exact ⟨k, h1, h2⟩
-- the words, the statics, the texts
def AW : List Jvm.Cond := lw_tbl.filter goodWord
theorem AW_in {i : Nat} {w : Jvm.Cond} (h : lw_tbl[i]? = some w) (g : goodWord w = true) : w ∈ AW := List.mem_filter.mpr ⟨List.mem_of_getElem? h, g⟩
def stF : List (String × String × String × zAV) := [("java/lang/String", "COMPACT_STRINGS", "Z", .inl 1)]
def ztx : List (List Int32) := [[118, 110, 116, 107, 109], [121, 99, 119, 117, 115, 113], [112, 97, 115, 115], [98, 105, 110, 100]]
def ztl : List Nat := [5, 6, 4, 4]
def zsr : List (String × Nat × String × Nat) := [("RoomsDesk$Reader", 24, "vntkm", 0), ("RoomsDesk$Reader", 47, "pass", 2), ("RoomsDesk$Reader", 64, "bind", 3), ("RoomsDesk$Reader", 65, "ycwusq", 1), ("RoomsDesk$Court", 85, "vntkm", 0), ("RoomsDesk", 319, "ycwusq", 1), ("RoomsDesk", 353, "vntkm", 0)]
def znw : List (String × Nat × MethodName × String) := [("RoomsDesk$Reader", 103, ⟨"RoomsDesk", "truth", "(Z)I"⟩, "RoomsDesk"), ("RoomsDesk$Reader", 116, ⟨"RoomsDesk", "isAmong", "(Ljava/lang/String;I)Z"⟩, "RoomsDesk")]
abbrev zky (G : zGT) : List (ClassId × FieldType) := [(gI G, .int), (gB G, .byte)]
def EnvG (G : zGT) (s : State) : Prop :=
  va_K (gD G) vwCl (zky G) s ∧ va_X (gq G 2000) (gL G) (gX G) s s.heap ∧ gq G 2000 < s.heap.size ∧ ¬ AA G (gq G 2000) ∧
  vk_S 4 ztl ztx (fun i => gq G (1000 + i)) (fun i => gq G (1100 + i)) (AA G) s s.heap ∧
  (∀ r ∈ stF, va_Z r.1 r.2.1 r.2.2.1 (toV (gq G) r.2.2.2) (AA G) s s.heap) ∧
  (∀ r ∈ zsr, vk_R r.1 r.2.1 r.2.2.1 (gq G (1000 + r.2.2.2)) s) ∧
  (∀ r ∈ znw, va_Nw (.methodLinkNest r.1 r.2.1 r.2.2.1 r.2.2.2) s) ∧ va_Zq "jdk/internal/util/Preconditions" "SIOOBE_FORMATTER" "Ljava/util/function/BiFunction;" (AA G) s s.heap
theorem EnvG.same {G : zGT} {u U : State} (h : EnvG G u) (hv : u.vm = U.vm) (hh : U.heap = u.heap) : EnvG G U := by
  obtain ⟨h1, h2, h3, h4, h5, h6, h7, h8, h9⟩ := h
  have hal : u.vm.Alike U.vm := by rw [hv]; exact Vm.Alike.refl U.vm
  refine ⟨h1.moved hal, ?_, by rw [hh]; exact h3, h4, ?_, fun r hr => ?_, fun r hr => ?_, fun r hr => ?_, ?_⟩
  · rw [hh]; exact h2.moved hal
  · rw [hh]; exact h5.moved hal
  · rw [hh]; exact (h6 r hr).moved hal
  · exact (h7 r hr).same hv.symm
  · exact (h8 r hr).same rfl hv
  · rw [hh]; exact h9.moved hal
theorem EnvG.warm {G : zGT} {s U : State} {H : Heap} {locs : List Loc} (h : EnvG G s) (hW : s.WarmedH U.vm) (hh : U.heap = H) (hS : va_S (AA G) s.heap H locs) : EnvG G U := by
  obtain ⟨h1, h2, h3, h4, h5, h6, h7, h8, h9⟩ := h
  have hal := hW.alike
  have kq := hS.2.1
  refine ⟨h1.moved hal, ?_, ?_, h4, ?_, fun r hr => ?_, fun r hr => ?_, fun r hr => ?_, ?_⟩
  · rw [hh]; exact (h2.moved hal).kept (kq _ h3 h4)
  · rw [hh]; exact Nat.lt_of_lt_of_le h3 hS.1
  · rw [hh]; exact (h5.moved hal).kept kq
  · rw [hh]; exact ((h6 r hr).moved hal).kept kq
  · exact (h7 r hr).warm hW
  · exact (h8 r hr).warmM hW
  · rw [hh]; exact (h9.moved hal).kept kq
