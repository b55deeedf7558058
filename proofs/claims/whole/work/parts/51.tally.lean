-- cells that the relation does not speak of
def scr (a : Nat) : Bool := decide (a ∈ [6, 10, 34, 40, 48, 49, 50, 51, 52, 53, 54, 58, 61, 62, 63, 64, 65, 66, 67, 68, 98, 99, 100, 101, 102, 103, 104, 105, 108, 109, 110, 111, 112, 113])
def scj (j : Nat) : Bool := !decide (j ∈ [0, 1, 2, 8, 22, 23, 24, 25, 28, 29, 30, 46, 47, 48, 49])
def FR (σ σ' : zMem) : Prop := (∀ a : Nat, scr a = false → a ≠ 72 → σ' a = σ a) ∧ ∀ j : Nat, scj j = false → σ' 72 j = σ 72 j
theorem FR.refl (σ : zMem) : FR σ σ := ⟨fun _ _ _ => rfl, fun _ _ => rfl⟩
theorem FR.trans {σ σ1 σ2 : zMem} (h : FR σ σ1) (h2 : FR σ1 σ2) : FR σ σ2 := ⟨fun a b c => (h2.1 a b c).trans (h.1 a b c), fun a b => (h2.2 a b).trans (h.2 a b)⟩
theorem FR.wr {σ τ : zMem} (h : FR σ τ) {k j : Nat} {v : Int32} (hk : scr k = true ∨ k = 72 ∧ scj j = true) : FR σ (zwr τ k j v) := by
  refine ⟨fun a h1 h2 => ?_, fun i h1 => ?_⟩
  · rw [zwr_rne (by rintro rfl; rcases hk with q | q; exact absurd h1 (by rw [q]; decide); exact h2 q.1)]; exact h.1 a h1 h2
  · by_cases e : k = 72
    · subst e
      rw [zwr_req, upd_ne (by rintro rfl; rcases hk with q | q; exact absurd q (by decide); exact absurd h1 (by rw [q.2]; decide))]; exact h.2 i h1
    · rw [zwr_rne (by omega)]; exact h.2 i h1
theorem FR.of {σ τ : zMem} {L : List Nat} (h : ∀ a : Nat, ¬ a ∈ L → τ a = σ a) (hl : ∀ a ∈ L, scr a = true) : FR σ τ := by
  refine ⟨fun a h1 _ => h a (fun q => ?_), fun j _ => ?_⟩
  · rw [hl a q] at h1; exact absurd h1 (by decide)
  · rw [h 72 (fun q => absurd (hl 72 q) (by decide))]
theorem FR.rall {β σ : zMem} (h : FR β σ) (hβ : Rall β) : Rall σ := by
  have e0 : σ 0 = β 0 := h.1 0 (by decide) (by decide)
  have e1 : σ 1 = β 1 := h.1 1 (by decide) (by decide)
  have e2 : σ 2 = β 2 := h.1 2 (by decide) (by decide)
  have e3 : σ 3 = β 3 := h.1 3 (by decide) (by decide)
  have e4 : σ 4 = β 4 := h.1 4 (by decide) (by decide)
  have e5 : σ 5 = β 5 := h.1 5 (by decide) (by decide)
  have e7 : σ 7 = β 7 := h.1 7 (by decide) (by decide)
  have e8 : σ 8 = β 8 := h.1 8 (by decide) (by decide)
  have e9 : σ 9 = β 9 := h.1 9 (by decide) (by decide)
  have e11 : σ 11 = β 11 := h.1 11 (by decide) (by decide)
  have e12 : σ 12 = β 12 := h.1 12 (by decide) (by decide)
  have e13 : σ 13 = β 13 := h.1 13 (by decide) (by decide)
  have e14 : σ 14 = β 14 := h.1 14 (by decide) (by decide)
  have e15 : σ 15 = β 15 := h.1 15 (by decide) (by decide)
  have e16 : σ 16 = β 16 := h.1 16 (by decide) (by decide)
  have e17 : σ 17 = β 17 := h.1 17 (by decide) (by decide)
  have e18 : σ 18 = β 18 := h.1 18 (by decide) (by decide)
  have e19 : σ 19 = β 19 := h.1 19 (by decide) (by decide)
  have e20 : σ 20 = β 20 := h.1 20 (by decide) (by decide)
  have e21 : σ 21 = β 21 := h.1 21 (by decide) (by decide)
  have e22 : σ 22 = β 22 := h.1 22 (by decide) (by decide)
  have e23 : σ 23 = β 23 := h.1 23 (by decide) (by decide)
  have e24 : σ 24 = β 24 := h.1 24 (by decide) (by decide)
  have e25 : σ 25 = β 25 := h.1 25 (by decide) (by decide)
  have e26 : σ 26 = β 26 := h.1 26 (by decide) (by decide)
  have e27 : σ 27 = β 27 := h.1 27 (by decide) (by decide)
  have e28 : σ 28 = β 28 := h.1 28 (by decide) (by decide)
  have e29 : σ 29 = β 29 := h.1 29 (by decide) (by decide)
  have e30 : σ 30 = β 30 := h.1 30 (by decide) (by decide)
  have e31 : σ 31 = β 31 := h.1 31 (by decide) (by decide)
  have e32 : σ 32 = β 32 := h.1 32 (by decide) (by decide)
  have e33 : σ 33 = β 33 := h.1 33 (by decide) (by decide)
  have e35 : σ 35 = β 35 := h.1 35 (by decide) (by decide)
  have e36 : σ 36 = β 36 := h.1 36 (by decide) (by decide)
  have e37 : σ 37 = β 37 := h.1 37 (by decide) (by decide)
  have e38 : σ 38 = β 38 := h.1 38 (by decide) (by decide)
  have e39 : σ 39 = β 39 := h.1 39 (by decide) (by decide)
  have e41 : σ 41 = β 41 := h.1 41 (by decide) (by decide)
  have e42 : σ 42 = β 42 := h.1 42 (by decide) (by decide)
  have e43 : σ 43 = β 43 := h.1 43 (by decide) (by decide)
  have e44 : σ 44 = β 44 := h.1 44 (by decide) (by decide)
  have e45 : σ 45 = β 45 := h.1 45 (by decide) (by decide)
  have e46 : σ 46 = β 46 := h.1 46 (by decide) (by decide)
  have e47 : σ 47 = β 47 := h.1 47 (by decide) (by decide)
  have e55 : σ 55 = β 55 := h.1 55 (by decide) (by decide)
  have e56 : σ 56 = β 56 := h.1 56 (by decide) (by decide)
  have e57 : σ 57 = β 57 := h.1 57 (by decide) (by decide)
  have e59 : σ 59 = β 59 := h.1 59 (by decide) (by decide)
  have e60 : σ 60 = β 60 := h.1 60 (by decide) (by decide)
  have e69 : σ 69 = β 69 := h.1 69 (by decide) (by decide)
  have e70 : σ 70 = β 70 := h.1 70 (by decide) (by decide)
  have e71 : σ 71 = β 71 := h.1 71 (by decide) (by decide)
  have e73 : σ 73 = β 73 := h.1 73 (by decide) (by decide)
  have e74 : σ 74 = β 74 := h.1 74 (by decide) (by decide)
  have e75 : σ 75 = β 75 := h.1 75 (by decide) (by decide)
  have e76 : σ 76 = β 76 := h.1 76 (by decide) (by decide)
  have e77 : σ 77 = β 77 := h.1 77 (by decide) (by decide)
  have e78 : σ 78 = β 78 := h.1 78 (by decide) (by decide)
  have e79 : σ 79 = β 79 := h.1 79 (by decide) (by decide)
  have e80 : σ 80 = β 80 := h.1 80 (by decide) (by decide)
  have e81 : σ 81 = β 81 := h.1 81 (by decide) (by decide)
  have e82 : σ 82 = β 82 := h.1 82 (by decide) (by decide)
  have e83 : σ 83 = β 83 := h.1 83 (by decide) (by decide)
  have e84 : σ 84 = β 84 := h.1 84 (by decide) (by decide)
  have e85 : σ 85 = β 85 := h.1 85 (by decide) (by decide)
  have e86 : σ 86 = β 86 := h.1 86 (by decide) (by decide)
  have e87 : σ 87 = β 87 := h.1 87 (by decide) (by decide)
  have e88 : σ 88 = β 88 := h.1 88 (by decide) (by decide)
  have e89 : σ 89 = β 89 := h.1 89 (by decide) (by decide)
  have e90 : σ 90 = β 90 := h.1 90 (by decide) (by decide)
  have e91 : σ 91 = β 91 := h.1 91 (by decide) (by decide)
  have e92 : σ 92 = β 92 := h.1 92 (by decide) (by decide)
  have e93 : σ 93 = β 93 := h.1 93 (by decide) (by decide)
  have e94 : σ 94 = β 94 := h.1 94 (by decide) (by decide)
  have e95 : σ 95 = β 95 := h.1 95 (by decide) (by decide)
  have e96 : σ 96 = β 96 := h.1 96 (by decide) (by decide)
  have e97 : σ 97 = β 97 := h.1 97 (by decide) (by decide)
  have e106 : σ 106 = β 106 := h.1 106 (by decide) (by decide)
  have e107 : σ 107 = β 107 := h.1 107 (by decide) (by decide)
  have f0 : σ 72 0 = β 72 0 := h.2 0 (by decide)
  have f1 : σ 72 1 = β 72 1 := h.2 1 (by decide)
  have f2 : σ 72 2 = β 72 2 := h.2 2 (by decide)
  have f8 : σ 72 8 = β 72 8 := h.2 8 (by decide)
  have f22 : σ 72 22 = β 72 22 := h.2 22 (by decide)
  have f23 : σ 72 23 = β 72 23 := h.2 23 (by decide)
  have f24 : σ 72 24 = β 72 24 := h.2 24 (by decide)
  have f25 : σ 72 25 = β 72 25 := h.2 25 (by decide)
  have f28 : σ 72 28 = β 72 28 := h.2 28 (by decide)
  have f29 : σ 72 29 = β 72 29 := h.2 29 (by decide)
  have f30 : σ 72 30 = β 72 30 := h.2 30 (by decide)
  have f46 : σ 72 46 = β 72 46 := h.2 46 (by decide)
  have f47 : σ 72 47 = β 72 47 := h.2 47 (by decide)
  have f48 : σ 72 48 = β 72 48 := h.2 48 (by decide)
  have f49 : σ 72 49 = β 72 49 := h.2 49 (by decide)
  unfold Rall
  simp only [e0, e1, e2, e3, e4, e5, e7, e8, e9, e11, e12, e13, e14, e15, e16, e17, e18, e19, e20, e21, e22, e23, e24, e25, e26, e27, e28, e29, e30, e31, e32, e33, e35, e36, e37, e38, e39, e41, e42, e43, e44, e45, e46, e47, e55, e56, e57, e59, e60, e69, e70, e71, e73, e74, e75, e76, e77, e78, e79, e80, e81, e82, e83, e84, e85, e86, e87, e88, e89, e90, e91, e92, e93, e94, e95, e96, e97, e106, e107, f0, f1, f2, f8, f22, f23, f24, f25, f28, f29, f30, f46, f47, f48, f49]
  exact hβ
/-- as the base, but for cells that are not spoken of and what is told of winding up -/
def PB (β σ : zMem) : Prop := ((∀ a : Nat, scr a = false → a ≠ 72 → ¬ (20 ≤ a ∧ a ≤ 33) → σ a = β a) ∧ ∀ j : Nat, scj j = false → σ 72 j = β 72 j) ∧ Rall σ
theorem PB.refl {β : zMem} (h : Rall β) : PB β β := ⟨⟨fun _ _ _ _ => rfl, fun _ _ => rfl⟩, h⟩
theorem PB.fr {β σ σ' : zMem} (h : PB β σ) (f : FR σ σ') : PB β σ' := ⟨⟨fun a h1 h2 h3 => (f.1 a h1 h2).trans (h.1.1 a h1 h2 h3), fun j h1 => (f.2 j h1).trans (h.1.2 j h1)⟩, f.rall h.2⟩
theorem PB.mf {β σ σ' : zMem} (h : PB β σ) (f : MF σ σ') : PB β σ' := by
  refine h.fr ⟨fun a h1 h2 => f.1 a (fun q => ?_) h2, fun j h1 => f.2 j (fun q => ?_) (fun q => ?_)⟩
  · have : a = 98 ∨ a = 99 ∨ a = 100 ∨ a = 101 ∨ a = 102 ∨ a = 103 ∨ a = 104 ∨ a = 105 := by omega
    rcases this with rfl | rfl | rfl | rfl | rfl | rfl | rfl | rfl <;> exact absurd h1 (by decide)
  · subst q; exact absurd h1 (by decide)
  · subst q; exact absurd h1 (by decide)
theorem PB.wound {β σ σ' : zMem} (h : PB β σ) (h1 : Rany σ') (f : ∀ a : Nat, ¬ (20 ≤ a ∧ a ≤ 33) → σ' a = σ a) : PB β σ' :=
  ⟨⟨fun a q1 q2 q3 => (f a q3).trans (h.1.1 a q1 q2 q3), fun j q => by rw [f 72 (by decide)]; exact h.1.2 j q⟩, h1.all' h.2 f⟩
-- a tally
def tadd (k v t : Int) (T : Nat → Int) : Nat → Int := fun j => if j = 0 then (if t = 1 then T 0 + v else T 0) else if j = 1 then (if t = 2 then T 1 + v else T 1) else if j = 2 then T 2 + v else
  if j = 3 then (if t = 1 then T 3 + 1 else T 3) else if j = 4 then (if t = 2 then T 4 + 1 else T 4) else if j = 5 then T 5 + 1 else if T 5 = 0 then k else T 6
def tly (p : Nat → Bool) (kd vl vt : Nat → Int) : Nat → Nat → Int
  | 0 => fun _ => 0
  | n + 1 => if p n then tadd (kd n) (vl n) (vt n) (tly p kd vl vt n) else tly p kd vl vt n
theorem tly_s (p : Nat → Bool) (kd vl vt : Nat → Int) (n : Nat) : tly p kd vl vt (n + 1) = if p n then tadd (kd n) (vl n) (vt n) (tly p kd vl vt n) else tly p kd vl vt n := rfl
def TB (n : Nat) (T : Nat → Int) : Prop := (∀ j : Nat, j < 6 → 0 ≤ T j ∧ T j ≤ 100000 * (n : Int)) ∧ (0 ≤ T 6 ∧ T 6 ≤ 4) ∧ T 0 + T 1 ≤ T 2 ∧ T 3 + T 4 ≤ T 5 ∧ T 5 ≤ (n : Int)
theorem TB.add {n : Nat} {T : Nat → Int} {k v t : Int} (h : TB n T) (k0 : 0 ≤ k) (k1 : k ≤ 4) (v0 : 0 ≤ v) (v1 : v ≤ 100000) : TB (n + 1) (tadd k v t T) := by
  obtain ⟨a, b, c, d, e⟩ := h
  have a0 := a 0 (by omega)
  have a1 := a 1 (by omega)
  have a2 := a 2 (by omega)
  have a3 := a 3 (by omega)
  have a4 := a 4 (by omega)
  have a5 := a 5 (by omega)
  have t0 : tadd k v t T 0 = (if t = 1 then T 0 + v else T 0) := rfl
  have t1 : tadd k v t T 1 = (if t = 2 then T 1 + v else T 1) := rfl
  have t2 : tadd k v t T 2 = T 2 + v := rfl
  have t3 : tadd k v t T 3 = (if t = 1 then T 3 + 1 else T 3) := rfl
  have t4 : tadd k v t T 4 = (if t = 2 then T 4 + 1 else T 4) := rfl
  have t5 : tadd k v t T 5 = T 5 + 1 := rfl
  have t6 : tadd k v t T 6 = (if T 5 = 0 then k else T 6) := rfl
  refine ⟨fun j hj => ?_, ?_, ?_, ?_, ?_⟩
  · have j6 : j = 0 ∨ j = 1 ∨ j = 2 ∨ j = 3 ∨ j = 4 ∨ j = 5 := by omega
    rcases j6 with rfl | rfl | rfl | rfl | rfl | rfl
    · rw [t0]; split <;> omega
    · rw [t1]; split <;> omega
    · rw [t2]; omega
    · rw [t3]; split <;> omega
    · rw [t4]; split <;> omega
    · rw [t5]; omega
  · rw [t6]; split <;> omega
  · rw [t0, t1, t2]
    split <;> split <;> omega
  · rw [t3, t4, t5]
    split <;> split <;> omega
  · rw [t5]; omega
theorem TB.more {n m : Nat} {T : Nat → Int} (h : TB n T) (hm : n ≤ m) : TB m T := by
  obtain ⟨a, b, c, d, e⟩ := h
  refine ⟨fun j hj => ?_, b, c, d, by omega⟩
  have := a j hj
  omega
theorem TB.tly {p : Nat → Bool} {kd vl vt : Nat → Int} : ∀ n : Nat, (∀ i, i < n → 0 ≤ kd i ∧ kd i ≤ 4 ∧ 0 ≤ vl i ∧ vl i ≤ 100000) → TB n (tly p kd vl vt n)
  | 0, _ => ⟨fun j _ => ⟨Int.le_refl _, by show (0 : Int) ≤ _; omega⟩, ⟨Int.le_refl _, by show (0 : Int) ≤ 4; omega⟩, Int.le_refl _, Int.le_refl _, Int.le_refl _⟩
  | n + 1, h => by
    have ih := TB.tly (p := p) (kd := kd) (vl := vl) (vt := vt) n (fun i hi => h i (by omega))
    rw [tly_s]
    split
    · obtain ⟨q1, q2, q3, q4⟩ := h n (by omega)
      exact ih.add q1 q2 q3 q4
    · exact ih.more (by omega)
/-- a row shows a tally -/
def TR (f : Nat → Int32) (T : Nat → Int) : Prop := ∀ j : Nat, j < 7 → (f j).toInt = T j
def bV (β : zMem) (c : Nat) : Int := (valS (β 72 22) (β 84) (β 85) (β 86) (β 81) c).toInt
def bK (β : zMem) (c : Nat) : Int := (β 78 c).toInt
def bVt (β : zMem) (c : Nat) : Int := (β 83 c).toInt
def bIn (β : zMem) (k c : Nat) : Bool := decide (β 82 c = nI k)
theorem bV_rng {β : zMem} (h : Rall β) {c : Nat} (hc : c < bN β) : 0 ≤ bV β c ∧ bV β c ≤ 100000 := by
  have hc' := (bN_c h.any).1 hc
  obtain ⟨q1, q2, q3, q4⟩ := h.2.2.2.1.1 c hc'
  obtain ⟨r1, r2, r3, r4, r5, r6, r7, r8, r9, r10, r11, r12⟩ := h.2.2.1.1 c hc'
  have := zlo_rng (dd := β 86) (vv := β 85) (b := 9 * c) (day := β 72 22) (o := 0) (lo := 0) (hi := 100000) (by decide) ((β 84 c).toInt.toNat + 1) (fun i hi => (q4 i (by omega)).2.2)
  unfold bV valS amtS
  split
  · exact this
  · rename_i g
    rw [fa_eq, tim1] at g
    omega
theorem bT_ok {β : zMem} (h : Rall β) : ∀ i, i < bN β → 0 ≤ bK β i ∧ bK β i ≤ 4 ∧ 0 ≤ bV β i ∧ bV β i ≤ 100000 := by
  intro i hi
  have hc' := (bN_c h.any).1 hi
  obtain ⟨r1, r2, r3, r4, r5, r6, r7, r8, r9, r10, r11, r12⟩ := h.2.2.1.1 i hc'
  obtain ⟨v1, v2⟩ := bV_rng h hi
  exact ⟨r5, r6, v1, v2⟩
-- what a name of pass is
def hnd (a b : Int) : Int := if b = 0 then 0 else 100 * a / b
def pvl (T : Nat → Int) (L : Int32) : Int := if L = 107 then T 6 else if L = 109 then T 5 else if L = 110 then hnd (T 3) (T 3 + T 4) else if L = 116 then hnd (T 0 + T 1) (T 2) else if L = 118 then hnd (T 0) (T 0 + T 1) else T 5
theorem hnd_val {a b : Int32} (a0 : 0 ≤ a.toInt) (a1 : a.toInt ≤ 2400000) (b0 : 0 < b.toInt) : (100 * a / b).toInt = 100 * a.toInt / b.toInt := by
  have e : (100 * a).toInt = 100 * a.toInt := by rw [fb_mulI (by rw [ti100]; omega) (by rw [ti100]; omega), ti100]
  rw [fb_divI (by omega) b0, e]
theorem c_hundredths {G : zGT} {d : Nat} {Φ : Int32 → zMem → Prop} {σ : zMem} {a b : Int32} (a0 : 0 ≤ a.toInt) (a1 : a.toInt ≤ 2400000) (b0 : 0 ≤ b.toInt) (h : ∀ v : Int32, v.toInt = hnd a.toInt b.toInt → Φ v σ) : CTI G d Y_X8_hundredths [.inl a, .inl b] σ Φ := by
  refine en_X8_hundredths ?_
  unfold hnd at h
  by_cases g : b = 0
  · rw [if_pos g]
    exact h 0 (by rw [if_pos (by rw [g, ti0])]; rfl)
  · rw [if_neg g]
    refine ⟨g, ?_⟩
    rw [fa_eq, ti0] at g
    refine h _ ?_
    rw [if_neg g]
    exact hnd_val a0 a1 (by omega)
theorem m_hundredths {G : zGT} {d : Nat} {Φ : Int32 → zMem → Prop} {σ : zMem} {a b : Int32} (a0 : 0 ≤ a.toInt) (a1 : a.toInt ≤ 2400000) (b0 : 0 ≤ b.toInt) (h : ∀ v : Int32, v.toInt = hnd a.toInt b.toInt → Φ v σ) : CTI G d Y_X12_hundredths [.inl a, .inl b] σ Φ := by
  refine en_X12_hundredths ?_
  unfold hnd at h
  by_cases g : b = 0
  · rw [if_pos g]
    exact h 0 (by rw [if_pos (by rw [g, ti0])]; rfl)
  · rw [if_neg g]
    refine ⟨g, ?_⟩
    rw [fa_eq, ti0] at g
    refine h _ ?_
    rw [if_neg g]
    exact hnd_val a0 a1 (by omega)
theorem upd7 {f : Nat → Int32} {k : Nat} {v : Int32} {T : Nat → Int} {z : Int} (h : ∀ j : Nat, j < 7 → j ≠ k → (f j).toInt = T j) (e : v.toInt = T k) : TR (upd f k v) T := by
  intro j hj
  by_cases g : j = k
  · subst g; rw [upd_eq]; exact e
  · rw [upd_ne g]; exact h j hj g
theorem c_clear62 {G : zGT} {d : Nat} {Φ : zMem → Prop} {σ : zMem} (h : ∀ σ', (∀ a : Nat, a ≠ 62 → σ' a = σ a) → TR (σ' 62) (fun _ => 0) → Φ σ') : CTV G d Y_X8_clear [.inr (.inr 62)] σ Φ := by
  refine en_X8_clear_i62 ?_
  rintro _ rfl _ rfl _ rfl _ rfl _ rfl _ rfl _ rfl
  refine h _ (fun a ha => ?_) (fun j hj => ?_)
  · rw [zwr_rne ha, zwr_rne ha, zwr_rne ha, zwr_rne ha, zwr_rne ha, zwr_rne ha, zwr_rne ha]
  · simp only [zwr_req]
    have j7 : j = 0 ∨ j = 1 ∨ j = 2 ∨ j = 3 ∨ j = 4 ∨ j = 5 ∨ j = 6 := by omega
    rcases j7 with rfl | rfl | rfl | rfl | rfl | rfl | rfl <;> simp only [zwr_rne, zwr_req, upd_ne, upd_eq, ne_eq, Nat.reduceEqDiff, not_false_eq_true] <;> rfl
theorem c_add62 {G : zGT} {d n : Nat} {Φ : zMem → Prop} {σ : zMem} {k v t : Int32} {T : Nat → Int} (hT : TR (σ 62) T) (hB : TB n T) (hn : n ≤ 24) (v0 : 0 ≤ v.toInt) (v1 : v.toInt ≤ 100000) (h : ∀ σ', (∀ a : Nat, a ≠ 62 → σ' a = σ a) → TR (σ' 62) (tadd k.toInt v.toInt t.toInt T) → Φ σ') : CTV G d Y_X8_add [.inr (.inr 62), .inl k, .inl v, .inl t] σ Φ := by
  obtain ⟨a, b, c, dd, e⟩ := hB
  have a0 := a 0 (by omega)
  have a1 := a 1 (by omega)
  have a2 := a 2 (by omega)
  have a3 := a 3 (by omega)
  have a4 := a 4 (by omega)
  have a5 := a 5 (by omega)
  have r0 := hT 0 (by omega)
  have r1 := hT 1 (by omega)
  have r2 := hT 2 (by omega)
  have r3 := hT 3 (by omega)
  have r4 := hT 4 (by omega)
  have r5 := hT 5 (by omega)
  have r6 := hT 6 (by omega)
  have s0 : (σ 62 0 + v).toInt = T 0 + v.toInt := by rw [fb_addI (by omega) (by omega), r0]
  have s1 : (σ 62 1 + v).toInt = T 1 + v.toInt := by rw [fb_addI (by omega) (by omega), r1]
  have s2 : (σ 62 2 + v).toInt = T 2 + v.toInt := by rw [fb_addI (by omega) (by omega), r2]
  have s3 : (σ 62 3 + 1).toInt = T 3 + 1 := by rw [fb_addI (by rw [ti1]; omega) (by rw [ti1]; omega), r3, ti1]
  have s4 : (σ 62 4 + 1).toInt = T 4 + 1 := by rw [fb_addI (by rw [ti1]; omega) (by rw [ti1]; omega), r4, ti1]
  have s5 : (σ 62 5 + 1).toInt = T 5 + 1 := by rw [fb_addI (by rw [ti1]; omega) (by rw [ti1]; omega), r5, ti1]
  refine en_X8_add_i62 ?_
  have fin : ∀ τ : zMem, (∀ a : Nat, a ≠ 62 → τ a = σ a) → (τ 62 6).toInt = (if T 5 = 0 then k.toInt else T 6) → τ 62 5 = σ 62 5 + 1 → τ 62 2 = σ 62 2 + v → τ 62 0 = (if t = 1 then σ 62 0 + v else σ 62 0) → τ 62 3 = (if t = 1 then σ 62 3 + 1 else σ 62 3) → τ 62 1 = (if t = 2 then σ 62 1 + v else σ 62 1) → τ 62 4 = (if t = 2 then σ 62 4 + 1 else σ 62 4) → Φ τ := by
    intro τ t0 t6 t5 t2 t00 t3 t1 t4
    refine h τ t0 (fun j hj => ?_)
    have i1 : t = 1 ↔ t.toInt = 1 := by rw [fa_eq, ti1]
    have i2 : t = 2 ↔ t.toInt = 2 := by rw [fa_eq, ti2]
    have j7 : j = 0 ∨ j = 1 ∨ j = 2 ∨ j = 3 ∨ j = 4 ∨ j = 5 ∨ j = 6 := by omega
    rcases j7 with rfl | rfl | rfl | rfl | rfl | rfl | rfl
    · show (τ 62 0).toInt = (if t.toInt = 1 then T 0 + v.toInt else T 0)
      rw [t00]
      by_cases g : t = 1
      · rw [if_pos g, if_pos (i1.1 g)]; exact s0
      · rw [if_neg g, if_neg (fun q => g (i1.2 q))]; exact r0
    · show (τ 62 1).toInt = (if t.toInt = 2 then T 1 + v.toInt else T 1)
      rw [t1]
      by_cases g : t = 2
      · rw [if_pos g, if_pos (i2.1 g)]; exact s1
      · rw [if_neg g, if_neg (fun q => g (i2.2 q))]; exact r1
    · show (τ 62 2).toInt = T 2 + v.toInt
      rw [t2]; exact s2
    · show (τ 62 3).toInt = (if t.toInt = 1 then T 3 + 1 else T 3)
      rw [t3]
      by_cases g : t = 1
      · rw [if_pos g, if_pos (i1.1 g)]; exact s3
      · rw [if_neg g, if_neg (fun q => g (i1.2 q))]; exact r3
    · show (τ 62 4).toInt = (if t.toInt = 2 then T 4 + 1 else T 4)
      rw [t4]
      by_cases g : t = 2
      · rw [if_pos g, if_pos (i2.1 g)]; exact s4
      · rw [if_neg g, if_neg (fun q => g (i2.2 q))]; exact r4
    · show (τ 62 5).toInt = T 5 + 1
      rw [t5]; exact s5
    · exact t6
  have tail : ∀ (w : Int32), w.toInt = (if T 5 = 0 then k.toInt else T 6) → (∀ s1 : zMem, s1 = zwr σ 62 6 w → (∀ s2 : zMem, s2 = zwr s1 62 5 ((s1 62 5) + 1) → (∀ s3 : zMem, s3 = zwr s2 62 2 ((s2 62 2) + v) → (if t = 1 then (∀ s4 : zMem, s4 = zwr s3 62 0 ((s3 62 0) + v) → (∀ s5 : zMem, s5 = zwr s4 62 3 ((s4 62 3) + 1) → (if t = 2 then (∀ s6 : zMem, s6 = zwr s5 62 1 ((s5 62 1) + v) → (∀ s7 : zMem, s7 = zwr s6 62 4 ((s6 62 4) + 1) → (Φ s7))) else (Φ s5)))) else (if t = 2 then (∀ s8 : zMem, s8 = zwr s3 62 1 ((s3 62 1) + v) → (∀ s9 : zMem, s9 = zwr s8 62 4 ((s8 62 4) + 1) → (Φ s9))) else (Φ s3)))))) := by
    intro w hw
    rintro _ rfl _ rfl _ rfl
    by_cases g1 : t = 1
    · subst g1
      rw [if_pos rfl]
      rintro _ rfl _ rfl
      rw [if_neg (by decide)]
      refine fin _ (fun a ha => ?_) ?_ ?_ ?_ ?_ ?_ ?_ ?_
      · simp only [zwr_rne ha]
      all_goals (simp only [zwr_rne, zwr_req, upd_ne, upd_eq, ne_eq, Nat.reduceEqDiff, not_false_eq_true] <;> first | exact hw | rfl)
    · rw [if_neg g1]
      by_cases g2 : t = 2
      · rw [if_pos g2]
        rintro _ rfl _ rfl
        refine fin _ (fun a ha => ?_) ?_ ?_ ?_ ?_ ?_ ?_ ?_
        · simp only [zwr_rne ha]
        all_goals (simp only [zwr_rne, zwr_req, upd_ne, upd_eq, ne_eq, Nat.reduceEqDiff, not_false_eq_true, if_neg g1, if_pos g2] <;> first | exact hw | rfl)
      · rw [if_neg g2]
        refine fin _ (fun a ha => ?_) ?_ ?_ ?_ ?_ ?_ ?_ ?_
        · simp only [zwr_rne ha]
        all_goals (simp only [zwr_rne, zwr_req, upd_ne, upd_eq, ne_eq, Nat.reduceEqDiff, not_false_eq_true, if_neg g1, if_neg g2] <;> first | exact hw | rfl)
  refine zeq (fun g => ?_) (fun g => ?_)
  · rw [ti0] at g
    exact tail k (by rw [if_pos (by omega)])
  · rw [ti0] at g
    exact tail (σ 62 6) (by rw [if_neg (by omega)]; exact r6)
theorem c_clear67 {G : zGT} {d : Nat} {Φ : zMem → Prop} {σ : zMem} (h : ∀ σ', (∀ a : Nat, a ≠ 67 → σ' a = σ a) → TR (σ' 67) (fun _ => 0) → Φ σ') : CTV G d Y_X8_clear [.inr (.inr 67)] σ Φ := by
  refine en_X8_clear_i67 ?_
  rintro _ rfl _ rfl _ rfl _ rfl _ rfl _ rfl _ rfl
  refine h _ (fun a ha => ?_) (fun j hj => ?_)
  · rw [zwr_rne ha, zwr_rne ha, zwr_rne ha, zwr_rne ha, zwr_rne ha, zwr_rne ha, zwr_rne ha]
  · simp only [zwr_req]
    have j7 : j = 0 ∨ j = 1 ∨ j = 2 ∨ j = 3 ∨ j = 4 ∨ j = 5 ∨ j = 6 := by omega
    rcases j7 with rfl | rfl | rfl | rfl | rfl | rfl | rfl <;> simp only [zwr_rne, zwr_req, upd_ne, upd_eq, ne_eq, Nat.reduceEqDiff, not_false_eq_true] <;> rfl
theorem c_add67 {G : zGT} {d n : Nat} {Φ : zMem → Prop} {σ : zMem} {k v t : Int32} {T : Nat → Int} (hT : TR (σ 67) T) (hB : TB n T) (hn : n ≤ 24) (v0 : 0 ≤ v.toInt) (v1 : v.toInt ≤ 100000) (h : ∀ σ', (∀ a : Nat, a ≠ 67 → σ' a = σ a) → TR (σ' 67) (tadd k.toInt v.toInt t.toInt T) → Φ σ') : CTV G d Y_X8_add [.inr (.inr 67), .inl k, .inl v, .inl t] σ Φ := by
  obtain ⟨a, b, c, dd, e⟩ := hB
  have a0 := a 0 (by omega)
  have a1 := a 1 (by omega)
  have a2 := a 2 (by omega)
  have a3 := a 3 (by omega)
  have a4 := a 4 (by omega)
  have a5 := a 5 (by omega)
  have r0 := hT 0 (by omega)
  have r1 := hT 1 (by omega)
  have r2 := hT 2 (by omega)
  have r3 := hT 3 (by omega)
  have r4 := hT 4 (by omega)
  have r5 := hT 5 (by omega)
  have r6 := hT 6 (by omega)
  have s0 : (σ 67 0 + v).toInt = T 0 + v.toInt := by rw [fb_addI (by omega) (by omega), r0]
  have s1 : (σ 67 1 + v).toInt = T 1 + v.toInt := by rw [fb_addI (by omega) (by omega), r1]
  have s2 : (σ 67 2 + v).toInt = T 2 + v.toInt := by rw [fb_addI (by omega) (by omega), r2]
  have s3 : (σ 67 3 + 1).toInt = T 3 + 1 := by rw [fb_addI (by rw [ti1]; omega) (by rw [ti1]; omega), r3, ti1]
  have s4 : (σ 67 4 + 1).toInt = T 4 + 1 := by rw [fb_addI (by rw [ti1]; omega) (by rw [ti1]; omega), r4, ti1]
  have s5 : (σ 67 5 + 1).toInt = T 5 + 1 := by rw [fb_addI (by rw [ti1]; omega) (by rw [ti1]; omega), r5, ti1]
  refine en_X8_add_i67 ?_
  have fin : ∀ τ : zMem, (∀ a : Nat, a ≠ 67 → τ a = σ a) → (τ 67 6).toInt = (if T 5 = 0 then k.toInt else T 6) → τ 67 5 = σ 67 5 + 1 → τ 67 2 = σ 67 2 + v → τ 67 0 = (if t = 1 then σ 67 0 + v else σ 67 0) → τ 67 3 = (if t = 1 then σ 67 3 + 1 else σ 67 3) → τ 67 1 = (if t = 2 then σ 67 1 + v else σ 67 1) → τ 67 4 = (if t = 2 then σ 67 4 + 1 else σ 67 4) → Φ τ := by
    intro τ t0 t6 t5 t2 t00 t3 t1 t4
    refine h τ t0 (fun j hj => ?_)
    have i1 : t = 1 ↔ t.toInt = 1 := by rw [fa_eq, ti1]
    have i2 : t = 2 ↔ t.toInt = 2 := by rw [fa_eq, ti2]
    have j7 : j = 0 ∨ j = 1 ∨ j = 2 ∨ j = 3 ∨ j = 4 ∨ j = 5 ∨ j = 6 := by omega
    rcases j7 with rfl | rfl | rfl | rfl | rfl | rfl | rfl
    · show (τ 67 0).toInt = (if t.toInt = 1 then T 0 + v.toInt else T 0)
      rw [t00]
      by_cases g : t = 1
      · rw [if_pos g, if_pos (i1.1 g)]; exact s0
      · rw [if_neg g, if_neg (fun q => g (i1.2 q))]; exact r0
    · show (τ 67 1).toInt = (if t.toInt = 2 then T 1 + v.toInt else T 1)
      rw [t1]
      by_cases g : t = 2
      · rw [if_pos g, if_pos (i2.1 g)]; exact s1
      · rw [if_neg g, if_neg (fun q => g (i2.2 q))]; exact r1
    · show (τ 67 2).toInt = T 2 + v.toInt
      rw [t2]; exact s2
    · show (τ 67 3).toInt = (if t.toInt = 1 then T 3 + 1 else T 3)
      rw [t3]
      by_cases g : t = 1
      · rw [if_pos g, if_pos (i1.1 g)]; exact s3
      · rw [if_neg g, if_neg (fun q => g (i1.2 q))]; exact r3
    · show (τ 67 4).toInt = (if t.toInt = 2 then T 4 + 1 else T 4)
      rw [t4]
      by_cases g : t = 2
      · rw [if_pos g, if_pos (i2.1 g)]; exact s4
      · rw [if_neg g, if_neg (fun q => g (i2.2 q))]; exact r4
    · show (τ 67 5).toInt = T 5 + 1
      rw [t5]; exact s5
    · exact t6
  have tail : ∀ (w : Int32), w.toInt = (if T 5 = 0 then k.toInt else T 6) → (∀ s1 : zMem, s1 = zwr σ 67 6 w → (∀ s2 : zMem, s2 = zwr s1 67 5 ((s1 67 5) + 1) → (∀ s3 : zMem, s3 = zwr s2 67 2 ((s2 67 2) + v) → (if t = 1 then (∀ s4 : zMem, s4 = zwr s3 67 0 ((s3 67 0) + v) → (∀ s5 : zMem, s5 = zwr s4 67 3 ((s4 67 3) + 1) → (if t = 2 then (∀ s6 : zMem, s6 = zwr s5 67 1 ((s5 67 1) + v) → (∀ s7 : zMem, s7 = zwr s6 67 4 ((s6 67 4) + 1) → (Φ s7))) else (Φ s5)))) else (if t = 2 then (∀ s8 : zMem, s8 = zwr s3 67 1 ((s3 67 1) + v) → (∀ s9 : zMem, s9 = zwr s8 67 4 ((s8 67 4) + 1) → (Φ s9))) else (Φ s3)))))) := by
    intro w hw
    rintro _ rfl _ rfl _ rfl
    by_cases g1 : t = 1
    · subst g1
      rw [if_pos rfl]
      rintro _ rfl _ rfl
      rw [if_neg (by decide)]
      refine fin _ (fun a ha => ?_) ?_ ?_ ?_ ?_ ?_ ?_ ?_
      · simp only [zwr_rne ha]
      all_goals (simp only [zwr_rne, zwr_req, upd_ne, upd_eq, ne_eq, Nat.reduceEqDiff, not_false_eq_true] <;> first | exact hw | rfl)
    · rw [if_neg g1]
      by_cases g2 : t = 2
      · rw [if_pos g2]
        rintro _ rfl _ rfl
        refine fin _ (fun a ha => ?_) ?_ ?_ ?_ ?_ ?_ ?_ ?_
        · simp only [zwr_rne ha]
        all_goals (simp only [zwr_rne, zwr_req, upd_ne, upd_eq, ne_eq, Nat.reduceEqDiff, not_false_eq_true, if_neg g1, if_pos g2] <;> first | exact hw | rfl)
      · rw [if_neg g2]
        refine fin _ (fun a ha => ?_) ?_ ?_ ?_ ?_ ?_ ?_ ?_
        · simp only [zwr_rne ha]
        all_goals (simp only [zwr_rne, zwr_req, upd_ne, upd_eq, ne_eq, Nat.reduceEqDiff, not_false_eq_true, if_neg g1, if_neg g2] <;> first | exact hw | rfl)
  refine zeq (fun g => ?_) (fun g => ?_)
  · rw [ti0] at g
    exact tail k (by rw [if_pos (by omega)])
  · rw [ti0] at g
    exact tail (σ 67 6) (by rw [if_neg (by omega)]; exact r6)
theorem c_clear68 {G : zGT} {d : Nat} {Φ : zMem → Prop} {σ : zMem} (h : ∀ σ', (∀ a : Nat, a ≠ 68 → σ' a = σ a) → TR (σ' 68) (fun _ => 0) → Φ σ') : CTV G d Y_X8_clear [.inr (.inr 68)] σ Φ := by
  refine en_X8_clear_i68 ?_
  rintro _ rfl _ rfl _ rfl _ rfl _ rfl _ rfl _ rfl
  refine h _ (fun a ha => ?_) (fun j hj => ?_)
  · rw [zwr_rne ha, zwr_rne ha, zwr_rne ha, zwr_rne ha, zwr_rne ha, zwr_rne ha, zwr_rne ha]
  · simp only [zwr_req]
    have j7 : j = 0 ∨ j = 1 ∨ j = 2 ∨ j = 3 ∨ j = 4 ∨ j = 5 ∨ j = 6 := by omega
    rcases j7 with rfl | rfl | rfl | rfl | rfl | rfl | rfl <;> simp only [zwr_rne, zwr_req, upd_ne, upd_eq, ne_eq, Nat.reduceEqDiff, not_false_eq_true] <;> rfl
theorem c_add68 {G : zGT} {d n : Nat} {Φ : zMem → Prop} {σ : zMem} {k v t : Int32} {T : Nat → Int} (hT : TR (σ 68) T) (hB : TB n T) (hn : n ≤ 24) (v0 : 0 ≤ v.toInt) (v1 : v.toInt ≤ 100000) (h : ∀ σ', (∀ a : Nat, a ≠ 68 → σ' a = σ a) → TR (σ' 68) (tadd k.toInt v.toInt t.toInt T) → Φ σ') : CTV G d Y_X8_add [.inr (.inr 68), .inl k, .inl v, .inl t] σ Φ := by
  obtain ⟨a, b, c, dd, e⟩ := hB
  have a0 := a 0 (by omega)
  have a1 := a 1 (by omega)
  have a2 := a 2 (by omega)
  have a3 := a 3 (by omega)
  have a4 := a 4 (by omega)
  have a5 := a 5 (by omega)
  have r0 := hT 0 (by omega)
  have r1 := hT 1 (by omega)
  have r2 := hT 2 (by omega)
  have r3 := hT 3 (by omega)
  have r4 := hT 4 (by omega)
  have r5 := hT 5 (by omega)
  have r6 := hT 6 (by omega)
  have s0 : (σ 68 0 + v).toInt = T 0 + v.toInt := by rw [fb_addI (by omega) (by omega), r0]
  have s1 : (σ 68 1 + v).toInt = T 1 + v.toInt := by rw [fb_addI (by omega) (by omega), r1]
  have s2 : (σ 68 2 + v).toInt = T 2 + v.toInt := by rw [fb_addI (by omega) (by omega), r2]
  have s3 : (σ 68 3 + 1).toInt = T 3 + 1 := by rw [fb_addI (by rw [ti1]; omega) (by rw [ti1]; omega), r3, ti1]
  have s4 : (σ 68 4 + 1).toInt = T 4 + 1 := by rw [fb_addI (by rw [ti1]; omega) (by rw [ti1]; omega), r4, ti1]
  have s5 : (σ 68 5 + 1).toInt = T 5 + 1 := by rw [fb_addI (by rw [ti1]; omega) (by rw [ti1]; omega), r5, ti1]
  refine en_X8_add_i68 ?_
  have fin : ∀ τ : zMem, (∀ a : Nat, a ≠ 68 → τ a = σ a) → (τ 68 6).toInt = (if T 5 = 0 then k.toInt else T 6) → τ 68 5 = σ 68 5 + 1 → τ 68 2 = σ 68 2 + v → τ 68 0 = (if t = 1 then σ 68 0 + v else σ 68 0) → τ 68 3 = (if t = 1 then σ 68 3 + 1 else σ 68 3) → τ 68 1 = (if t = 2 then σ 68 1 + v else σ 68 1) → τ 68 4 = (if t = 2 then σ 68 4 + 1 else σ 68 4) → Φ τ := by
    intro τ t0 t6 t5 t2 t00 t3 t1 t4
    refine h τ t0 (fun j hj => ?_)
    have i1 : t = 1 ↔ t.toInt = 1 := by rw [fa_eq, ti1]
    have i2 : t = 2 ↔ t.toInt = 2 := by rw [fa_eq, ti2]
    have j7 : j = 0 ∨ j = 1 ∨ j = 2 ∨ j = 3 ∨ j = 4 ∨ j = 5 ∨ j = 6 := by omega
    rcases j7 with rfl | rfl | rfl | rfl | rfl | rfl | rfl
    · show (τ 68 0).toInt = (if t.toInt = 1 then T 0 + v.toInt else T 0)
      rw [t00]
      by_cases g : t = 1
      · rw [if_pos g, if_pos (i1.1 g)]; exact s0
      · rw [if_neg g, if_neg (fun q => g (i1.2 q))]; exact r0
    · show (τ 68 1).toInt = (if t.toInt = 2 then T 1 + v.toInt else T 1)
      rw [t1]
      by_cases g : t = 2
      · rw [if_pos g, if_pos (i2.1 g)]; exact s1
      · rw [if_neg g, if_neg (fun q => g (i2.2 q))]; exact r1
    · show (τ 68 2).toInt = T 2 + v.toInt
      rw [t2]; exact s2
    · show (τ 68 3).toInt = (if t.toInt = 1 then T 3 + 1 else T 3)
      rw [t3]
      by_cases g : t = 1
      · rw [if_pos g, if_pos (i1.1 g)]; exact s3
      · rw [if_neg g, if_neg (fun q => g (i1.2 q))]; exact r3
    · show (τ 68 4).toInt = (if t.toInt = 2 then T 4 + 1 else T 4)
      rw [t4]
      by_cases g : t = 2
      · rw [if_pos g, if_pos (i2.1 g)]; exact s4
      · rw [if_neg g, if_neg (fun q => g (i2.2 q))]; exact r4
    · show (τ 68 5).toInt = T 5 + 1
      rw [t5]; exact s5
    · exact t6
  have tail : ∀ (w : Int32), w.toInt = (if T 5 = 0 then k.toInt else T 6) → (∀ s1 : zMem, s1 = zwr σ 68 6 w → (∀ s2 : zMem, s2 = zwr s1 68 5 ((s1 68 5) + 1) → (∀ s3 : zMem, s3 = zwr s2 68 2 ((s2 68 2) + v) → (if t = 1 then (∀ s4 : zMem, s4 = zwr s3 68 0 ((s3 68 0) + v) → (∀ s5 : zMem, s5 = zwr s4 68 3 ((s4 68 3) + 1) → (if t = 2 then (∀ s6 : zMem, s6 = zwr s5 68 1 ((s5 68 1) + v) → (∀ s7 : zMem, s7 = zwr s6 68 4 ((s6 68 4) + 1) → (Φ s7))) else (Φ s5)))) else (if t = 2 then (∀ s8 : zMem, s8 = zwr s3 68 1 ((s3 68 1) + v) → (∀ s9 : zMem, s9 = zwr s8 68 4 ((s8 68 4) + 1) → (Φ s9))) else (Φ s3)))))) := by
    intro w hw
    rintro _ rfl _ rfl _ rfl
    by_cases g1 : t = 1
    · subst g1
      rw [if_pos rfl]
      rintro _ rfl _ rfl
      rw [if_neg (by decide)]
      refine fin _ (fun a ha => ?_) ?_ ?_ ?_ ?_ ?_ ?_ ?_
      · simp only [zwr_rne ha]
      all_goals (simp only [zwr_rne, zwr_req, upd_ne, upd_eq, ne_eq, Nat.reduceEqDiff, not_false_eq_true] <;> first | exact hw | rfl)
    · rw [if_neg g1]
      by_cases g2 : t = 2
      · rw [if_pos g2]
        rintro _ rfl _ rfl
        refine fin _ (fun a ha => ?_) ?_ ?_ ?_ ?_ ?_ ?_ ?_
        · simp only [zwr_rne ha]
        all_goals (simp only [zwr_rne, zwr_req, upd_ne, upd_eq, ne_eq, Nat.reduceEqDiff, not_false_eq_true, if_neg g1, if_pos g2] <;> first | exact hw | rfl)
      · rw [if_neg g2]
        refine fin _ (fun a ha => ?_) ?_ ?_ ?_ ?_ ?_ ?_ ?_
        · simp only [zwr_rne ha]
        all_goals (simp only [zwr_rne, zwr_req, upd_ne, upd_eq, ne_eq, Nat.reduceEqDiff, not_false_eq_true, if_neg g1, if_neg g2] <;> first | exact hw | rfl)
  refine zeq (fun g => ?_) (fun g => ?_)
  · rw [ti0] at g
    exact tail k (by rw [if_pos (by omega)])
  · rw [ti0] at g
    exact tail (σ 68 6) (by rw [if_neg (by omega)]; exact r6)
theorem c_nameValue62 {G : zGT} {d : Nat} {Φ : Int32 → zMem → Prop} {σ : zMem} {L : Int32} {T : Nat → Int} {n : Nat} (hT : TR (σ 62) T) (hB : TB n T) (hn : n ≤ 24) (hL : isPn L) (h : ∀ v : Int32, v.toInt = pvl T L → Φ v σ) : CTI G (d + 1) Y_X8_nameValue [.inr (.inr 62), .inl L] σ Φ := by
  obtain ⟨a, b, c, dd, e⟩ := hB
  have a0 := a 0 (by omega)
  have a1 := a 1 (by omega)
  have a2 := a 2 (by omega)
  have a3 := a 3 (by omega)
  have a4 := a 4 (by omega)
  have a5 := a 5 (by omega)
  have r0 := hT 0 (by omega)
  have r1 := hT 1 (by omega)
  have r2 := hT 2 (by omega)
  have r3 := hT 3 (by omega)
  have r4 := hT 4 (by omega)
  have r5 := hT 5 (by omega)
  have r6 := hT 6 (by omega)
  have s01 : (σ 62 0 + σ 62 1).toInt = T 0 + T 1 := by rw [fb_addI (by omega) (by omega), r0, r1]
  have s34 : (σ 62 3 + σ 62 4).toInt = T 3 + T 4 := by rw [fb_addI (by omega) (by omega), r3, r4]
  refine en_X8_nameValue_i62 ?_
  rcases hL with rfl | rfl | rfl | rfl | rfl
  · rw [if_neg (by decide), if_neg (by decide), if_neg (by decide), if_neg (by decide), if_neg (by decide), if_neg (by decide), if_neg (by decide), if_neg (by decide), if_neg (by decide), if_neg (by decide), if_neg (by decide), if_pos (by decide)]
    refine c_hundredths (by omega) (by omega) (by omega) (fun v hv => h v ?_)
    rw [hv, r0, s01]; rfl
  · rw [if_neg (by decide), if_neg (by decide), if_neg (by decide), if_pos (by decide)]
    refine c_hundredths (by omega) (by omega) (by omega) (fun v hv => h v ?_)
    rw [hv, r3, s34]; rfl
  · rw [if_neg (by decide), if_neg (by decide), if_neg (by decide), if_neg (by decide), if_neg (by decide), if_neg (by decide), if_neg (by decide), if_neg (by decide), if_neg (by decide), if_pos (by decide)]
    refine c_hundredths (by omega) (by omega) (by omega) (fun v hv => h v ?_)
    rw [hv, r2, s01]; rfl
  · rw [if_pos (by decide)]
    exact h _ r6
  · rw [if_neg (by decide), if_neg (by decide), if_pos (by decide)]
    exact h _ r5
theorem c_nameValue68 {G : zGT} {d : Nat} {Φ : Int32 → zMem → Prop} {σ : zMem} {L : Int32} {T : Nat → Int} {n : Nat} (hT : TR (σ 68) T) (hB : TB n T) (hn : n ≤ 24) (hL : isPn L) (h : ∀ v : Int32, v.toInt = pvl T L → Φ v σ) : CTI G (d + 1) Y_X8_nameValue [.inr (.inr 68), .inl L] σ Φ := by
  obtain ⟨a, b, c, dd, e⟩ := hB
  have a0 := a 0 (by omega)
  have a1 := a 1 (by omega)
  have a2 := a 2 (by omega)
  have a3 := a 3 (by omega)
  have a4 := a 4 (by omega)
  have a5 := a 5 (by omega)
  have r0 := hT 0 (by omega)
  have r1 := hT 1 (by omega)
  have r2 := hT 2 (by omega)
  have r3 := hT 3 (by omega)
  have r4 := hT 4 (by omega)
  have r5 := hT 5 (by omega)
  have r6 := hT 6 (by omega)
  have s01 : (σ 68 0 + σ 68 1).toInt = T 0 + T 1 := by rw [fb_addI (by omega) (by omega), r0, r1]
  have s34 : (σ 68 3 + σ 68 4).toInt = T 3 + T 4 := by rw [fb_addI (by omega) (by omega), r3, r4]
  refine en_X8_nameValue_i68 ?_
  rcases hL with rfl | rfl | rfl | rfl | rfl
  · rw [if_neg (by decide), if_neg (by decide), if_neg (by decide), if_neg (by decide), if_neg (by decide), if_neg (by decide), if_neg (by decide), if_neg (by decide), if_neg (by decide), if_neg (by decide), if_neg (by decide), if_pos (by decide)]
    refine c_hundredths (by omega) (by omega) (by omega) (fun v hv => h v ?_)
    rw [hv, r0, s01]; rfl
  · rw [if_neg (by decide), if_neg (by decide), if_neg (by decide), if_pos (by decide)]
    refine c_hundredths (by omega) (by omega) (by omega) (fun v hv => h v ?_)
    rw [hv, r3, s34]; rfl
  · rw [if_neg (by decide), if_neg (by decide), if_neg (by decide), if_neg (by decide), if_neg (by decide), if_neg (by decide), if_neg (by decide), if_neg (by decide), if_neg (by decide), if_pos (by decide)]
    refine c_hundredths (by omega) (by omega) (by omega) (fun v hv => h v ?_)
    rw [hv, r2, s01]; rfl
  · rw [if_pos (by decide)]
    exact h _ r6
  · rw [if_neg (by decide), if_neg (by decide), if_pos (by decide)]
    exact h _ r5
theorem c_tally62 {G : zGT} {d : Nat} {Φ : zMem → Prop} {β σ : zMem} {k : Nat} (hb : PB β σ) (hβ : Rall β) (hk : k < 6) (h : ∀ σ', (∀ a : Nat, a ≠ 62 → σ' a = σ a) → TR (σ' 62) (tly (bIn β k) (bK β) (bV β) (bVt β) (bN β)) → Φ σ') : CTV G (d + 3) Y_X2_tallyClass [.inr (.inr 55), .inr (.inr 62), .inl (nI k)] σ Φ := by
  have n24 := bN_24 hβ.any
  refine en_X2_tallyClass_i55_62 ?_
  refine c_clear62 (fun σ0 f0 T0 => ?_)
  have L : ∀ m i : Nat, i + m = bN β → ∀ τ : zMem, (∀ a : Nat, a ≠ 62 → τ a = σ a) → TR (τ 62) (tly (bIn β k) (bK β) (bV β) (bVt β) i) → WJ G M_X2_tallyClass (d + 3) (RV Φ) 6 [some (.inr (.inr 55)), some (.inr (.inr 62)), some (.inl (nI k)), some (.inl (nI i))] [] τ := by
    intro m
    induction m with
    | zero =>
      intro i hi τ ft hT
      refine rg_X2_tallyClass_i55_62_6 ?_
      have : i = bN β := by omega
      subst this
      have e : τ 1 6 = nI (bN β) := by
        rw [ft 1 (by decide), hb.1.1 1 (by decide) (by decide) (by decide), hβ.1.2.2.1.1]
        have := hβ.1.2.2.1.2.1
        exact nI_of_toInt (by omega) (by unfold bN; omega)
      rw [e, if_pos (nI_le (by omega) (by omega))]
      exact h τ ft hT
    | succ m ih =>
      intro i hi τ ft hT
      refine rg_X2_tallyClass_i55_62_6 ?_
      have e : τ 1 6 = nI (bN β) := by
        rw [ft 1 (by decide), hb.1.1 1 (by decide) (by decide) (by decide), hβ.1.2.2.1.1]
        have := hβ.1.2.2.1.2.1
        exact nI_of_toInt (by omega) (by unfold bN; omega)
      have hc' := (bN_c hβ.any).1 (show i < bN β by omega)
      obtain ⟨p1, p2, p3, p4, p5, p6⟩ := hβ.2.2.2.2.2.1.1 i hc'
      have vi : vp_in (nI i) 24 := vin (by omega)
      have hbt : PB β τ := hb.fr (FR.of (L := [62]) (fun a ha => ft a (by simpa using ha)) (by intro a ha; simp only [List.mem_singleton] at ha; subst ha; decide))
      have g35 : τ 35 i = enc (β 82 i) := by rw [hbt.1.1 35 (by decide) (by decide) (by decide), p1]
      have g36 : τ 36 i = β 83 i := by rw [hbt.1.1 36 (by decide) (by decide) (by decide), p2]
      have g2 : τ 2 i = β 78 i := by rw [hbt.1.1 2 (by decide) (by decide) (by decide), (hβ.2.2.1.1 i hc').1]
      rw [e, if_neg (nI_ge (by omega) (by omega)), cln (by omega), nI_1, g35]
      refine ⟨vi, ?_⟩
      have ih' := ih (i + 1) (by omega)
      rw [tly_s] at ih'
      by_cases g : β 82 i = nI k
      · rw [if_pos ((enc_nI p3 (by omega)).2 g)]
        rw [if_pos (show bIn β k i = true from decide_eq_true g)] at ih'
        refine ⟨vi, ?_⟩
        refine cr_valueOf hbt.2 (by rw [hbt.1.2 8 (by decide)]; exact hc') ?_
        rw [hbt.1.2 22 (by decide), hbt.1.1 84 (by decide) (by decide) (by decide), hbt.1.1 85 (by decide) (by decide) (by decide), hbt.1.1 86 (by decide) (by decide) (by decide), hbt.1.1 81 (by decide) (by decide) (by decide), g36, g2]
        refine ⟨vi, ?_⟩
        have tb := TB.tly (p := bIn β k) (vt := bVt β) i (fun j hj => bT_ok hβ j (by omega))
        obtain ⟨v1, v2⟩ := bV_rng hβ (show i < bN β by omega)
        refine c_add62 hT tb (by omega) v1 v2 (fun σ' f' hT' => ?_)
        exact ih' σ' (fun a ha => (f' a ha).trans (ft a ha)) hT'
      · rw [if_neg (fun q => g ((enc_nI p3 (by omega)).1 q))]
        rw [if_neg (show ¬ bIn β k i = true from fun q => g (of_decide_eq_true q))] at ih'
        exact ih' τ ft hT
  exact L (bN β) 0 (by omega) σ0 f0 T0
theorem c_tally67 {G : zGT} {d : Nat} {Φ : zMem → Prop} {β σ : zMem} {k : Nat} (hb : PB β σ) (hβ : Rall β) (hk : k < 6) (h : ∀ σ', (∀ a : Nat, a ≠ 67 → σ' a = σ a) → TR (σ' 67) (tly (bIn β k) (bK β) (bV β) (bVt β) (bN β)) → Φ σ') : CTV G (d + 3) Y_X2_tallyClass [.inr (.inr 55), .inr (.inr 67), .inl (nI k)] σ Φ := by
  have n24 := bN_24 hβ.any
  refine en_X2_tallyClass_i55_67 ?_
  refine c_clear67 (fun σ0 f0 T0 => ?_)
  have L : ∀ m i : Nat, i + m = bN β → ∀ τ : zMem, (∀ a : Nat, a ≠ 67 → τ a = σ a) → TR (τ 67) (tly (bIn β k) (bK β) (bV β) (bVt β) i) → WJ G M_X2_tallyClass (d + 3) (RV Φ) 6 [some (.inr (.inr 55)), some (.inr (.inr 67)), some (.inl (nI k)), some (.inl (nI i))] [] τ := by
    intro m
    induction m with
    | zero =>
      intro i hi τ ft hT
      refine rg_X2_tallyClass_i55_67_6 ?_
      have : i = bN β := by omega
      subst this
      have e : τ 1 6 = nI (bN β) := by
        rw [ft 1 (by decide), hb.1.1 1 (by decide) (by decide) (by decide), hβ.1.2.2.1.1]
        have := hβ.1.2.2.1.2.1
        exact nI_of_toInt (by omega) (by unfold bN; omega)
      rw [e, if_pos (nI_le (by omega) (by omega))]
      exact h τ ft hT
    | succ m ih =>
      intro i hi τ ft hT
      refine rg_X2_tallyClass_i55_67_6 ?_
      have e : τ 1 6 = nI (bN β) := by
        rw [ft 1 (by decide), hb.1.1 1 (by decide) (by decide) (by decide), hβ.1.2.2.1.1]
        have := hβ.1.2.2.1.2.1
        exact nI_of_toInt (by omega) (by unfold bN; omega)
      have hc' := (bN_c hβ.any).1 (show i < bN β by omega)
      obtain ⟨p1, p2, p3, p4, p5, p6⟩ := hβ.2.2.2.2.2.1.1 i hc'
      have vi : vp_in (nI i) 24 := vin (by omega)
      have hbt : PB β τ := hb.fr (FR.of (L := [67]) (fun a ha => ft a (by simpa using ha)) (by intro a ha; simp only [List.mem_singleton] at ha; subst ha; decide))
      have g35 : τ 35 i = enc (β 82 i) := by rw [hbt.1.1 35 (by decide) (by decide) (by decide), p1]
      have g36 : τ 36 i = β 83 i := by rw [hbt.1.1 36 (by decide) (by decide) (by decide), p2]
      have g2 : τ 2 i = β 78 i := by rw [hbt.1.1 2 (by decide) (by decide) (by decide), (hβ.2.2.1.1 i hc').1]
      rw [e, if_neg (nI_ge (by omega) (by omega)), cln (by omega), nI_1, g35]
      refine ⟨vi, ?_⟩
      have ih' := ih (i + 1) (by omega)
      rw [tly_s] at ih'
      by_cases g : β 82 i = nI k
      · rw [if_pos ((enc_nI p3 (by omega)).2 g)]
        rw [if_pos (show bIn β k i = true from decide_eq_true g)] at ih'
        refine ⟨vi, ?_⟩
        refine cr_valueOf hbt.2 (by rw [hbt.1.2 8 (by decide)]; exact hc') ?_
        rw [hbt.1.2 22 (by decide), hbt.1.1 84 (by decide) (by decide) (by decide), hbt.1.1 85 (by decide) (by decide) (by decide), hbt.1.1 86 (by decide) (by decide) (by decide), hbt.1.1 81 (by decide) (by decide) (by decide), g36, g2]
        refine ⟨vi, ?_⟩
        have tb := TB.tly (p := bIn β k) (vt := bVt β) i (fun j hj => bT_ok hβ j (by omega))
        obtain ⟨v1, v2⟩ := bV_rng hβ (show i < bN β by omega)
        refine c_add67 hT tb (by omega) v1 v2 (fun σ' f' hT' => ?_)
        exact ih' σ' (fun a ha => (f' a ha).trans (ft a ha)) hT'
      · rw [if_neg (fun q => g ((enc_nI p3 (by omega)).1 q))]
        rw [if_neg (show ¬ bIn β k i = true from fun q => g (of_decide_eq_true q))] at ih'
        exact ih' τ ft hT
  exact L (bN β) 0 (by omega) σ0 f0 T0
