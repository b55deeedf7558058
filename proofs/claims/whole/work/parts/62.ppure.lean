-- a law's text, read on paper
abbrev zPS : Type := Nat × Nat × Nat × (Nat → Int32) × (Nat → Int32)
def gtx (t : Nat → Int32) (n p : Nat) : Int32 := if n ≤ p then -1 else t p
def blk (t : Nat → Int32) : Nat → Nat → Nat
  | 0, p => p
  | m + 1, p => if t p = 32 then blk t m (p + 1) else p
def BL (t : Nat → Int32) (n p : Nat) : Nat := blk t (n - p) p
theorem gtx_lt {t : Nat → Int32} {n p : Nat} (h : p < n) : gtx t n p = t p := by
  unfold gtx
  rw [if_neg (by omega)]
theorem gtx_ge {t : Nat → Int32} {n p : Nat} (h : n ≤ p) : gtx t n p = -1 := by
  unfold gtx
  rw [if_pos h]
theorem gtx_in {t : Nat → Int32} {n p : Nat} (h : ¬ gtx t n p = -1) : p < n := by
  refine Classical.byContradiction (fun q => h ?_)
  exact gtx_ge (by omega)
theorem BL_y {t : Nat → Int32} {n p : Nat} (h : gtx t n p = 32) : BL t n p = BL t n (p + 1) := by
  have lt : p < n := gtx_in (by rw [h]; decide)
  rw [gtx_lt lt] at h
  unfold BL
  have e : n - p = (n - (p + 1)) + 1 := by omega
  rw [e]
  show (if t p = 32 then blk t (n - (p + 1)) (p + 1) else p) = _
  rw [if_pos h]
theorem BL_n {t : Nat → Int32} {n p : Nat} (h : ¬ gtx t n p = 32) : BL t n p = p := by
  unfold BL
  by_cases lt : p < n
  · rw [gtx_lt lt] at h
    have e : n - p = (n - (p + 1)) + 1 := by omega
    rw [e]
    show (if t p = 32 then blk t (n - (p + 1)) (p + 1) else p) = _
    rw [if_neg h]
  · have e : n - p = 0 := by omega
    rw [e]
    rfl
theorem BL_all {t : Nat → Int32} {n : Nat} : ∀ m p : Nat, n - p ≤ m → p ≤ BL t n p ∧ (p ≤ n → BL t n p ≤ n) ∧ ¬ gtx t n (BL t n p) = 32
  | 0, p, h => by
    have g : ¬ gtx t n p = 32 := by rw [gtx_ge (by omega)]; decide
    rw [BL_n g]
    exact ⟨Nat.le_refl _, fun q => q, g⟩
  | m + 1, p, h => by
    by_cases g : gtx t n p = 32
    · have lt : p < n := gtx_in (by rw [g]; decide)
      obtain ⟨a, b, c⟩ := BL_all (t := t) (n := n) m (p + 1) (by omega)
      rw [BL_y g]
      exact ⟨by omega, fun _ => b (by omega), c⟩
    · rw [BL_n g]
      exact ⟨Nat.le_refl _, fun q => q, g⟩
theorem BL_ge (t : Nat → Int32) (n p : Nat) : p ≤ BL t n p := (BL_all (n - p) p (Nat.le_refl _)).1
theorem BL_le {t : Nat → Int32} {n p : Nat} (h : p ≤ n) : BL t n p ≤ n := (BL_all (n - p) p (Nat.le_refl _)).2.1 h
theorem BL_id (t : Nat → Int32) (n p : Nat) : BL t n (BL t n p) = BL t n p := BL_n (BL_all (n - p) p (Nat.le_refl _)).2.2
def isD (v : Int32) : Prop := 48 ≤ v.toInt ∧ v.toInt ≤ 57
noncomputable def dgs (t : Nat → Int32) (n : Nat) : Nat → Int32 → Nat → Int32 × Nat
  | 0, v, p => (v, p)
  | f + 1, v, p => @ite _ (isD (gtx t n p)) (Classical.propDecidable _) (dgs t n f (v * 10 + gtx t n p - 48) (p + 1)) (v, p)
theorem dgs_y {t : Nat → Int32} {n f p : Nat} {v : Int32} (h : isD (gtx t n p)) : dgs t n (f + 1) v p = dgs t n f (v * 10 + gtx t n p - 48) (p + 1) := by
  show @ite _ _ (Classical.propDecidable _) _ _ = _
  rw [if_pos h]
theorem dgs_n {t : Nat → Int32} {n f p : Nat} {v : Int32} (h : ¬ isD (gtx t n p)) : dgs t n (f + 1) v p = (v, p) := by
  show @ite _ _ (Classical.propDecidable _) _ _ = _
  rw [if_neg h]
theorem isD_in {t : Nat → Int32} {n p : Nat} (h : isD (gtx t n p)) : p < n := gtx_in (fun q => by rw [q] at h; exact absurd h.1 (by decide))
theorem dgs_ok {t : Nat → Int32} {n : Nat} : ∀ (f : Nat) (v : Int32) (p : Nat), p ≤ n → 0 ≤ v.toInt → v.toInt < (10 ^ (6 - f) : Nat) → f ≤ 6 → p ≤ (dgs t n f v p).2 ∧ (dgs t n f v p).2 ≤ n ∧ 0 ≤ (dgs t n f v p).1.toInt ∧ (dgs t n f v p).1.toInt < 1000000
  | 0, v, p, h, h0, h1, hf => by
    have e : ((10 ^ (6 - 0) : Nat) : Int) = 1000000 := by decide
    rw [e] at h1
    exact ⟨Nat.le_refl _, h, h0, h1⟩
  | f + 1, v, p, h, h0, h1, hf => by
    have p1 : ((10 ^ (6 - f) : Nat) : Int) = 10 * ((10 ^ (6 - (f + 1)) : Nat) : Int) := by
      have : 6 - f = (6 - (f + 1)) + 1 := by omega
      rw [this, Nat.pow_succ]
      omega
    have p2 : ((10 ^ (6 - (f + 1)) : Nat) : Int) ≤ 100000 := by
      have := Nat.pow_le_pow_right (n := 10) (by decide) (show 6 - (f + 1) ≤ 5 by omega)
      have e : 10 ^ 5 = 100000 := by decide
      omega
    by_cases g : isD (gtx t n p)
    · rw [dgs_y g]
      have lt := isD_in g
      have t48 : (48 : Int32).toInt = 48 := rfl
      obtain ⟨g1, g2⟩ := g
      have m1 : (v * 10).toInt = v.toInt * 10 := by rw [fb_mulI (by rw [ti10]; omega) (by rw [ti10]; omega), ti10]
      have m2 : (v * 10 + gtx t n p).toInt = v.toInt * 10 + (gtx t n p).toInt := by rw [fb_addI (by omega) (by omega), m1]
      have m3 : (v * 10 + gtx t n p - 48).toInt = v.toInt * 10 + (gtx t n p).toInt - 48 := by rw [fb_subI (by rw [t48]; omega) (by rw [t48]; omega), m2, t48]
      obtain ⟨a, b, c, e⟩ := dgs_ok (t := t) (n := n) f (v * 10 + gtx t n p - 48) (p + 1) (by omega) (by omega) (by omega) (by omega)
      exact ⟨by omega, b, c, e⟩
    · rw [dgs_n g]
      exact ⟨Nat.le_refl _, h, h0, by show v.toInt < 1000000; omega⟩
-- the state of a reader: place, words, steps
def sAt (S : zPS) (p : Nat) : zPS := (p, S.2)
def sAdv (S : zPS) : zPS := (S.1 + 1, S.2.1 + 1, S.2.2)
def sEm (s v : Int32) (S : zPS) : zPS := (S.1, S.2.1, S.2.2.1 + 1, upd S.2.2.2.1 S.2.2.1 s, upd S.2.2.2.2 S.2.2.1 v)
def sBl (t : Nat → Int32) (n : Nat) (S : zPS) : zPS := (BL t n S.1, S.2)
def lvl (c : Int32) : Nat := if c = 38 then 1 else if c = 42 then 4 else if c = 43 then 3 else if c = 45 then 3 else if c = 60 then 2 else if c = 61 then 2 else if c = 62 then 2 else if c = 124 then 0 else 9
def sgs (t : Nat → Int32) (n : Nat) (S : zPS) : Int32 := if (gtx t n S.1 = 60 ∨ gtx t n S.1 = 62) ∧ gtx t n (S.1 + 1) = 61 then (if gtx t n S.1 = 60 then 4 else 5) else gtx t n S.1
def sSg (t : Nat → Int32) (n : Nat) (S : zPS) : zPS := if (gtx t n S.1 = 60 ∨ gtx t n S.1 = 62) ∧ gtx t n (S.1 + 1) = 61 then (S.1 + 2, S.2.1 + 1, S.2.2) else sAdv S
noncomputable def sNum (t : Nat → Int32) (n : Nat) (S : zPS) : zPS := sEm 1 (dgs t n 6 0 S.1).1 ((dgs t n 6 0 S.1).2, S.2.1 + 1, S.2.2)
def mrk (c : Int32) : Int32 := if c = 33 then 33 else 3
abbrev zPG : Type := Nat → Nat → Nat → zPS → Option (Bool × zPS)
/-- a step: q 0 to 4 the levels, 5 a part behind so many marks, 6 a bare part, from 10 on what goes on at a level -/
noncomputable def pB (t : Nat → Int32) (n : Nat) (N : Int32 → Prop) (g : zPG) : zPG := fun q a dep S =>
  if q ≤ 4 then (g (q + 1) 0 dep S).bind (fun R => if R.1 = true then g (q + 10) 0 dep R.2 else some R)
  else if q = 5 then
    (if gtx t n (BL t n S.1) = 33 ∨ gtx t n (BL t n S.1) = 45 then
      (if a < 20 then (g 5 (a + 1) dep (sAdv (sBl t n S))).bind (fun R => some (if R.1 = true then (true, sEm (mrk (gtx t n (BL t n S.1))) 0 R.2) else R)) else some (false, sBl t n S))
     else g 6 0 dep (sBl t n S))
  else if q = 6 then
    @ite _ (isD (gtx t n S.1)) (Classical.propDecidable _) (@ite _ (isD (gtx t n (dgs t n 6 0 S.1).2)) (Classical.propDecidable _) (some (false, sNum t n S)) (some (true, sNum t n S)))
    (if gtx t n S.1 = 40 ∧ dep < 8 then (g 0 0 (dep + 1) (sAdv S)).bind (fun R => if R.1 = true then (if gtx t n (BL t n R.2.1) = 41 then some (true, sAdv (sBl t n R.2)) else some (false, sBl t n R.2)) else some R)
     else @ite _ (N (gtx t n S.1)) (Classical.propDecidable _) (some (true, sEm 2 (gtx t n S.1) (sAdv S))) (some (false, S)))
  else (if lvl (gtx t n (BL t n S.1)) + 10 = q then (g (q - 9) 0 dep (sSg t n (sBl t n S))).bind (fun R => if R.1 = true then (if q = 12 then some (true, sEm (sgs t n (sBl t n S)) 0 R.2) else g q 0 dep (sEm (sgs t n (sBl t n S)) 0 R.2)) else some R)
    else some (true, sBl t n S))
noncomputable def pX (t : Nat → Int32) (n : Nat) (N : Int32 → Prop) : Nat → zPG
  | 0 => fun _ _ _ _ => none
  | f + 1 => pB t n N (pX t n N f)
theorem pB_mono {t : Nat → Int32} {n : Nat} {N : Int32 → Prop} {g g' : zPG} (hg : ∀ q a dep S R, g q a dep S = some R → g' q a dep S = some R) {q a dep : Nat} {S : zPS} {R : Bool × zPS} (h : pB t n N g q a dep S = some R) : pB t n N g' q a dep S = some R := by
  unfold pB at h ⊢
  by_cases c4 : q ≤ 4
  · rw [if_pos c4] at h ⊢
    rw [Option.bind_eq_some_iff] at h ⊢
    obtain ⟨R1, h1, h2⟩ := h
    refine ⟨R1, hg _ _ _ _ _ h1, ?_⟩
    by_cases e : R1.1 = true
    · rw [if_pos e] at h2 ⊢; exact hg _ _ _ _ _ h2
    · rw [if_neg e] at h2 ⊢; exact h2
  rw [if_neg c4] at h ⊢
  by_cases c5 : q = 5
  · rw [if_pos c5] at h ⊢
    by_cases m : gtx t n (BL t n S.1) = 33 ∨ gtx t n (BL t n S.1) = 45
    · rw [if_pos m] at h ⊢
      by_cases a20 : a < 20
      · rw [if_pos a20] at h ⊢
        rw [Option.bind_eq_some_iff] at h ⊢
        obtain ⟨R1, h1, h2⟩ := h
        exact ⟨R1, hg _ _ _ _ _ h1, h2⟩
      · rw [if_neg a20] at h ⊢; exact h
    · rw [if_neg m] at h ⊢
      exact hg _ _ _ _ _ h
  rw [if_neg c5] at h ⊢
  by_cases c6 : q = 6
  · rw [if_pos c6] at h ⊢
    by_cases d : isD (gtx t n S.1)
    · rw [if_pos d] at h ⊢; exact h
    rw [if_neg d] at h ⊢
    by_cases p : gtx t n S.1 = 40 ∧ dep < 8
    · rw [if_pos p] at h ⊢
      rw [Option.bind_eq_some_iff] at h ⊢
      obtain ⟨R1, h1, h2⟩ := h
      exact ⟨R1, hg _ _ _ _ _ h1, h2⟩
    · rw [if_neg p] at h ⊢; exact h
  rw [if_neg c6] at h ⊢
  by_cases l : lvl (gtx t n (BL t n S.1)) + 10 = q
  · rw [if_pos l] at h ⊢
    rw [Option.bind_eq_some_iff] at h ⊢
    obtain ⟨R1, h1, h2⟩ := h
    refine ⟨R1, hg _ _ _ _ _ h1, ?_⟩
    by_cases e : R1.1 = true
    · rw [if_pos e] at h2 ⊢
      by_cases c12 : q = 12
      · rw [if_pos c12] at h2 ⊢; exact h2
      · rw [if_neg c12] at h2 ⊢; exact hg _ _ _ _ _ h2
    · rw [if_neg e] at h2 ⊢; exact h2
  · rw [if_neg l] at h ⊢; exact h
theorem pX_mono1 {t : Nat → Int32} {n : Nat} {N : Int32 → Prop} : ∀ f q a dep S R, pX t n N f q a dep S = some R → pX t n N (f + 1) q a dep S = some R
  | 0, q, a, dep, S, R, h => by cases h
  | f + 1, q, a, dep, S, R, h => pB_mono (g := pX t n N f) (g' := pX t n N (f + 1)) (pX_mono1 f) h
theorem pX_mono {t : Nat → Int32} {n : Nat} {N : Int32 → Prop} {f : Nat} : ∀ u q a dep S R, pX t n N f q a dep S = some R → pX t n N (f + u) q a dep S = some R
  | 0, _, _, _, _, _, h => h
  | u + 1, q, a, dep, S, R, h => pX_mono1 (f + u) q a dep S R (pX_mono u q a dep S R h)
/-- the reading of q from S on ends in R -/
def Ev (t : Nat → Int32) (n : Nat) (N : Int32 → Prop) (q a dep : Nat) (S : zPS) (R : Bool × zPS) : Prop := ∃ f, pX t n N f q a dep S = some R
theorem Ev.det {t : Nat → Int32} {n : Nat} {N : Int32 → Prop} {q a dep : Nat} {S : zPS} {R R' : Bool × zPS} (h : Ev t n N q a dep S R) (h' : Ev t n N q a dep S R') : R = R' := by
  obtain ⟨f, h⟩ := h
  obtain ⟨f', h'⟩ := h'
  have a1 := pX_mono f' q a dep S R h
  have a2 := pX_mono f q a dep S R' h'
  rw [Nat.add_comm] at a2
  rw [a1] at a2
  injection a2
theorem Ev.two {t : Nat → Int32} {n : Nat} {N : Int32 → Prop} {q a dep q' a' dep' : Nat} {S S' : zPS} {R R' : Bool × zPS} (h : Ev t n N q a dep S R) (h' : Ev t n N q' a' dep' S' R') : ∃ f, pX t n N f q a dep S = some R ∧ pX t n N f q' a' dep' S' = some R' := by
  obtain ⟨f, h⟩ := h
  obtain ⟨f', h'⟩ := h'
  refine ⟨f + f', pX_mono f' q a dep S R h, ?_⟩
  rw [Nat.add_comm]
  exact pX_mono f q' a' dep' S' R' h'
theorem E_levY {t : Nat → Int32} {n : Nat} {N : Int32 → Prop} {q dep : Nat} {S : zPS} {R1 R : Bool × zPS} (hq : q ≤ 4) (h1 : Ev t n N (q + 1) 0 dep S R1) (e : R1.1 = true) (h2 : Ev t n N (q + 10) 0 dep R1.2 R) : Ev t n N q 0 dep S R := by
  obtain ⟨f, a, b⟩ := h1.two h2
  refine ⟨f + 1, ?_⟩
  show pB t n N (pX t n N f) q 0 dep S = some R
  unfold pB
  rw [if_pos hq, Option.bind_eq_some_iff]
  exact ⟨R1, a, by rw [if_pos e]; exact b⟩
theorem E_levN {t : Nat → Int32} {n : Nat} {N : Int32 → Prop} {q dep : Nat} {S : zPS} {R1 : Bool × zPS} (hq : q ≤ 4) (h1 : Ev t n N (q + 1) 0 dep S R1) (e : ¬ R1.1 = true) : Ev t n N q 0 dep S R1 := by
  obtain ⟨f, a⟩ := h1
  refine ⟨f + 1, ?_⟩
  show pB t n N (pX t n N f) q 0 dep S = some R1
  unfold pB
  rw [if_pos hq, Option.bind_eq_some_iff]
  exact ⟨R1, a, by rw [if_neg e]⟩
theorem E_mark {t : Nat → Int32} {n : Nat} {N : Int32 → Prop} {a dep : Nat} {S : zPS} {R1 : Bool × zPS} (m : gtx t n (BL t n S.1) = 33 ∨ gtx t n (BL t n S.1) = 45) (ha : a < 20) (h1 : Ev t n N 5 (a + 1) dep (sAdv (sBl t n S)) R1) : Ev t n N 5 a dep S (if R1.1 = true then (true, sEm (mrk (gtx t n (BL t n S.1))) 0 R1.2) else R1) := by
  obtain ⟨f, b⟩ := h1
  refine ⟨f + 1, ?_⟩
  show pB t n N (pX t n N f) 5 a dep S = _
  unfold pB
  rw [if_neg (by decide), if_pos rfl, if_pos m, if_pos ha, Option.bind_eq_some_iff]
  exact ⟨R1, b, rfl⟩
theorem E_marks {t : Nat → Int32} {n : Nat} {N : Int32 → Prop} {a dep : Nat} {S : zPS} (m : gtx t n (BL t n S.1) = 33 ∨ gtx t n (BL t n S.1) = 45) (ha : ¬ a < 20) : Ev t n N 5 a dep S (false, sBl t n S) := by
  refine ⟨1, ?_⟩
  show pB t n N (pX t n N 0) 5 a dep S = _
  unfold pB
  rw [if_neg (by decide), if_pos rfl, if_pos m, if_neg ha]
theorem E_bare {t : Nat → Int32} {n : Nat} {N : Int32 → Prop} {a dep : Nat} {S : zPS} {R1 : Bool × zPS} (m : ¬ (gtx t n (BL t n S.1) = 33 ∨ gtx t n (BL t n S.1) = 45)) (h1 : Ev t n N 6 0 dep (sBl t n S) R1) : Ev t n N 5 a dep S R1 := by
  obtain ⟨f, b⟩ := h1
  refine ⟨f + 1, ?_⟩
  show pB t n N (pX t n N f) 5 a dep S = _
  unfold pB
  rw [if_neg (by decide), if_pos rfl, if_neg m]
  exact b
theorem E_numN {t : Nat → Int32} {n : Nat} {N : Int32 → Prop} {dep : Nat} {S : zPS} (d : isD (gtx t n S.1)) (e : isD (gtx t n (dgs t n 6 0 S.1).2)) : Ev t n N 6 0 dep S (false, sNum t n S) := by
  refine ⟨1, ?_⟩
  show pB t n N (pX t n N 0) 6 0 dep S = _
  unfold pB
  rw [if_neg (by decide), if_neg (by decide), if_pos rfl, if_pos d, if_pos e]
theorem E_numY {t : Nat → Int32} {n : Nat} {N : Int32 → Prop} {dep : Nat} {S : zPS} (d : isD (gtx t n S.1)) (e : ¬ isD (gtx t n (dgs t n 6 0 S.1).2)) : Ev t n N 6 0 dep S (true, sNum t n S) := by
  refine ⟨1, ?_⟩
  show pB t n N (pX t n N 0) 6 0 dep S = _
  unfold pB
  rw [if_neg (by decide), if_neg (by decide), if_pos rfl, if_pos d, if_neg e]
theorem E_parY {t : Nat → Int32} {n : Nat} {N : Int32 → Prop} {dep : Nat} {S : zPS} {R1 : Bool × zPS} (p : gtx t n S.1 = 40 ∧ dep < 8) (h1 : Ev t n N 0 0 (dep + 1) (sAdv S) R1) (e : R1.1 = true) (c : gtx t n (BL t n R1.2.1) = 41) : Ev t n N 6 0 dep S (true, sAdv (sBl t n R1.2)) := by
  obtain ⟨f, b⟩ := h1
  refine ⟨f + 1, ?_⟩
  show pB t n N (pX t n N f) 6 0 dep S = _
  unfold pB
  rw [if_neg (by decide), if_neg (by decide), if_pos rfl, if_neg (by rw [p.1]; exact fun q => absurd q.1 (by decide)), if_pos p, Option.bind_eq_some_iff]
  exact ⟨R1, b, by rw [if_pos e, if_pos c]⟩
theorem E_parN {t : Nat → Int32} {n : Nat} {N : Int32 → Prop} {dep : Nat} {S : zPS} {R1 : Bool × zPS} (p : gtx t n S.1 = 40 ∧ dep < 8) (h1 : Ev t n N 0 0 (dep + 1) (sAdv S) R1) (e : R1.1 = true) (c : ¬ gtx t n (BL t n R1.2.1) = 41) : Ev t n N 6 0 dep S (false, sBl t n R1.2) := by
  obtain ⟨f, b⟩ := h1
  refine ⟨f + 1, ?_⟩
  show pB t n N (pX t n N f) 6 0 dep S = _
  unfold pB
  rw [if_neg (by decide), if_neg (by decide), if_pos rfl, if_neg (by rw [p.1]; exact fun q => absurd q.1 (by decide)), if_pos p, Option.bind_eq_some_iff]
  exact ⟨R1, b, by rw [if_pos e, if_neg c]⟩
theorem E_parF {t : Nat → Int32} {n : Nat} {N : Int32 → Prop} {dep : Nat} {S : zPS} {R1 : Bool × zPS} (p : gtx t n S.1 = 40 ∧ dep < 8) (h1 : Ev t n N 0 0 (dep + 1) (sAdv S) R1) (e : ¬ R1.1 = true) : Ev t n N 6 0 dep S R1 := by
  obtain ⟨f, b⟩ := h1
  refine ⟨f + 1, ?_⟩
  show pB t n N (pX t n N f) 6 0 dep S = _
  unfold pB
  rw [if_neg (by decide), if_neg (by decide), if_pos rfl, if_neg (by rw [p.1]; exact fun q => absurd q.1 (by decide)), if_pos p, Option.bind_eq_some_iff]
  exact ⟨R1, b, by rw [if_neg e]⟩
theorem E_name {t : Nat → Int32} {n : Nat} {N : Int32 → Prop} {dep : Nat} {S : zPS} (d : ¬ isD (gtx t n S.1)) (p : ¬ (gtx t n S.1 = 40 ∧ dep < 8)) (h : N (gtx t n S.1)) : Ev t n N 6 0 dep S (true, sEm 2 (gtx t n S.1) (sAdv S)) := by
  refine ⟨1, ?_⟩
  show pB t n N (pX t n N 0) 6 0 dep S = _
  unfold pB
  rw [if_neg (by decide), if_neg (by decide), if_pos rfl, if_neg d, if_neg p, if_pos h]
theorem E_no {t : Nat → Int32} {n : Nat} {N : Int32 → Prop} {dep : Nat} {S : zPS} (d : ¬ isD (gtx t n S.1)) (p : ¬ (gtx t n S.1 = 40 ∧ dep < 8)) (h : ¬ N (gtx t n S.1)) : Ev t n N 6 0 dep S (false, S) := by
  refine ⟨1, ?_⟩
  show pB t n N (pX t n N 0) 6 0 dep S = _
  unfold pB
  rw [if_neg (by decide), if_neg (by decide), if_pos rfl, if_neg d, if_neg p, if_neg h]
theorem E_end {t : Nat → Int32} {n : Nat} {N : Int32 → Prop} {q dep : Nat} {S : zPS} (hq : 10 ≤ q) (l : ¬ lvl (gtx t n (BL t n S.1)) + 10 = q) : Ev t n N q 0 dep S (true, sBl t n S) := by
  refine ⟨1, ?_⟩
  show pB t n N (pX t n N 0) q 0 dep S = _
  unfold pB
  rw [if_neg (by omega), if_neg (by omega), if_neg (by omega), if_neg l]
theorem E_goF {t : Nat → Int32} {n : Nat} {N : Int32 → Prop} {q dep : Nat} {S : zPS} {R1 : Bool × zPS} (hq : 10 ≤ q) (l : lvl (gtx t n (BL t n S.1)) + 10 = q) (h1 : Ev t n N (q - 9) 0 dep (sSg t n (sBl t n S)) R1) (e : ¬ R1.1 = true) : Ev t n N q 0 dep S R1 := by
  obtain ⟨f, b⟩ := h1
  refine ⟨f + 1, ?_⟩
  show pB t n N (pX t n N f) q 0 dep S = _
  unfold pB
  rw [if_neg (by omega), if_neg (by omega), if_neg (by omega), if_pos l, Option.bind_eq_some_iff]
  exact ⟨R1, b, by rw [if_neg e]⟩
theorem E_go2 {t : Nat → Int32} {n : Nat} {N : Int32 → Prop} {q dep : Nat} {S : zPS} {R1 : Bool × zPS} (hq : q = 12) (l : lvl (gtx t n (BL t n S.1)) + 10 = q) (h1 : Ev t n N (q - 9) 0 dep (sSg t n (sBl t n S)) R1) (e : R1.1 = true) : Ev t n N q 0 dep S (true, sEm (sgs t n (sBl t n S)) 0 R1.2) := by
  obtain ⟨f, b⟩ := h1
  refine ⟨f + 1, ?_⟩
  show pB t n N (pX t n N f) q 0 dep S = _
  unfold pB
  rw [if_neg (by omega), if_neg (by omega), if_neg (by omega), if_pos l, Option.bind_eq_some_iff]
  exact ⟨R1, b, by rw [if_pos e, if_pos hq]⟩
theorem E_go {t : Nat → Int32} {n : Nat} {N : Int32 → Prop} {q dep : Nat} {S : zPS} {R1 R : Bool × zPS} (hq : 10 ≤ q) (h12 : ¬ q = 12) (l : lvl (gtx t n (BL t n S.1)) + 10 = q) (h1 : Ev t n N (q - 9) 0 dep (sSg t n (sBl t n S)) R1) (e : R1.1 = true) (h2 : Ev t n N q 0 dep (sEm (sgs t n (sBl t n S)) 0 R1.2) R) : Ev t n N q 0 dep S R := by
  obtain ⟨f, a, b⟩ := h1.two h2
  refine ⟨f + 1, ?_⟩
  show pB t n N (pX t n N f) q 0 dep S = _
  unfold pB
  rw [if_neg (by omega), if_neg (by omega), if_neg (by omega), if_pos l, Option.bind_eq_some_iff]
  exact ⟨R1, a, by rw [if_pos e, if_neg h12]; exact b⟩
-- what is read leads from a height to the next
theorem wfd_app {N : Int32 → Prop} {st vl : Nat → Int32} {k1 k2 n : Nat} : ∀ m i h : Nat, wfd N st vl k1 m i h → wfd N st vl k2 n (i + m) k1 → wfd N st vl k2 (m + n) i h
  | 0, i, h, h1, h2 => by
    have h1 : h = k1 := h1
    subst h1
    rw [Nat.zero_add]
    exact h2
  | m + 1, i, h, h1, h2 => by
    have h1 : (st i = 1 ∧ 0 ≤ (vl i).toInt ∧ (vl i).toInt ≤ 999999 ∧ wfd N st vl k1 m (i + 1) (h + 1)) ∨ (st i = 2 ∧ N (vl i) ∧ wfd N st vl k1 m (i + 1) (h + 1)) ∨ ((st i = 3 ∨ st i = 33) ∧ 1 ≤ h ∧ wfd N st vl k1 m (i + 1) h) ∨ (isOp (st i) ∧ 2 ≤ h ∧ wfd N st vl k1 m (i + 1) (h - 1)) := h1
    rw [show i + (m + 1) = i + 1 + m by omega] at h2
    rw [show m + 1 + n = m + n + 1 by omega]
    show (st i = 1 ∧ 0 ≤ (vl i).toInt ∧ (vl i).toInt ≤ 999999 ∧ wfd N st vl k2 (m + n) (i + 1) (h + 1)) ∨ (st i = 2 ∧ N (vl i) ∧ wfd N st vl k2 (m + n) (i + 1) (h + 1)) ∨ ((st i = 3 ∨ st i = 33) ∧ 1 ≤ h ∧ wfd N st vl k2 (m + n) (i + 1) h) ∨ (isOp (st i) ∧ 2 ≤ h ∧ wfd N st vl k2 (m + n) (i + 1) (h - 1))
    rcases h1 with ⟨a, b, c, w⟩ | ⟨a, b, w⟩ | ⟨a, b, w⟩ | ⟨a, b, w⟩
    · exact Or.inl ⟨a, b, c, wfd_app m (i + 1) _ w h2⟩
    · exact Or.inr (Or.inl ⟨a, b, wfd_app m (i + 1) _ w h2⟩)
    · exact Or.inr (Or.inr (Or.inl ⟨a, b, wfd_app m (i + 1) _ w h2⟩))
    · exact Or.inr (Or.inr (Or.inr ⟨a, b, wfd_app m (i + 1) _ w h2⟩))
theorem wfd_agree {N : Int32 → Prop} {st vl st' vl' : Nat → Int32} {k : Nat} : ∀ n i h : Nat, (∀ j, i ≤ j → j < i + n → st' j = st j ∧ vl' j = vl j) → wfd N st vl k n i h → wfd N st' vl' k n i h
  | 0, i, h, _, h1 => h1
  | n + 1, i, h, H, h1 => by
    have h1 : (st i = 1 ∧ 0 ≤ (vl i).toInt ∧ (vl i).toInt ≤ 999999 ∧ wfd N st vl k n (i + 1) (h + 1)) ∨ (st i = 2 ∧ N (vl i) ∧ wfd N st vl k n (i + 1) (h + 1)) ∨ ((st i = 3 ∨ st i = 33) ∧ 1 ≤ h ∧ wfd N st vl k n (i + 1) h) ∨ (isOp (st i) ∧ 2 ≤ h ∧ wfd N st vl k n (i + 1) (h - 1)) := h1
    have H' : ∀ j, i + 1 ≤ j → j < i + 1 + n → st' j = st j ∧ vl' j = vl j := fun j a b => H j (by omega) (by omega)
    obtain ⟨e1, e2⟩ := H i (Nat.le_refl _) (by omega)
    show (st' i = 1 ∧ 0 ≤ (vl' i).toInt ∧ (vl' i).toInt ≤ 999999 ∧ wfd N st' vl' k n (i + 1) (h + 1)) ∨ (st' i = 2 ∧ N (vl' i) ∧ wfd N st' vl' k n (i + 1) (h + 1)) ∨ ((st' i = 3 ∨ st' i = 33) ∧ 1 ≤ h ∧ wfd N st' vl' k n (i + 1) h) ∨ (isOp (st' i) ∧ 2 ≤ h ∧ wfd N st' vl' k n (i + 1) (h - 1))
    rw [e1, e2]
    rcases h1 with ⟨a, b, c, w⟩ | ⟨a, b, w⟩ | ⟨a, b, w⟩ | ⟨a, b, w⟩
    · exact Or.inl ⟨a, b, c, wfd_agree n (i + 1) _ H' w⟩
    · exact Or.inr (Or.inl ⟨a, b, wfd_agree n (i + 1) _ H' w⟩)
    · exact Or.inr (Or.inr (Or.inl ⟨a, b, wfd_agree n (i + 1) _ H' w⟩))
    · exact Or.inr (Or.inr (Or.inr ⟨a, b, wfd_agree n (i + 1) _ H' w⟩))
/-- the steps from S's on to R's: nothing ahead of them is changed, and they lead from h to h2 -/
def Sgm (N : Int32 → Prop) (S R : zPS) (h h2 : Nat) : Prop := S.2.2.1 ≤ R.2.2.1 ∧ (∀ i, i < S.2.2.1 → R.2.2.2.1 i = S.2.2.2.1 i ∧ R.2.2.2.2 i = S.2.2.2.2 i) ∧ wfd N R.2.2.2.1 R.2.2.2.2 h2 (R.2.2.1 - S.2.2.1) S.2.2.1 h
theorem Sgm.refl {N : Int32 → Prop} {S R : zPS} {h : Nat} (e : R.2.2 = S.2.2) : Sgm N S R h h := by
  unfold Sgm
  rw [e]
  refine ⟨Nat.le_refl _, fun _ _ => ⟨rfl, rfl⟩, ?_⟩
  rw [Nat.sub_self]
  exact rfl
theorem Sgm.trans {N : Int32 → Prop} {S R T : zPS} {h h2 h3 : Nat} (a : Sgm N S R h h2) (b : Sgm N R T h2 h3) : Sgm N S T h h3 := by
  obtain ⟨a1, a2, a3⟩ := a
  obtain ⟨b1, b2, b3⟩ := b
  refine ⟨by omega, fun i hi => ⟨((b2 i (by omega)).1).trans (a2 i hi).1, ((b2 i (by omega)).2).trans (a2 i hi).2⟩, ?_⟩
  have e : T.2.2.1 - S.2.2.1 = (R.2.2.1 - S.2.2.1) + (T.2.2.1 - R.2.2.1) := by omega
  rw [e]
  refine wfd_app (k1 := h2) _ _ _ (wfd_agree _ _ _ (fun j j1 j2 => b2 j (by omega)) a3) ?_
  rw [show S.2.2.1 + (R.2.2.1 - S.2.2.1) = R.2.2.1 by omega]
  exact b3
theorem Sgm.pre {N : Int32 → Prop} {S S' R : zPS} {h h2 : Nat} (a : Sgm N S' R h h2) (e : S'.2.2 = S.2.2) : Sgm N S R h h2 := by
  unfold Sgm at a ⊢
  rw [← e]
  exact a
theorem Sgm.num {N : Int32 → Prop} {S : zPS} {v : Int32} {h : Nat} (v0 : 0 ≤ v.toInt) (v1 : v.toInt ≤ 999999) : Sgm N S (sEm 1 v S) h (h + 1) := by
  refine ⟨Nat.le_succ _, fun i hi => ⟨upd_ne (by omega), upd_ne (by omega)⟩, ?_⟩
  show wfd N (upd S.2.2.2.1 S.2.2.1 1) (upd S.2.2.2.2 S.2.2.1 v) (h + 1) (S.2.2.1 + 1 - S.2.2.1) S.2.2.1 h
  rw [show S.2.2.1 + 1 - S.2.2.1 = 0 + 1 by omega]
  refine Or.inl ⟨upd_eq, ?_, ?_, rfl⟩
  · rw [upd_eq]; exact v0
  · rw [upd_eq]; exact v1
theorem Sgm.nam {N : Int32 → Prop} {S : zPS} {v : Int32} {h : Nat} (hv : N v) : Sgm N S (sEm 2 v S) h (h + 1) := by
  refine ⟨Nat.le_succ _, fun i hi => ⟨upd_ne (by omega), upd_ne (by omega)⟩, ?_⟩
  show wfd N (upd S.2.2.2.1 S.2.2.1 2) (upd S.2.2.2.2 S.2.2.1 v) (h + 1) (S.2.2.1 + 1 - S.2.2.1) S.2.2.1 h
  rw [show S.2.2.1 + 1 - S.2.2.1 = 0 + 1 by omega]
  refine Or.inr (Or.inl ⟨upd_eq, ?_, rfl⟩)
  rw [upd_eq]; exact hv
theorem Sgm.mrk {N : Int32 → Prop} {S : zPS} {s : Int32} {h : Nat} (hs : s = 3 ∨ s = 33) : Sgm N S (sEm s 0 S) (h + 1) (h + 1) := by
  refine ⟨Nat.le_succ _, fun i hi => ⟨upd_ne (by omega), upd_ne (by omega)⟩, ?_⟩
  show wfd N (upd S.2.2.2.1 S.2.2.1 s) (upd S.2.2.2.2 S.2.2.1 0) (h + 1) (S.2.2.1 + 1 - S.2.2.1) S.2.2.1 (h + 1)
  rw [show S.2.2.1 + 1 - S.2.2.1 = 0 + 1 by omega]
  refine Or.inr (Or.inr (Or.inl ⟨?_, by omega, rfl⟩))
  rw [upd_eq]; exact hs
theorem Sgm.op {N : Int32 → Prop} {S : zPS} {s : Int32} {h : Nat} (hs : isOp s) (hh : 1 ≤ h) : Sgm N S (sEm s 0 S) (h + 1) h := by
  refine ⟨Nat.le_succ _, fun i hi => ⟨upd_ne (by omega), upd_ne (by omega)⟩, ?_⟩
  show wfd N (upd S.2.2.2.1 S.2.2.1 s) (upd S.2.2.2.2 S.2.2.1 0) h (S.2.2.1 + 1 - S.2.2.1) S.2.2.1 (h + 1)
  rw [show S.2.2.1 + 1 - S.2.2.1 = 0 + 1 by omega]
  refine Or.inr (Or.inr (Or.inr ⟨?_, by omega, rfl⟩))
  rw [upd_eq]; exact hs
/-- what is true of a reading's end -/
def Gd (t : Nat → Int32) (n : Nat) (N : Int32 → Prop) (q : Nat) (S : zPS) (R : Bool × zPS) : Prop := q ≤ 14 → S.1 ≤ n → S.1 ≤ R.2.1 ∧ R.2.1 ≤ n ∧ (R.1 = true →
  R.2.2.2.1 + S.1 ≤ S.2.2.1 + R.2.1 ∧ S.2.1 ≤ R.2.2.1 ∧ R.2.2.1 + S.1 ≤ S.2.1 + R.2.1 ∧ (q ≤ 4 ∨ 10 ≤ q → BL t n R.2.1 = R.2.1) ∧
  ∀ h : Nat, (q ≤ 6 → Sgm N S R.2 h (h + 1)) ∧ (10 ≤ q → 1 ≤ h → Sgm N S R.2 h h))
theorem lvl_op {t : Nat → Int32} {n q : Nat} {S : zPS} (h : lvl (gtx t n S.1) = q) (hq : q ≤ 4) : isOp (sgs t n S) ∧ S.1 < n ∧ (sSg t n S).1 ≤ n ∧ S.1 < (sSg t n S).1 ∧ (sSg t n S).2.1 = S.2.1 + 1 ∧ (sSg t n S).2.2 = S.2.2 := by
  have c : gtx t n S.1 = 38 ∨ gtx t n S.1 = 42 ∨ gtx t n S.1 = 43 ∨ gtx t n S.1 = 45 ∨ gtx t n S.1 = 60 ∨ gtx t n S.1 = 61 ∨ gtx t n S.1 = 62 ∨ gtx t n S.1 = 124 := by
    refine Classical.byContradiction (fun w => ?_)
    unfold lvl at h
    rw [if_neg (fun z => w (by simp [z])), if_neg (fun z => w (by simp [z])), if_neg (fun z => w (by simp [z])), if_neg (fun z => w (by simp [z])), if_neg (fun z => w (by simp [z])), if_neg (fun z => w (by simp [z])), if_neg (fun z => w (by simp [z])), if_neg (fun z => w (by simp [z]))] at h
    omega
  have lt : S.1 < n := gtx_in (fun z => by rw [z] at c; revert c; decide)
  unfold sgs sSg
  by_cases g : (gtx t n S.1 = 60 ∨ gtx t n S.1 = 62) ∧ gtx t n (S.1 + 1) = 61
  · have lt2 : S.1 + 1 < n := gtx_in (fun z => by rw [z] at g; exact absurd g.2 (by decide))
    rw [if_pos g, if_pos g]
    refine ⟨?_, lt, by show S.1 + 2 ≤ n; omega, by show S.1 < S.1 + 2; omega, rfl, rfl⟩
    unfold isOp
    split <;> decide
  · rw [if_neg g, if_neg g]
    refine ⟨?_, lt, by show S.1 + 1 ≤ n; omega, by show S.1 < S.1 + 1; omega, rfl, rfl⟩
    unfold isOp
    rcases c with c | c | c | c | c | c | c | c <;> rw [c] <;> decide
theorem mrk_or (c : Int32) : mrk c = 3 ∨ mrk c = 33 := by
  unfold mrk
  split
  · exact Or.inr rfl
  · exact Or.inl rfl
theorem pB_good {t : Nat → Int32} {n : Nat} {N : Int32 → Prop} (hN : ¬ N (-1)) {g : zPG} (hg : ∀ q a dep S R, g q a dep S = some R → Gd t n N q S R) {q a dep : Nat} {S : zPS} {R : Bool × zPS} (h : pB t n N g q a dep S = some R) : Gd t n N q S R := by
  intro h14 hS
  have b1 := BL_ge t n S.1
  have b2 := BL_le (t := t) hS
  unfold pB at h
  by_cases c4 : q ≤ 4
  · rw [if_pos c4, Option.bind_eq_some_iff] at h
    obtain ⟨R1, h1, h2⟩ := h
    obtain ⟨x1, x2, x3⟩ := hg _ _ _ _ _ h1 (by omega) hS
    by_cases e : R1.1 = true
    · rw [if_pos e] at h2
      obtain ⟨y1, y2, y3⟩ := hg _ _ _ _ _ h2 (by omega) x2
      obtain ⟨x4, x5, x6, x7, x8⟩ := x3 e
      refine ⟨by omega, y2, fun er => ?_⟩
      obtain ⟨y4, y5, y6, y7, y8⟩ := y3 er
      refine ⟨by omega, by omega, by omega, fun _ => y7 (Or.inr (by omega)), fun hh => ⟨fun _ => ?_, fun w => by omega⟩⟩
      exact ((x8 hh).1 (by omega)).trans ((y8 (hh + 1)).2 (by omega) (by omega))
    · rw [if_neg e] at h2
      injection h2 with h2
      subst h2
      exact ⟨x1, x2, fun w => absurd w e⟩
  rw [if_neg c4] at h
  by_cases c5 : q = 5
  · rw [if_pos c5] at h
    by_cases m : gtx t n (BL t n S.1) = 33 ∨ gtx t n (BL t n S.1) = 45
    · rw [if_pos m] at h
      have lt : BL t n S.1 < n := gtx_in (fun z => by rw [z] at m; revert m; decide)
      by_cases a20 : a < 20
      · rw [if_pos a20, Option.bind_eq_some_iff] at h
        obtain ⟨R1, h1, h2⟩ := h
        obtain ⟨x1, x2, x3⟩ := hg _ _ _ _ _ h1 (by omega) (show BL t n S.1 + 1 ≤ n by omega)
        have x1 : BL t n S.1 + 1 ≤ R1.2.1 := x1
        injection h2 with h2
        by_cases e : R1.1 = true
        · rw [if_pos e] at h2
          subst h2
          obtain ⟨x4, x5, x6, x7, x8⟩ := x3 e
          have x4 : R1.2.2.2.1 + (BL t n S.1 + 1) ≤ S.2.2.1 + R1.2.1 := x4
          have x5 : S.2.1 + 1 ≤ R1.2.2.1 := x5
          have x6 : R1.2.2.1 + (BL t n S.1 + 1) ≤ S.2.1 + 1 + R1.2.1 := x6
          refine ⟨by show S.1 ≤ R1.2.1; omega, x2, fun _ => ⟨?_, ?_, ?_, fun w => by omega, fun hh => ⟨fun _ => ?_, fun w => by omega⟩⟩⟩
          · show R1.2.2.2.1 + 1 + S.1 ≤ S.2.2.1 + R1.2.1; omega
          · show S.2.1 ≤ R1.2.2.1; omega
          · show R1.2.2.1 + S.1 ≤ S.2.1 + R1.2.1; omega
          · exact (((x8 hh).1 (by decide)).pre (S := S) rfl).trans (Sgm.mrk (mrk_or _))
        · rw [if_neg e] at h2
          subst h2
          exact ⟨by omega, x2, fun w => absurd w e⟩
      · rw [if_neg a20] at h
        injection h with h
        subst h
        exact ⟨b1, b2, fun w => by cases w⟩
    · rw [if_neg m] at h
      obtain ⟨x1, x2, x3⟩ := hg _ _ _ _ _ h (by omega) b2
      have x1 : BL t n S.1 ≤ R.2.1 := x1
      refine ⟨by omega, x2, fun e => ?_⟩
      obtain ⟨x4, x5, x6, x7, x8⟩ := x3 e
      have x4 : R.2.2.2.1 + BL t n S.1 ≤ S.2.2.1 + R.2.1 := x4
      have x5 : S.2.1 ≤ R.2.2.1 := x5
      have x6 : R.2.2.1 + BL t n S.1 ≤ S.2.1 + R.2.1 := x6
      exact ⟨by omega, x5, by omega, fun w => by omega, fun hh => ⟨fun _ => ((x8 hh).1 (by decide)).pre rfl, fun w => by omega⟩⟩
  rw [if_neg c5] at h
  by_cases c6 : q = 6
  · rw [if_pos c6] at h
    by_cases d : isD (gtx t n S.1)
    · rw [if_pos d] at h
      have lt := isD_in d
      have e6 : dgs t n 6 0 S.1 = dgs t n 5 (0 * 10 + gtx t n S.1 - 48) (S.1 + 1) := dgs_y d
      have t48 : (48 : Int32).toInt = 48 := rfl
      have v0 : ((0 : Int32) * 10 + gtx t n S.1 - 48).toInt = (gtx t n S.1).toInt - 48 := by
        rw [Int32.zero_mul, Int32.zero_add]
        obtain ⟨d1, d2⟩ := d
        rw [fb_subI (by rw [t48]; omega) (by rw [t48]; omega), t48]
      have ok := dgs_ok (t := t) (n := n) 5 (0 * 10 + gtx t n S.1 - 48) (S.1 + 1) (by omega) (by rw [v0]; have := d.1; omega) (by rw [v0]; have := d.2; have e : ((10 ^ (6 - 5) : Nat) : Int) = 10 := rfl; omega) (by omega)
      rw [← e6] at ok
      obtain ⟨o1, o2, o3, o4⟩ := ok
      have fin : S.1 ≤ (sNum t n S).1 ∧ (sNum t n S).1 ≤ n ∧ ((true : Bool) = true →
          (sNum t n S).2.2.1 + S.1 ≤ S.2.2.1 + (sNum t n S).1 ∧ S.2.1 ≤ (sNum t n S).2.1 ∧ (sNum t n S).2.1 + S.1 ≤ S.2.1 + (sNum t n S).1 ∧ (q ≤ 4 ∨ 10 ≤ q → BL t n (sNum t n S).1 = (sNum t n S).1) ∧
          ∀ h : Nat, (q ≤ 6 → Sgm N S (sNum t n S) h (h + 1)) ∧ (10 ≤ q → 1 ≤ h → Sgm N S (sNum t n S) h h)) := by
        refine ⟨by show S.1 ≤ (dgs t n 6 0 S.1).2; omega, o2, fun _ => ⟨?_, ?_, ?_, fun w => by omega, fun hh => ⟨fun _ => ?_, fun w => by omega⟩⟩⟩
        · show S.2.2.1 + 1 + S.1 ≤ S.2.2.1 + (dgs t n 6 0 S.1).2; omega
        · show S.2.1 ≤ S.2.1 + 1; omega
        · show S.2.1 + 1 + S.1 ≤ S.2.1 + (dgs t n 6 0 S.1).2; omega
        · exact (Sgm.num (S := ((dgs t n 6 0 S.1).2, S.2.1 + 1, S.2.2)) o3 (by omega)).pre rfl
      by_cases e : isD (gtx t n (dgs t n 6 0 S.1).2)
      · rw [if_pos e] at h
        injection h with h
        subst h
        exact ⟨fin.1, fin.2.1, fun w => by cases w⟩
      · rw [if_neg e] at h
        injection h with h
        subst h
        exact fin
    rw [if_neg d] at h
    by_cases p : gtx t n S.1 = 40 ∧ dep < 8
    · rw [if_pos p, Option.bind_eq_some_iff] at h
      obtain ⟨R1, h1, h2⟩ := h
      have lt : S.1 < n := gtx_in (fun z => by rw [z] at p; exact absurd p.1 (by decide))
      obtain ⟨x1, x2, x3⟩ := hg _ _ _ _ _ h1 (by omega) (show S.1 + 1 ≤ n by omega)
      have x1 : S.1 + 1 ≤ R1.2.1 := x1
      by_cases e : R1.1 = true
      · rw [if_pos e] at h2
        have y1 := BL_ge t n R1.2.1
        have y2 := BL_le (t := t) x2
        by_cases c : gtx t n (BL t n R1.2.1) = 41
        · rw [if_pos c] at h2
          injection h2 with h2
          subst h2
          have lt2 : BL t n R1.2.1 < n := gtx_in (fun z => by rw [z] at c; exact absurd c (by decide))
          obtain ⟨x4, x5, x6, x7, x8⟩ := x3 e
          have x4 : R1.2.2.2.1 + (S.1 + 1) ≤ S.2.2.1 + R1.2.1 := x4
          have x5 : S.2.1 + 1 ≤ R1.2.2.1 := x5
          have x6 : R1.2.2.1 + (S.1 + 1) ≤ S.2.1 + 1 + R1.2.1 := x6
          refine ⟨by show S.1 ≤ BL t n R1.2.1 + 1; omega, by show BL t n R1.2.1 + 1 ≤ n; omega, fun _ => ⟨?_, ?_, ?_, fun w => by omega, fun hh => ⟨fun _ => ?_, fun w => by omega⟩⟩⟩
          · show R1.2.2.2.1 + S.1 ≤ S.2.2.1 + (BL t n R1.2.1 + 1); omega
          · show S.2.1 ≤ R1.2.2.1 + 1; omega
          · show R1.2.2.1 + 1 + S.1 ≤ S.2.1 + (BL t n R1.2.1 + 1); omega
          · exact (((x8 hh).1 (by decide)).pre (S := S) rfl).trans (Sgm.refl rfl)
        · rw [if_neg c] at h2
          injection h2 with h2
          subst h2
          exact ⟨by show S.1 ≤ BL t n R1.2.1; omega, y2, fun w => by cases w⟩
      · rw [if_neg e] at h2
        injection h2 with h2
        subst h2
        exact ⟨by omega, x2, fun w => absurd w e⟩
    rw [if_neg p] at h
    by_cases nm : N (gtx t n S.1)
    · rw [if_pos nm] at h
      injection h with h
      subst h
      have lt : S.1 < n := gtx_in (fun z => hN (by rw [z] at nm; exact nm))
      refine ⟨by show S.1 ≤ S.1 + 1; omega, by show S.1 + 1 ≤ n; omega, fun _ => ⟨?_, ?_, ?_, fun w => by omega, fun hh => ⟨fun _ => ?_, fun w => by omega⟩⟩⟩
      · show S.2.2.1 + 1 + S.1 ≤ S.2.2.1 + (S.1 + 1); omega
      · show S.2.1 ≤ S.2.1 + 1; omega
      · show S.2.1 + 1 + S.1 ≤ S.2.1 + (S.1 + 1); omega
      · exact (Sgm.nam (S := sAdv S) nm).pre rfl
    · rw [if_neg nm] at h
      injection h with h
      subst h
      exact ⟨Nat.le_refl _, hS, fun w => by cases w⟩
  rw [if_neg c6] at h
  by_cases l : lvl (gtx t n (BL t n S.1)) + 10 = q
  · rw [if_pos l, Option.bind_eq_some_iff] at h
    obtain ⟨R1, h1, h2⟩ := h
    obtain ⟨o1, o2, o3, o4, o5, o6⟩ := lvl_op (t := t) (n := n) (q := q - 10) (S := sBl t n S) (by show lvl (gtx t n (BL t n S.1)) = q - 10; omega) (by omega)
    have o2 : BL t n S.1 < n := o2
    have o4 : BL t n S.1 < (sSg t n (sBl t n S)).1 := o4
    have o5 : (sSg t n (sBl t n S)).2.1 = S.2.1 + 1 := o5
    have o6 : (sSg t n (sBl t n S)).2.2 = S.2.2 := o6
    obtain ⟨x1, x2, x3⟩ := hg _ _ _ _ _ h1 (by omega) o3
    by_cases e : R1.1 = true
    · rw [if_pos e] at h2
      obtain ⟨x4, x5, x6, x7, x8⟩ := x3 e
      rw [o6] at x4
      rw [o5] at x5 x6
      have st : ∀ hh, 1 ≤ hh → Sgm N S (sEm (sgs t n (sBl t n S)) 0 R1.2) hh hh := fun hh h0 => (((x8 hh).1 (by omega)).pre (S := S) o6).trans (Sgm.op o1 h0)
      by_cases c12 : q = 12
      · rw [if_pos c12] at h2
        injection h2 with h2
        subst h2
        refine ⟨by show S.1 ≤ R1.2.1; omega, x2, fun _ => ⟨?_, ?_, ?_, fun _ => x7 (Or.inl (by omega)), fun hh => ⟨fun w => by omega, fun _ h0 => st hh h0⟩⟩⟩
        · show R1.2.2.2.1 + 1 + S.1 ≤ S.2.2.1 + R1.2.1; omega
        · show S.2.1 ≤ R1.2.2.1; omega
        · show R1.2.2.1 + S.1 ≤ S.2.1 + R1.2.1; omega
      · rw [if_neg c12] at h2
        obtain ⟨y1, y2, y3⟩ := hg _ _ _ _ _ h2 (by omega) x2
        have y1 : R1.2.1 ≤ R.2.1 := y1
        refine ⟨by omega, y2, fun er => ?_⟩
        obtain ⟨y4, y5, y6, y7, y8⟩ := y3 er
        have y4 : R.2.2.2.1 + R1.2.1 ≤ R1.2.2.2.1 + 1 + R.2.1 := y4
        have y5 : R1.2.2.1 ≤ R.2.2.1 := y5
        have y6 : R.2.2.1 + R1.2.1 ≤ R1.2.2.1 + R.2.1 := y6
        exact ⟨by omega, by omega, by omega, y7, fun hh => ⟨fun w => by omega, fun h10 h0 => (st hh h0).trans ((y8 hh).2 h10 h0)⟩⟩
    · rw [if_neg e] at h2
      injection h2 with h2
      subst h2
      exact ⟨by omega, x2, fun w => absurd w e⟩
  · rw [if_neg l] at h
    injection h with h
    subst h
    refine ⟨b1, b2, fun _ => ⟨?_, ?_, ?_, fun _ => BL_id t n S.1, fun hh => ⟨fun w => by omega, fun _ _ => Sgm.refl rfl⟩⟩⟩
    · show S.2.2.1 + S.1 ≤ S.2.2.1 + BL t n S.1; omega
    · exact Nat.le_refl _
    · show S.2.1 + S.1 ≤ S.2.1 + BL t n S.1; omega
theorem pX_good {t : Nat → Int32} {n : Nat} {N : Int32 → Prop} (hN : ¬ N (-1)) : ∀ f q a dep S R, pX t n N f q a dep S = some R → Gd t n N q S R
  | 0, q, a, dep, S, R, h => by cases h
  | f + 1, q, a, dep, S, R, h => pB_good hN (g := pX t n N f) (pX_good hN f) h
theorem Ev.good {t : Nat → Int32} {n : Nat} {N : Int32 → Prop} {q a dep : Nat} {S : zPS} {R : Bool × zPS} (h : Ev t n N q a dep S R) (hN : ¬ N (-1)) (hq : q ≤ 14) (hS : S.1 ≤ n) :
    S.1 ≤ R.2.1 ∧ R.2.1 ≤ n ∧ (R.1 = true → R.2.2.2.1 + S.1 ≤ S.2.2.1 + R.2.1 ∧ S.2.1 ≤ R.2.2.1 ∧ R.2.2.1 + S.1 ≤ S.2.1 + R.2.1 ∧ (q ≤ 4 ∨ 10 ≤ q → BL t n R.2.1 = R.2.1) ∧ ∀ h : Nat, (q ≤ 6 → Sgm N S R.2 h (h + 1)) ∧ (10 ≤ q → 1 ≤ h → Sgm N S R.2 h h)) := by
  obtain ⟨f, h⟩ := h
  exact pX_good hN f q a dep S R h hq hS
