-- the first ten, and their sets
def pks (P : Nat → Bool) : Nat → Nat × (Nat → Nat)
  | 0 => (0, fun _ => 0)
  | n + 1 => if (pks P n).1 < 10 ∧ P n = true then ((pks P n).1 + 1, fun i => if i = (pks P n).1 then n else (pks P n).2 i) else pks P n
def pkd (P : Nat → Bool) (c : Nat) : Bool := decide ((pks P c).1 < 10) && P c
def Qs (P : Nat → Bool) (s c : Nat) : Bool := pkd P c && s.testBit (pks P c).1
theorem pks_y {P : Nat → Bool} {n : Nat} (h : pkd P n = true) : pks P (n + 1) = ((pks P n).1 + 1, fun i => if i = (pks P n).1 then n else (pks P n).2 i) := by
  unfold pkd at h
  rw [Bool.and_eq_true, decide_eq_true_eq] at h
  show (if (pks P n).1 < 10 ∧ P n = true then _ else _) = _
  rw [if_pos h]
theorem pks_n {P : Nat → Bool} {n : Nat} (h : ¬ pkd P n = true) : pks P (n + 1) = pks P n := by
  unfold pkd at h
  rw [Bool.and_eq_true, decide_eq_true_eq] at h
  show (if (pks P n).1 < 10 ∧ P n = true then _ else _) = _
  rw [if_neg h]
theorem pks_ok (P : Nat → Bool) : ∀ n : Nat, (pks P n).1 ≤ 10 ∧ (pks P n).1 ≤ n ∧ ∀ i, i < (pks P n).1 → (pks P n).2 i < n ∧ P ((pks P n).2 i) = true ∧ pkd P ((pks P n).2 i) = true ∧ (pks P ((pks P n).2 i)).1 = i
  | 0 => ⟨by show 0 ≤ 10; omega, Nat.le_refl _, fun i hi => absurd hi (Nat.not_lt_zero i)⟩
  | n + 1 => by
    obtain ⟨a, b, c⟩ := pks_ok P n
    by_cases g : pkd P n = true
    · rw [pks_y g]
      have g' := g
      unfold pkd at g'
      rw [Bool.and_eq_true, decide_eq_true_eq] at g'
      refine ⟨by show (pks P n).1 + 1 ≤ 10; omega, by show (pks P n).1 + 1 ≤ n + 1; omega, fun i hi => ?_⟩
      show (if i = (pks P n).1 then n else (pks P n).2 i) < n + 1 ∧ P (if i = (pks P n).1 then n else (pks P n).2 i) = true ∧ pkd P (if i = (pks P n).1 then n else (pks P n).2 i) = true ∧ (pks P (if i = (pks P n).1 then n else (pks P n).2 i)).1 = i
      have hi : i < (pks P n).1 + 1 := hi
      by_cases e : i = (pks P n).1
      · rw [if_pos e]
        exact ⟨by omega, g'.2, g, e.symm⟩
      · rw [if_neg e]
        obtain ⟨c1, c2, c3, c4⟩ := c i (by omega)
        exact ⟨by omega, c2, c3, c4⟩
    · rw [pks_n g]
      refine ⟨a, by omega, fun i hi => ?_⟩
      obtain ⟨c1, c2, c3, c4⟩ := c i hi
      exact ⟨by omega, c2, c3, c4⟩
theorem itr_congr {α : Type} {F F' : Nat → α → α} {a : α} : ∀ t : Nat, (∀ i, i < t → ∀ b, F i b = F' i b) → itr F t a = itr F' t a
  | 0, _ => rfl
  | t + 1, h => by
    show F t (itr F t a) = F' t (itr F' t a)
    rw [itr_congr t (fun i hi => h i (by omega)), h t (by omega)]
/-- over the claims, or over those picked -/
theorem fold_eq {α : Type} (P : Nat → Bool) (s : Nat) (stp : Nat → α → α) (a : α) : ∀ n : Nat, itr (fun c b => if Qs P s c then stp c b else b) n a = itr (fun i b => if s.testBit i then stp ((pks P n).2 i) b else b) (pks P n).1 a
  | 0 => rfl
  | n + 1 => by
    have ih := fold_eq P s stp a n
    show (if Qs P s n = true then stp n (itr _ n a) else itr _ n a) = _
    rw [ih]
    by_cases g : pkd P n = true
    · rw [pks_y g]
      show _ = (if s.testBit (pks P n).1 then stp (if (pks P n).1 = (pks P n).1 then n else (pks P n).2 (pks P n).1) (itr (fun i b => if s.testBit i then stp (if i = (pks P n).1 then n else (pks P n).2 i) b else b) (pks P n).1 a) else itr (fun i b => if s.testBit i then stp (if i = (pks P n).1 then n else (pks P n).2 i) b else b) (pks P n).1 a)
      have e : itr (fun i b => if s.testBit i then stp (if i = (pks P n).1 then n else (pks P n).2 i) b else b) (pks P n).1 a = itr (fun i b => if s.testBit i then stp ((pks P n).2 i) b else b) (pks P n).1 a := by
        refine itr_congr _ (fun i hi b => ?_)
        rw [if_neg (by omega : ¬ i = (pks P n).1)]
      rw [e, if_pos rfl]
      unfold Qs
      rw [g, Bool.true_and]
    · rw [pks_n g]
      unfold Qs
      rw [if_neg (by rw [Bool.and_eq_true]; exact fun q => g q.1)]
theorem isum_itr (Q : Nat → Bool) (g : Nat → Int) : ∀ n : Nat, isum (fun c => if Q c then g c else 0) n = itr (fun c b => if Q c then b + g c else b) n (0 : Int)
  | 0 => rfl
  | n + 1 => by
    show isum _ n + (if Q n then g n else 0) = (if Q n then itr _ n 0 + g n else itr _ n 0)
    rw [isum_itr Q g n]
    split <;> omega
theorem sob_itr (Q : Nat → Bool) : ∀ n : Nat, sob Q n = itr (fun c b => if Q c then b ||| 2 ^ c else b) n (0 : Nat)
  | 0 => rfl
  | n + 1 => by
    show sob Q n ||| (if Q n then 2 ^ n else 0) = (if Q n then itr _ n 0 ||| 2 ^ n else itr _ n 0)
    rw [sob_itr Q n]
    split
    · rfl
    · exact Nat.or_zero _
theorem tly_itr (Q : Nat → Bool) (kd vl vt : Nat → Int) : ∀ n : Nat, tly Q kd vl vt n = itr (fun c b => if Q c then tadd (kd c) (vl c) (vt c) b else b) n (fun _ => 0)
  | 0 => rfl
  | n + 1 => by
    rw [tly_s, tly_itr Q kd vl vt n]
    rfl
/-- the sum over a set -/
def sms (s : Nat) (g : Nat → Int) (t : Nat) : Int := isum (fun i => if s.testBit i then g i else 0) t
theorem sms_s (s : Nat) (g : Nat → Int) (t : Nat) : sms s g (t + 1) = sms s g t + (if s.testBit t then g t else 0) := rfl
theorem sms_rng {s : Nat} {g : Nat → Int} {B : Int} {t : Nat} (h : ∀ i, i < t → 0 ≤ g i ∧ g i ≤ B) (hB : 0 ≤ B) : 0 ≤ sms s g t ∧ sms s g t ≤ t * B := by
  refine ⟨isum_nn t (fun i hi => ?_), isum_le t (fun i hi => ?_)⟩
  · show 0 ≤ if s.testBit i = true then g i else 0
    have := h i hi
    split <;> omega
  · show (if s.testBit i = true then g i else 0) ≤ B
    have := h i hi
    split <;> omega
theorem sms_eq (P : Nat → Bool) (s : Nat) (g : Nat → Int) (n : Nat) : isum (fun c => if Qs P s c then g c else 0) n = sms s (fun i => g ((pks P n).2 i)) (pks P n).1 := by
  rw [isum_itr, fold_eq P s (fun c b => b + g c) 0 n]
  unfold sms
  rw [isum_itr (fun i => s.testBit i)]
/-- how many there are ahead of a claim -/
def cq (P : Nat → Bool) (s c : Nat) : Int := isum (fun i => if Qs P s i then 1 else 0) c
theorem cq_eq (P : Nat → Bool) (s c : Nat) : cq P s c = sms s (fun _ => 1) (pks P c).1 := sms_eq P s (fun _ => 1) c
theorem cq_nn (P : Nat → Bool) (s c : Nat) : 0 ≤ cq P s c ∧ cq P s c ≤ c := by
  refine ⟨isum_nn c (fun i _ => ?_), ?_⟩
  · show 0 ≤ if Qs P s i = true then (1 : Int) else 0
    split <;> omega
  · have := isum_le (f := fun i => if Qs P s i then (1 : Int) else 0) (B := 1) c (fun i _ => by show (if Qs P s i = true then (1 : Int) else 0) ≤ 1; split <;> omega)
    unfold cq
    omega
theorem Qs_bit (P : Nat → Bool) (s c : Nat) {n : Nat} (hc : c < n) : (sob (Qs P s) n).testBit c = Qs P s c := by
  rw [sob_bit, decide_eq_true hc, Bool.true_and]
/-- a tally when those of Y, who voted no, vote yes -/
def adj (T : Nat → Int) (a b : Int) : Nat → Int := fun j => if j = 0 then T 0 + a else if j = 1 then T 1 - a else if j = 3 then T 3 + b else if j = 4 then T 4 - b else T j
theorem tly_adj {p : Nat → Bool} {kd vl vt : Nat → Int} {Y : Nat} : ∀ n : Nat, (∀ c, c < n → Y.testBit c = true → p c = true ∧ vt c = 2) →
    ∀ j, j < 7 → tly p kd vl (fun c => if Y.testBit c then 1 else vt c) n j = adj (tly p kd vl vt n) (isum (fun c => if Y.testBit c then vl c else 0) n) (isum (fun c => if Y.testBit c then 1 else 0) n) j
  | 0, _, j, _ => by
    show (0 : Int) = adj (fun _ => 0) 0 0 j
    unfold adj
    split
    · rfl
    split
    · rfl
    split
    · rfl
    split
    · rfl
    · rfl
  | n + 1, h, j, hj => by
    have ih := tly_adj (p := p) (kd := kd) (vl := vl) (vt := vt) (Y := Y) n (fun c hc => h c (by omega))
    have e0 := ih 0 (by omega)
    have e1 := ih 1 (by omega)
    have e2 := ih 2 (by omega)
    have e3 := ih 3 (by omega)
    have e4 := ih 4 (by omega)
    have e5 := ih 5 (by omega)
    have e6 := ih 6 (by omega)
    rw [tly_s, tly_s]
    have s1 : isum (fun c => if Y.testBit c then vl c else 0) (n + 1) = isum (fun c => if Y.testBit c then vl c else 0) n + (if Y.testBit n then vl n else 0) := rfl
    have s2 : isum (fun c => if Y.testBit c then (1 : Int) else 0) (n + 1) = isum (fun c => if Y.testBit c then (1 : Int) else 0) n + (if Y.testBit n then 1 else 0) := rfl
    rw [s1, s2]
    generalize tly p kd vl (fun c => if Y.testBit c then 1 else vt c) n = T1 at *
    generalize tly p kd vl vt n = T at *
    generalize isum (fun c => if Y.testBit c then vl c else 0) n = A at *
    generalize isum (fun c => if Y.testBit c then (1 : Int) else 0) n = B at *
    have a0 : ∀ (T : Nat → Int) (a b : Int), adj T a b 0 = T 0 + a := fun _ _ _ => rfl
    have a1 : ∀ (T : Nat → Int) (a b : Int), adj T a b 1 = T 1 - a := fun _ _ _ => rfl
    have a2 : ∀ (T : Nat → Int) (a b : Int), adj T a b 2 = T 2 := fun _ _ _ => rfl
    have a3 : ∀ (T : Nat → Int) (a b : Int), adj T a b 3 = T 3 + b := fun _ _ _ => rfl
    have a4 : ∀ (T : Nat → Int) (a b : Int), adj T a b 4 = T 4 - b := fun _ _ _ => rfl
    have a5 : ∀ (T : Nat → Int) (a b : Int), adj T a b 5 = T 5 := fun _ _ _ => rfl
    have a6 : ∀ (T : Nat → Int) (a b : Int), adj T a b 6 = T 6 := fun _ _ _ => rfl
    have z0 : ∀ (k v t : Int) (T : Nat → Int), tadd k v t T 0 = (if t = 1 then T 0 + v else T 0) := fun _ _ _ _ => rfl
    have z1 : ∀ (k v t : Int) (T : Nat → Int), tadd k v t T 1 = (if t = 2 then T 1 + v else T 1) := fun _ _ _ _ => rfl
    have z2 : ∀ (k v t : Int) (T : Nat → Int), tadd k v t T 2 = T 2 + v := fun _ _ _ _ => rfl
    have z3 : ∀ (k v t : Int) (T : Nat → Int), tadd k v t T 3 = (if t = 1 then T 3 + 1 else T 3) := fun _ _ _ _ => rfl
    have z4 : ∀ (k v t : Int) (T : Nat → Int), tadd k v t T 4 = (if t = 2 then T 4 + 1 else T 4) := fun _ _ _ _ => rfl
    have z5 : ∀ (k v t : Int) (T : Nat → Int), tadd k v t T 5 = T 5 + 1 := fun _ _ _ _ => rfl
    have z6 : ∀ (k v t : Int) (T : Nat → Int), tadd k v t T 6 = (if T 5 = 0 then k else T 6) := fun _ _ _ _ => rfl
    rw [a0] at e0
    rw [a1] at e1
    rw [a2] at e2
    rw [a3] at e3
    rw [a4] at e4
    rw [a5] at e5
    rw [a6] at e6
    have j7 : j = 0 ∨ j = 1 ∨ j = 2 ∨ j = 3 ∨ j = 4 ∨ j = 5 ∨ j = 6 := by omega
    by_cases g : Y.testBit n = true
    · obtain ⟨hp, hv⟩ := h n (by omega) g
      rw [if_pos hp, if_pos hp, if_pos g, if_pos g, if_pos g, hv]
      rcases j7 with rfl | rfl | rfl | rfl | rfl | rfl | rfl
      · rw [a0, z0, z0, if_pos rfl, if_neg (by decide)]; omega
      · rw [a1, z1, z1, if_neg (by decide), if_pos rfl]; omega
      · rw [a2, z2, z2]; omega
      · rw [a3, z3, z3, if_pos rfl, if_neg (by decide)]; omega
      · rw [a4, z4, z4, if_neg (by decide), if_pos rfl]; omega
      · rw [a5, z5, z5]; omega
      · rw [a6, z6, z6, e5, e6]
    · rw [if_neg g, if_neg g, if_neg g, Int.add_zero, Int.add_zero]
      by_cases hp : p n = true
      · rw [if_pos hp, if_pos hp]
        rcases j7 with rfl | rfl | rfl | rfl | rfl | rfl | rfl
        · rw [a0, z0, z0]; split <;> omega
        · rw [a1, z1, z1]; split <;> omega
        · rw [a2, z2, z2]; omega
        · rw [a3, z3, z3]; split <;> omega
        · rw [a4, z4, z4]; split <;> omega
        · rw [a5, z5, z5]; omega
        · rw [a6, z6, z6, e5, e6]
      · rw [if_neg hp, if_neg hp]
        rcases j7 with rfl | rfl | rfl | rfl | rfl | rfl | rfl
        · rw [a0]; exact e0
        · rw [a1]; exact e1
        · rw [a2]; exact e2
        · rw [a3]; exact e3
        · rw [a4]; exact e4
        · rw [a5]; exact e5
        · rw [a6]; exact e6
