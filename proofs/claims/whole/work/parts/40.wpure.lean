-- winding up: the pure facts
theorem isum_upd (g : Nat → Int) (c : Nat) (v : Int) : ∀ n : Nat, isum (fun i => if i = c then g i + v else g i) n = isum g n + (if c < n then v else 0)
  | 0 => by simp [isum]
  | n + 1 => by
    have ih := isum_upd g c v n
    show isum _ n + (if n = c then g n + v else g n) = isum g n + g n + _
    rw [ih]
    by_cases h : n = c
    · subst h
      rw [if_neg (by omega), if_pos rfl, if_pos (by omega)]; omega
    · rw [if_neg h]
      by_cases h2 : c < n
      · rw [if_pos h2, if_pos (by omega)]; omega
      · rw [if_neg h2, if_neg (by omega)]; omega
theorem isum_add (f g : Nat → Int) : ∀ n : Nat, isum (fun i => f i + g i) n = isum f n + isum g n
  | 0 => rfl
  | n + 1 => by
    have ih := isum_add f g n
    show isum _ n + (f n + g n) = isum f n + f n + (isum g n + g n)
    rw [ih]; omega
theorem isum_congr {f g : Nat → Int} : ∀ n : Nat, (∀ i, i < n → f i = g i) → isum f n = isum g n
  | 0, _ => rfl
  | n + 1, h => by
    show isum f n + f n = isum g n + g n
    rw [isum_congr n (fun i hi => h i (by omega)), h n (by omega)]
theorem isum_nn {f : Nat → Int} : ∀ n : Nat, (∀ i, i < n → 0 ≤ f i) → 0 ≤ isum f n
  | 0, _ => Int.le_refl _
  | n + 1, h => by
    have := isum_nn n (fun i hi => h i (by omega))
    have := h n (by omega)
    show 0 ≤ isum f n + f n
    omega
theorem isum_ge {f : Nat → Int} : ∀ n : Nat, (∀ i, i < n → 0 ≤ f i) → ∀ k, k < n → f k ≤ isum f n
  | 0, _, k, hk => by omega
  | n + 1, h, k, hk => by
    have h1 := isum_nn n (fun i hi => h i (by omega))
    have h2 := h n (by omega)
    show f k ≤ isum f n + f n
    by_cases e : k = n
    · subst e; omega
    · have := isum_ge n (fun i hi => h i (by omega)) k (by omega)
      omega
theorem isum_le {f : Nat → Int} {B : Int} : ∀ n : Nat, (∀ i, i < n → f i ≤ B) → isum f n ≤ n * B
  | 0, _ => by simp [isum]
  | n + 1, h => by
    have h1 := isum_le n (fun i hi => h i (by omega))
    have h2 := h n (by omega)
    show isum f n + f n ≤ _
    have : ((n + 1 : Nat) : Int) * B = n * B + B := by rw [Int.natCast_add, Int.add_mul]; simp
    omega
theorem isum_mono {f : Nat → Int} {n m : Nat} (h : n ≤ m) (h0 : ∀ i, i < m → 0 ≤ f i) : isum f n ≤ isum f m := by
  induction m with
  | zero =>
    have : n = 0 := by omega
    subst this; exact Int.le_refl _
  | succ m ih =>
    by_cases e : n = m + 1
    · subst e; exact Int.le_refl _
    · have := ih (by omega) (fun i hi => h0 i (by omega))
      have := h0 m (by omega)
      show isum f n ≤ isum f m + f m
      omega
theorem isum_one (f : Nat) (v : Int) (n : Nat) : isum (fun g => if g = f then v else 0) n = if f < n then v else 0 := by
  have := isum_upd (fun _ => 0) f v n
  have z : isum (fun _ => 0) n = 0 := by
    clear this
    induction n with
    | zero => rfl
    | succ n ih => show isum _ n + 0 = 0; rw [ih]; rfl
  rw [z] at this
  simpa using this
theorem isum_hd (t v : Int) (n : Nat) (hv : 0 ≤ v) : 0 ≤ isum (fun g => if t = 10 + (g : Int) then v else 0) n ∧ isum (fun g => if t = 10 + (g : Int) then v else 0) n ≤ v := by
  by_cases h : 10 ≤ t
  · have e : isum (fun g => if t = 10 + (g : Int) then v else 0) n = isum (fun g => if g = (t - 10).toNat then v else 0) n := by
      refine isum_congr n (fun i _ => ?_)
      by_cases q : t = 10 + (i : Int)
      · rw [if_pos q, if_pos (by omega)]
      · rw [if_neg q, if_neg (by omega)]
    rw [e, isum_one]
    split <;> omega
  · have e : isum (fun g => if t = 10 + (g : Int) then v else 0) n = isum (fun g => if g = n then v else 0) n := by
      refine isum_congr n (fun i hi => ?_)
      rw [if_neg (by omega), if_neg (by omega)]
    rw [e, isum_one, if_neg (by omega)]
    omega
/-- what always holds while winding up: n claims, B coins at most have come in -/
def WI (n : Nat) (B : Int) (S : zWS) : Prop := (∀ c : Nat, c < n → 0 ≤ S.1 c ∧ 0 ≤ S.2.1 c ∧ S.1 c + S.2.1 c ≤ 100000) ∧ (∀ f : Nat, f < 6 → 0 ≤ S.2.2.1 f) ∧ isum S.2.2.1 6 ≤ B ∧ (S.2.2.2.1 : Int) ≤ isum S.2.1 n
theorem WI.cash {n : Nat} {B : Int} {S : zWS} (h : WI n B S) {f : Nat} (hf : f < 6) : S.2.2.1 f ≤ B := by
  have := isum_ge 6 h.2.1 f hf
  have := h.2.2.1
  omega
theorem WI.rows {n : Nat} {B : Int} {S : zWS} (h : WI n B S) (hn : n ≤ 24) : (S.2.2.2.1 : Int) ≤ 2400000 := by
  have h1 := h.2.2.2
  have h2 := isum_le (f := S.2.1) (B := 100000) n (fun i hi => by have := h.1 i hi; omega)
  omega
theorem WI.pay {n rd f c : Nat} {B v : Int} {S : zWS} {hd : Nat → Int} (h : WI n B S) (hf : f < 6) (hc : c < n) (h0 : 0 ≤ v) (h1 : v ≤ S.1 c) (h2 : v ≤ S.2.2.1 f) : WI n B (wsPay hd rd f c v S) := by
  unfold wsPay
  by_cases g : v ≤ 0
  · rw [if_pos g]; exact h
  · rw [if_neg g]
    obtain ⟨a1, a2, a3, a4⟩ := h
    refine ⟨fun i hi => ?_, fun i hi => ?_, ?_, ?_⟩
    · have := a1 i hi
      show 0 ≤ (if i = c then S.1 i - v else S.1 i) ∧ 0 ≤ (if i = c then S.2.1 i + v else S.2.1 i) ∧ (if i = c then S.1 i - v else S.1 i) + (if i = c then S.2.1 i + v else S.2.1 i) ≤ 100000
      by_cases e : i = c
      · subst e; simp only [if_true]; omega
      · simp only [if_neg e]; omega
    · have := a2 i hi
      show 0 ≤ S.2.2.1 i - (if i = f then v else 0) + (if hd c = 10 + (i : Int) then v else 0)
      by_cases e : i = f
      · subst e; rw [if_pos rfl]; split <;> omega
      · simp only [if_neg e]; split <;> omega
    · show isum (fun g => S.2.2.1 g - (if g = f then v else 0) + (if hd c = 10 + (g : Int) then v else 0)) 6 ≤ B
      have e : isum (fun g => S.2.2.1 g - (if g = f then v else 0) + (if hd c = 10 + (g : Int) then v else 0)) 6 = isum (fun g => if g = f then S.2.2.1 g + -v else S.2.2.1 g) 6 + isum (fun g => if hd c = 10 + (g : Int) then v else 0) 6 := by
        rw [← isum_add]
        refine isum_congr 6 (fun i _ => ?_)
        by_cases q : i = f
        · simp only [if_pos q]; omega
        · simp only [if_neg q]; omega
      rw [e, isum_upd, if_pos hf]
      have := (isum_hd (hd c) v 6 h0).2
      omega
    · show ((S.2.2.2.1 + 1 : Nat) : Int) ≤ isum (fun i => if i = c then S.2.1 i + v else S.2.1 i) n
      rw [isum_upd, if_pos hc]
      omega
theorem WI.addCash {n f : Nat} {B v : Int} {S : zWS} (h : WI n B S) (hf : f < 6) (h0 : 0 ≤ v) : WI n (B + v) (wsCash S f v) := by
  obtain ⟨a1, a2, a3, a4⟩ := h
  refine ⟨a1, fun i hi => ?_, ?_, a4⟩
  · have := a2 i hi
    show 0 ≤ S.2.2.1 i + (if i = f then v else 0)
    split <;> omega
  · show isum (fun g => S.2.2.1 g + (if g = f then v else 0)) 6 ≤ B + v
    rw [isum_add, isum_one, if_pos hf]
    omega
theorem WI.more {n : Nat} {B B' : Int} {S : zWS} (h : WI n B S) (hb : B ≤ B') : WI n B' S := ⟨h.1, h.2.1, by have := h.2.2.1; omega, h.2.2.2⟩
theorem wsCoin_rng {T p o : Int} (hp : 0 ≤ p) (ho : 0 ≤ o) : 0 ≤ wsCoin T p o ∧ wsCoin T p o ≤ o := by
  unfold wsCoin
  by_cases h : T ≤ p
  · rw [if_pos h]; omega
  · rw [if_neg h]
    refine ⟨Int.ediv_nonneg (Int.mul_nonneg hp ho) (by omega), ?_⟩
    refine Int.ediv_le_of_le_mul (by omega) ?_
    rw [Int.mul_comm o T]
    exact Int.mul_le_mul_of_nonneg_right (by omega) ho
theorem wsCoin_sum {ir : Nat → Bool} {op : Nat → Int} {T p : Int} (hT : p < T) (hp : 0 ≤ p) : ∀ n : Nat, (∀ i, i < n → 0 ≤ op i) → isum (fun c => if ir c then wsCoin T p (op c) else 0) n * T ≤ p * isum (fun c => if ir c then op c else 0) n
  | 0, _ => by simp [isum]
  | n + 1, h => by
    have ih := wsCoin_sum (ir := ir) (op := op) hT hp n (fun i hi => h i (by omega))
    show (isum _ n + (if ir n = true then wsCoin T p (op n) else 0)) * T ≤ p * (isum _ n + (if ir n = true then op n else 0))
    rw [Int.add_mul, Int.mul_add]
    by_cases q : ir n = true
    · rw [if_pos q, if_pos q]
      have : wsCoin T p (op n) * T ≤ p * op n := by
        unfold wsCoin
        rw [if_neg (by omega)]
        exact Int.ediv_mul_le _ (by omega)
      omega
    · rw [if_neg q, if_neg q, Int.zero_mul, Int.mul_zero]; omega
theorem wsCoin_total {ir : Nat → Bool} {op : Nat → Int} {p : Int} {n : Nat} (hp : 0 ≤ p) (h : ∀ i, i < n → 0 ≤ op i) : isum (fun c => if ir c then wsCoin (wsTot ir op n) p (op c) else 0) n ≤ p := by
  by_cases q : wsTot ir op n ≤ p
  · have e : isum (fun c => if ir c then wsCoin (wsTot ir op n) p (op c) else 0) n = wsTot ir op n := by
      unfold wsTot
      refine isum_congr n (fun i _ => ?_)
      by_cases g : ir i = true
      · rw [if_pos g, if_pos g]
        exact if_pos q
      · rw [if_neg g, if_neg g]
    rw [e]
    exact q
  · have := wsCoin_sum (ir := ir) (op := op) (T := wsTot ir op n) (p := p) (by omega) hp n h
    have e : isum (fun c => if ir c then op c else 0) n = wsTot ir op n := rfl
    rw [e] at this
    exact Int.le_of_mul_le_mul_right this (by omega)
theorem itr_s {α : Type} (f : Nat → α → α) (n : Nat) (s : α) : itr f (n + 1) s = f n (itr f n s) := rfl
/-- a rank's first i claims -/
def wsRk (ir : Nat → Bool) (hd : Nat → Int) (n f rd : Nat) (S : zWS) (i : Nat) : zWS :=
  itr (fun c s => if ir c then wsPay hd rd f c (wsCoin (wsTot ir S.1 n) (S.2.2.1 f) (S.1 c)) s else s) i S
theorem wsRk_s (ir : Nat → Bool) (hd : Nat → Int) (n f rd : Nat) (S : zWS) (i : Nat) : wsRk ir hd n f rd S (i + 1) = if ir i then wsPay hd rd f i (wsCoin (wsTot ir S.1 n) (S.2.2.1 f) (S.1 i)) (wsRk ir hd n f rd S i) else wsRk ir hd n f rd S i := rfl
theorem wsPay_open {hd : Nat → Int} {rd f c : Nat} {v : Int} {S : zWS} {i : Nat} (h : i ≠ c) : (wsPay hd rd f c v S).1 i = S.1 i := by
  unfold wsPay
  split
  · rfl
  · exact if_neg h
theorem wsPay_cash {hd : Nat → Int} {rd f c : Nat} {v : Int} {S : zWS} (h0 : 0 ≤ v) : S.2.2.1 f - v ≤ (wsPay hd rd f c v S).2.2.1 f := by
  unfold wsPay
  by_cases g : v ≤ 0
  · rw [if_pos g]; omega
  · rw [if_neg g]
    show S.2.2.1 f - v ≤ S.2.2.1 f - (if f = f then v else 0) + (if hd c = 10 + (f : Int) then v else 0)
    rw [if_pos rfl]
    split <;> omega
theorem WI.rk {n f rd : Nat} {B : Int} {S : zWS} {hd : Nat → Int} {ir : Nat → Bool} (h : WI n B S) (hf : f < 6) : ∀ i : Nat, i ≤ n →
    WI n B (wsRk ir hd n f rd S i) ∧ (∀ c : Nat, i ≤ c → (wsRk ir hd n f rd S i).1 c = S.1 c) ∧
    S.2.2.1 f - isum (fun c => if ir c then wsCoin (wsTot ir S.1 n) (S.2.2.1 f) (S.1 c) else 0) i ≤ (wsRk ir hd n f rd S i).2.2.1 f
  | 0, _ => ⟨h, fun _ _ => rfl, by show S.2.2.1 f - 0 ≤ S.2.2.1 f; omega⟩
  | i + 1, hi => by
    obtain ⟨w1, w2, w3⟩ := WI.rk (rd := rd) (hd := hd) (ir := ir) h hf i (by omega)
    have hp := h.2.1 f hf
    have ho : ∀ j, j < n → 0 ≤ S.1 j := fun j hj => (h.1 j hj).1
    have tot := wsCoin_total (ir := ir) (op := S.1) (n := n) hp ho
    have nn : ∀ j, j < n → 0 ≤ (if ir j then wsCoin (wsTot ir S.1 n) (S.2.2.1 f) (S.1 j) else 0) := by
      intro j hj
      split
      · exact (wsCoin_rng hp (ho j hj)).1
      · omega
    have mo := isum_mono (n := i + 1) (m := n) hi nn
    have st : isum (fun c => if ir c then wsCoin (wsTot ir S.1 n) (S.2.2.1 f) (S.1 c) else 0) (i + 1) = isum (fun c => if ir c then wsCoin (wsTot ir S.1 n) (S.2.2.1 f) (S.1 c) else 0) i + (if ir i then wsCoin (wsTot ir S.1 n) (S.2.2.1 f) (S.1 i) else 0) := rfl
    rw [wsRk_s]
    by_cases g : ir i = true
    · rw [if_pos g] at st
      simp only [if_pos g]
      obtain ⟨c1, c2⟩ := wsCoin_rng (T := wsTot ir S.1 n) hp (ho i (by omega))
      refine ⟨w1.pay hf (by omega) c1 (by rw [w2 i (Nat.le_refl _)]; exact c2) (by omega), fun c hc => ?_, ?_⟩
      · rw [wsPay_open (by omega)]
        exact w2 c (by omega)
      · have := wsPay_cash (hd := hd) (rd := rd) (f := f) (c := i) (S := wsRk ir hd n f rd S i) c1
        omega
    · rw [if_neg g] at st
      simp only [if_neg g]
      exact ⟨w1, fun c hc => w2 c (by omega), by omega⟩
theorem WI.coin {n f rd : Nat} {B : Int} {S : zWS} {hd : Nat → Int} {ir : Nat → Bool} (h : WI n B S) (hf : f < 6) {i : Nat} (hi : i < n) (g : ir i = true) : 0 ≤ wsCoin (wsTot ir S.1 n) (S.2.2.1 f) (S.1 i) ∧ wsCoin (wsTot ir S.1 n) (S.2.2.1 f) (S.1 i) ≤ S.1 i ∧ wsCoin (wsTot ir S.1 n) (S.2.2.1 f) (S.1 i) ≤ (wsRk ir hd n f rd S i).2.2.1 f := by
  obtain ⟨w1, w2, w3⟩ := WI.rk (rd := rd) (hd := hd) (ir := ir) h hf i (by omega)
  have hp := h.2.1 f hf
  have ho : ∀ j, j < n → 0 ≤ S.1 j := fun j hj => (h.1 j hj).1
  have tot := wsCoin_total (ir := ir) (op := S.1) (n := n) hp ho
  have nn : ∀ j, j < n → 0 ≤ (if ir j then wsCoin (wsTot ir S.1 n) (S.2.2.1 f) (S.1 j) else 0) := by
    intro j hj
    split
    · exact (wsCoin_rng hp (ho j hj)).1
    · omega
  have mo := isum_mono (n := i + 1) (m := n) hi nn
  have st : isum (fun c => if ir c then wsCoin (wsTot ir S.1 n) (S.2.2.1 f) (S.1 c) else 0) (i + 1) = isum (fun c => if ir c then wsCoin (wsTot ir S.1 n) (S.2.2.1 f) (S.1 c) else 0) i + (if ir i then wsCoin (wsTot ir S.1 n) (S.2.2.1 f) (S.1 i) else 0) := rfl
  rw [if_pos g] at st
  obtain ⟨c1, c2⟩ := wsCoin_rng (T := wsTot ir S.1 n) hp (ho i (by omega))
  exact ⟨c1, c2, by omega⟩
theorem WI.rank {n f rd : Nat} {B : Int} {S : zWS} {hd : Nat → Int} {ir : Nat → Bool} (h : WI n B S) (hf : f < 6) : WI n B (wsRank ir hd n f rd S) := (WI.rk h hf n (Nat.le_refl _)).1
theorem wsRk_id {n f rd : Nat} {S : zWS} {hd : Nat → Int} {ir : Nat → Bool} (h : ∀ c, c < n → ir c = true → wsCoin (wsTot ir S.1 n) (S.2.2.1 f) (S.1 c) ≤ 0) : ∀ i : Nat, i ≤ n → wsRk ir hd n f rd S i = S
  | 0, _ => rfl
  | i + 1, hi => by
    rw [wsRk_s, wsRk_id h i (by omega)]
    by_cases g : ir i = true
    · rw [if_pos g]
      unfold wsPay
      rw [if_pos (h i (by omega) g)]
    · rw [if_neg g]
theorem tot_zero {n : Nat} {ir : Nat → Bool} {op : Nat → Int} (h : ∀ i, i < n → 0 ≤ op i) (h0 : wsTot ir op n = 0) : ∀ c, c < n → ir c = true → op c = 0 := by
  intro c hc g
  have nn : ∀ j, j < n → 0 ≤ (fun c => if ir c then op c else 0) j := by
    intro j hj
    show 0 ≤ if ir j = true then op j else 0
    split
    · exact h j hj
    · omega
  have := isum_ge n nn c hc
  have e : (if ir c = true then op c else 0) = op c := if_pos g
  have this : (if ir c = true then op c else 0) ≤ isum (fun c => if ir c = true then op c else 0) n := this
  rw [e] at this
  have h1 : isum (fun c => if ir c then op c else 0) n = 0 := h0
  have := h c hc
  omega
theorem wsRank_tot0 {n f rd : Nat} {B : Int} {S : zWS} {hd : Nat → Int} {ir : Nat → Bool} (h : WI n B S) (hf : f < 6) (h0 : wsTot ir S.1 n = 0) : wsRank ir hd n f rd S = S := by
  refine wsRk_id (fun c hc g => ?_) n (Nat.le_refl _)
  have := tot_zero (fun i hi => (h.1 i hi).1) h0 c hc g
  have r := wsCoin_rng (T := wsTot ir S.1 n) (h.2.1 f hf) (h.1 c hc).1
  omega
theorem wsRank_poor {n f rd : Nat} {B : Int} {S : zWS} {hd : Nat → Int} {ir : Nat → Bool} (h : WI n B S) (h0 : S.2.2.1 f = 0) : wsRank ir hd n f rd S = S := by
  refine wsRk_id (fun c hc g => ?_) n (Nat.le_refl _)
  unfold wsCoin
  by_cases q : wsTot ir S.1 n ≤ S.2.2.1 f
  · rw [if_pos q]
    have ho : ∀ i, i < n → 0 ≤ S.1 i := fun i hi => (h.1 i hi).1
    have nn : 0 ≤ wsTot ir S.1 n := by
      refine isum_nn n (fun i hi => ?_)
      show 0 ≤ if ir i = true then S.1 i else 0
      split
      · exact ho i hi
      · omega
    have := tot_zero ho (show wsTot ir S.1 n = 0 by omega) c hc g
    omega
  · rw [if_neg q, h0, Int.zero_mul, Int.zero_ediv]
    exact Int.le_refl _
theorem wsFirm_poor {n f rd : Nat} {B : Int} {S : zWS} {hd : Nat → Int} {ir : Nat → Nat → Bool} (h : WI n B S) (h0 : S.2.2.1 f = 0) : ∀ k r : Nat, wsFirm ir hd n f rd k r S = S
  | 0, _ => rfl
  | k + 1, r => by
    unfold wsFirm
    rw [wsRank_poor h h0, wsFirm_poor h h0 k (r + 1)]
    split <;> rfl
theorem WI.firm {n f rd : Nat} {B : Int} {hd : Nat → Int} {ir : Nat → Nat → Bool} (hf : f < 6) : ∀ (k r : Nat) (S : zWS), WI n B S → WI n B (wsFirm ir hd n f rd k r S)
  | 0, _, S, h => h
  | k + 1, r, S, h => by
    unfold wsFirm
    split
    · exact WI.firm hf k (r + 1) _ (h.rank hf)
    · exact h.rank hf
theorem zlo_rng {dd vv : Nat → Int32} {b : Nat} {day o : Int32} {lo hi : Int} (h0 : lo ≤ o.toInt ∧ o.toInt ≤ hi) : ∀ k : Nat, (∀ i, i < k → lo ≤ (vv (b + i)).toInt ∧ (vv (b + i)).toInt ≤ hi) → lo ≤ (zlo dd vv b day o k).toInt ∧ (zlo dd vv b day o k).toInt ≤ hi
  | 0, _ => h0
  | k + 1, h => by
    unfold zlo
    split
    · exact h k (by omega)
    · exact zlo_rng h0 k (fun i hi => h i (by omega))
