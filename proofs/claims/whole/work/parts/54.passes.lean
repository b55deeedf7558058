-- the law's first text: what it gives for a tally
def ePs (β : zMem) (T : Nat → Int) : Int32 := (evf (β 106) (β 107) (fun L => Int32.ofInt (pvl T L)) (β 72 48).toInt.toNat 0 (0, fun _ => 0)).2 0
def K63 (σ σ' : zMem) : Prop := ∀ i : Nat, i ≠ 10 → i ≠ 12 → i ≠ 13 → i ≠ 19 → i ≠ 21 → σ' 63 i = σ 63 i
theorem K63.refl (σ : zMem) : K63 σ σ := fun _ _ _ _ _ _ => rfl
theorem K63.trans {a b c : zMem} (h : K63 a b) (h2 : K63 b c) : K63 a c := fun i q1 q2 q3 q4 q5 => (h2 i q1 q2 q3 q4 q5).trans (h i q1 q2 q3 q4 q5)
theorem K63.row {a b : zMem} (h : b 63 = a 63) : K63 a b := fun i _ _ _ _ _ => by rw [h]
theorem lawOf {β : zMem} (h : Rall β) : (β 72 46 = 0 ∧ β 55 6 = 0) ∨ (β 72 46 = 1 ∧ 0 < (β 55 6).toInt ∧ ∃ p q : Nat, β 72 48 = nI p ∧ β 72 49 = nI (p + q) ∧ p + q ≤ 96 ∧ 1 ≤ p ∧ 1 ≤ q ∧ β 56 2 = nI p ∧ β 59 2 = nI q ∧
    (∀ i, i < p → β 57 i = cod (β 106 i) (β 107 i)) ∧ (∀ i, i < q → β 60 i = cod (β 106 (p + i)) (β 107 (p + i))) ∧ wfd isPn (β 106) (β 107) 1 p 0 0 ∧ wfd isBn (β 106) (β 107) 1 q p 0) := by
  rcases h.2.2.2.2.2.2.2.2.2.2.1 with q | ⟨q1, q2, q3, p, q, r1, r2, r3, r4, r5, r6, r7, r8, r9⟩
  · exact Or.inl q
  · refine Or.inr ⟨q1, by rw [q2]; exact q3, p, q, r1, r2, r3, ?_, ?_, r4, r5, r6, r7, r8, r9⟩
    · cases p with
      | zero =>
        have r8 : 0 = 1 := r8
        omega
      | succ p => omega
    · cases q with
      | zero =>
        have r9 : 0 = 1 := r9
        omega
      | succ p => omega
theorem c_setName {G : zGT} {d : Nat} {Φ : zMem → Prop} {σ : zMem} {L v : Int32} (h0 : 97 ≤ L.toInt) (h1 : L.toInt ≤ 122) (h : Φ (zwr σ 63 (L.toInt.toNat - 97) v)) : CTV G d Y_X2_setName [.inr (.inr 55), .inl L, .inl v] σ Φ := by
  refine en_X2_setName ?_
  have t97 : (97 : Int32).toInt = 97 := rfl
  have t26 : (Int32.ofNat 26).toInt = 26 := rfl
  have e : (L - 97).toInt = L.toInt - 97 := by rw [fb_subI (by rw [t97]; omega) (by rw [t97]; omega), t97]
  have e2 : L - 97 = nI (L.toInt.toNat - 97) := nI_of_toInt (by omega) (by rw [e]; omega)
  rw [if_neg (by rw [fa_lt, e, ti0]; omega), if_neg (by rw [fa_le, e, t26]; omega), e2, cln (by omega)]
  refine ⟨vin (by omega), ?_⟩
  rintro _ rfl
  exact h
theorem c_hasLaw {G : zGT} {d : Nat} {Φ : Int32 → zMem → Prop} {β σ : zMem} (hb : PB β σ) (hβ : Rall β) (h1 : β 72 46 = 1 → Φ 1 σ) (h0 : β 72 46 = 0 → Φ 0 σ) : CTI G d Y_X2_hasLaw [.inr (.inr 55)] σ Φ := by
  refine en_X2_hasLaw ?_
  rw [hb.1.1 55 (by decide) (by decide) (by decide)]
  rcases lawOf hβ with ⟨q1, q2⟩ | ⟨q1, q2, -⟩
  · rw [q2, if_pos (by decide)]; exact h0 q1
  · rw [if_neg (by rw [fa_le, ti0]; omega)]; exact h1 q1
theorem pn_rng {L : Int32} (h : isPn L) : 97 ≤ L.toInt ∧ L.toInt ≤ 122 := by
  unfold isPn at h
  rcases h with rfl | rfl | rfl | rfl | rfl <;> decide
theorem bn_rng {L : Int32} (h : isBn L) : 97 ≤ L.toInt ∧ L.toInt ≤ 122 := by
  unfold isBn at h
  rcases h with rfl | rfl | rfl | rfl | rfl | rfl <;> decide
theorem lt1000_pn : ∀ i, i < 5 → (lt1000 i = 118 ∨ lt1000 i = 110 ∨ lt1000 i = 116 ∨ lt1000 i = 107 ∨ lt1000 i = 109) := by decide
theorem lt1000_ix : ∀ i, i < 5 → (lt1000 i).toInt.toNat - 97 = 10 ∨ (lt1000 i).toInt.toNat - 97 = 12 ∨ (lt1000 i).toInt.toNat - 97 = 13 ∨ (lt1000 i).toInt.toNat - 97 = 19 ∨ (lt1000 i).toInt.toNat - 97 = 21 := by decide
theorem lt1000_inj : ∀ i, i < 5 → ∀ j, j < 5 → (lt1000 i).toInt.toNat - 97 = (lt1000 j).toInt.toNat - 97 → i = j := by decide
theorem pn_lt {L : Int32} (h : isPn L) : ∃ i, i < 5 ∧ lt1000 i = L := by
  unfold isPn at h
  rcases h with rfl | rfl | rfl | rfl | rfl
  · exact ⟨0, by decide, rfl⟩
  · exact ⟨1, by decide, rfl⟩
  · exact ⟨2, by decide, rfl⟩
  · exact ⟨3, by decide, rfl⟩
  · exact ⟨4, by decide, rfl⟩
theorem ofI_eq {v : Int32} {z : Int} (h : v.toInt = z) : v = Int32.ofInt z := by
  rw [← h, Int32.ofInt_toInt]
theorem c_passGives62 {G : zGT} {d n : Nat} {Φ : Int32 → zMem → Prop} {β σ : zMem} {T : Nat → Int} (hb : PB β σ) (hβ : Rall β) (hlaw : β 72 46 = 1) (hT : TR (σ 62) T) (hB : TB n T) (hn : n ≤ 24) (h : ∀ σ', (∀ a, a ≠ 63 → a ≠ 58 → σ' a = σ a) → K63 σ σ' → Φ (ePs β T) σ') : CTI G (d + 4) Y_X2_passGives [.inr (.inr 55), .inr (.inr 62)] σ Φ := by
  refine en_X2_passGives_i55_62 ?_
  rcases lawOf hβ with ⟨q1, -⟩ | ⟨-, -, p, q, r1, r2, r3, rp, rq, r4, r5, r6, r7, r8, r9⟩
  · rw [q1] at hlaw; exact absurd hlaw (by decide)
  have L : ∀ m i : Nat, i + m = 5 → ∀ τ : zMem, (∀ a, a ≠ 63 → τ a = σ a) → K63 σ τ → (∀ j, j < i → τ 63 ((lt1000 j).toInt.toNat - 97) = Int32.ofInt (pvl T (lt1000 j))) →
      WJ G M_X2_passGives (d + 4) (RI Φ) 2 [some (.inr (.inr 55)), some (.inr (.inr 62)), some (.inl (nI i)), none] [] τ := by
    intro m
    induction m with
    | zero =>
      intro i hi τ ft hk hset
      refine rg_X2_passGives_i55_62_2 ?_
      have : i = 5 := by omega
      subst this
      refine c_len1000 ?_
      rw [if_pos (by decide)]
      refine en_X4_work_i56_63 ?_
      have hbt : ∀ a, scr a = false → a ≠ 72 → ¬ (20 ≤ a ∧ a ≤ 33) → τ a = β a := fun a q1 q2 q3 => by
        rw [ft a (by rintro rfl; exact absurd q1 (by decide))]; exact hb.1.1 a q1 q2 q3
      refine x_work56 (st := β 106) (vl := β 107) (N := isPn) (nm := fun L => Int32.ofInt (pvl T L)) (off := 0) (len := p) (by omega) (by rw [hbt 56 (by decide) (by decide) (by decide)]; exact r4) (fun i hi => by rw [hbt 57 (by decide) (by decide) (by decide), Nat.zero_add]; exact r6 i hi) (fun L hL => ?_) p 0 0 τ (by omega) (by omega) r8 (fun _ _ => rfl) (fun τ' ft' => ?_)
      · obtain ⟨g1, g2⟩ := pn_rng hL
        obtain ⟨i, hi, hi2⟩ := pn_lt hL
        refine ⟨g1, g2, ?_⟩
        rw [← hi2]
        exact hset i hi
      · have e : (evf (β 106) (β 107) (fun L => Int32.ofInt (pvl T L)) p 0 (0, τ 58)).2 0 = ePs β T := by
          unfold ePs
          rw [r1, tin (by omega)]
          exact evf_agree p 0 0 _ _ r8 (fun j hj => absurd hj (Nat.not_lt_zero j)) 0 (by decide)
        show Φ ((evf (β 106) (β 107) (fun L => Int32.ofInt (pvl T L)) p (0 + 0) (0, τ 58)).2 0) τ'
        rw [Nat.add_zero, e]
        refine h τ' (fun a q1 q2 => (ft' a q2).trans (ft a q1)) (hk.trans (K63.row (ft' 63 (by decide))))
    | succ m ih =>
      intro i hi τ ft hk hset
      refine rg_X2_passGives_i55_62_2 ?_
      refine c_len1000 ?_
      rw [if_neg (nI_ge (by omega) (by omega)), nI_1]
      refine c_chr1000 (by omega) ?_
      have hp := lt1000_pn i (by omega)
      obtain ⟨g1, g2⟩ := pn_rng hp
      refine c_nameValue62 (T := T) (n := n) (by rw [ft 62 (by decide)]; exact hT) hB hn hp (fun v hv => ?_)
      refine c_setName g1 g2 ?_
      refine ih (i + 1) (by omega) _ (fun a ha => by rw [zwr_rne ha]; exact ft a ha) (hk.trans (fun j j1 j2 j3 j4 j5 => ?_)) (fun j hj => ?_)
      · rw [zwr_req, upd_ne]
        have := lt1000_ix i (by omega)
        omega
      · rw [zwr_req]
        by_cases e : j = i
        · subst e; rw [upd_eq]; exact ofI_eq hv
        · rw [upd_ne (fun q => e (lt1000_inj j (by omega) i (by omega) q))]
          exact hset j (by omega)
  exact L 5 0 (by omega) σ (fun _ _ => rfl) (K63.refl σ) (fun j hj => absurd hj (Nat.not_lt_zero j))
theorem c_passesBy62 {G : zGT} {d n : Nat} {Φ : Int32 → zMem → Prop} {β σ : zMem} {T : Nat → Int} (hb : PB β σ) (hβ : Rall β) (hT : TR (σ 62) T) (hB : TB n T) (hn : n ≤ 24) (h1 : ∀ σ', (∀ a, a ≠ 63 → a ≠ 58 → σ' a = σ a) → K63 σ σ' → (β 72 46 = 1 ∧ 0 < T 5 ∧ ePs β T ≠ 0) → Φ 1 σ') (h0 : ∀ σ', (∀ a, a ≠ 63 → a ≠ 58 → σ' a = σ a) → K63 σ σ' → ¬ (β 72 46 = 1 ∧ 0 < T 5 ∧ ePs β T ≠ 0) → Φ 0 σ') : CTI G (d + 5) Y_X2_passesBy [.inr (.inr 55), .inr (.inr 62)] σ Φ := by
  refine en_X2_passesBy_i55_62 ?_
  refine c_hasLaw hb hβ (fun q => ?_) (fun q => ?_)
  · rw [if_neg (by decide)]
    have r5 := hT 5 (by omega)
    refine zle (fun g => ?_) (fun g => ?_)
    · rw [ti0] at g
      exact h0 σ (fun _ _ _ => rfl) (K63.refl σ) (fun w => by omega)
    · rw [ti0] at g
      refine c_passGives62 hb hβ q hT hB hn (fun σ' f k => ?_)
      by_cases e : ePs β T = 0
      · rw [if_pos e]
        exact h0 σ' f k (fun w => w.2.2 e)
      · rw [if_neg e]
        exact h1 σ' f k ⟨q, by omega, e⟩
  · rw [if_pos rfl]
    exact h0 σ (fun _ _ _ => rfl) (K63.refl σ) (fun w => by rw [q] at w; exact absurd w.1 (by decide))
theorem c_passGives68 {G : zGT} {d n : Nat} {Φ : Int32 → zMem → Prop} {β σ : zMem} {T : Nat → Int} (hb : PB β σ) (hβ : Rall β) (hlaw : β 72 46 = 1) (hT : TR (σ 68) T) (hB : TB n T) (hn : n ≤ 24) (h : ∀ σ', (∀ a, a ≠ 63 → a ≠ 58 → σ' a = σ a) → K63 σ σ' → Φ (ePs β T) σ') : CTI G (d + 4) Y_X2_passGives [.inr (.inr 55), .inr (.inr 68)] σ Φ := by
  refine en_X2_passGives_i55_68 ?_
  rcases lawOf hβ with ⟨q1, -⟩ | ⟨-, -, p, q, r1, r2, r3, rp, rq, r4, r5, r6, r7, r8, r9⟩
  · rw [q1] at hlaw; exact absurd hlaw (by decide)
  have L : ∀ m i : Nat, i + m = 5 → ∀ τ : zMem, (∀ a, a ≠ 63 → τ a = σ a) → K63 σ τ → (∀ j, j < i → τ 63 ((lt1000 j).toInt.toNat - 97) = Int32.ofInt (pvl T (lt1000 j))) →
      WJ G M_X2_passGives (d + 4) (RI Φ) 2 [some (.inr (.inr 55)), some (.inr (.inr 68)), some (.inl (nI i)), none] [] τ := by
    intro m
    induction m with
    | zero =>
      intro i hi τ ft hk hset
      refine rg_X2_passGives_i55_68_2 ?_
      have : i = 5 := by omega
      subst this
      refine c_len1000 ?_
      rw [if_pos (by decide)]
      refine en_X4_work_i56_63 ?_
      have hbt : ∀ a, scr a = false → a ≠ 72 → ¬ (20 ≤ a ∧ a ≤ 33) → τ a = β a := fun a q1 q2 q3 => by
        rw [ft a (by rintro rfl; exact absurd q1 (by decide))]; exact hb.1.1 a q1 q2 q3
      refine x_work56 (st := β 106) (vl := β 107) (N := isPn) (nm := fun L => Int32.ofInt (pvl T L)) (off := 0) (len := p) (by omega) (by rw [hbt 56 (by decide) (by decide) (by decide)]; exact r4) (fun i hi => by rw [hbt 57 (by decide) (by decide) (by decide), Nat.zero_add]; exact r6 i hi) (fun L hL => ?_) p 0 0 τ (by omega) (by omega) r8 (fun _ _ => rfl) (fun τ' ft' => ?_)
      · obtain ⟨g1, g2⟩ := pn_rng hL
        obtain ⟨i, hi, hi2⟩ := pn_lt hL
        refine ⟨g1, g2, ?_⟩
        rw [← hi2]
        exact hset i hi
      · have e : (evf (β 106) (β 107) (fun L => Int32.ofInt (pvl T L)) p 0 (0, τ 58)).2 0 = ePs β T := by
          unfold ePs
          rw [r1, tin (by omega)]
          exact evf_agree p 0 0 _ _ r8 (fun j hj => absurd hj (Nat.not_lt_zero j)) 0 (by decide)
        show Φ ((evf (β 106) (β 107) (fun L => Int32.ofInt (pvl T L)) p (0 + 0) (0, τ 58)).2 0) τ'
        rw [Nat.add_zero, e]
        refine h τ' (fun a q1 q2 => (ft' a q2).trans (ft a q1)) (hk.trans (K63.row (ft' 63 (by decide))))
    | succ m ih =>
      intro i hi τ ft hk hset
      refine rg_X2_passGives_i55_68_2 ?_
      refine c_len1000 ?_
      rw [if_neg (nI_ge (by omega) (by omega)), nI_1]
      refine c_chr1000 (by omega) ?_
      have hp := lt1000_pn i (by omega)
      obtain ⟨g1, g2⟩ := pn_rng hp
      refine c_nameValue68 (T := T) (n := n) (by rw [ft 68 (by decide)]; exact hT) hB hn hp (fun v hv => ?_)
      refine c_setName g1 g2 ?_
      refine ih (i + 1) (by omega) _ (fun a ha => by rw [zwr_rne ha]; exact ft a ha) (hk.trans (fun j j1 j2 j3 j4 j5 => ?_)) (fun j hj => ?_)
      · rw [zwr_req, upd_ne]
        have := lt1000_ix i (by omega)
        omega
      · rw [zwr_req]
        by_cases e : j = i
        · subst e; rw [upd_eq]; exact ofI_eq hv
        · rw [upd_ne (fun q => e (lt1000_inj j (by omega) i (by omega) q))]
          exact hset j (by omega)
  exact L 5 0 (by omega) σ (fun _ _ => rfl) (K63.refl σ) (fun j hj => absurd hj (Nat.not_lt_zero j))
theorem c_passesBy68 {G : zGT} {d n : Nat} {Φ : Int32 → zMem → Prop} {β σ : zMem} {T : Nat → Int} (hb : PB β σ) (hβ : Rall β) (hT : TR (σ 68) T) (hB : TB n T) (hn : n ≤ 24) (h1 : ∀ σ', (∀ a, a ≠ 63 → a ≠ 58 → σ' a = σ a) → K63 σ σ' → (β 72 46 = 1 ∧ 0 < T 5 ∧ ePs β T ≠ 0) → Φ 1 σ') (h0 : ∀ σ', (∀ a, a ≠ 63 → a ≠ 58 → σ' a = σ a) → K63 σ σ' → ¬ (β 72 46 = 1 ∧ 0 < T 5 ∧ ePs β T ≠ 0) → Φ 0 σ') : CTI G (d + 5) Y_X2_passesBy [.inr (.inr 55), .inr (.inr 68)] σ Φ := by
  refine en_X2_passesBy_i55_68 ?_
  refine c_hasLaw hb hβ (fun q => ?_) (fun q => ?_)
  · rw [if_neg (by decide)]
    have r5 := hT 5 (by omega)
    refine zle (fun g => ?_) (fun g => ?_)
    · rw [ti0] at g
      exact h0 σ (fun _ _ _ => rfl) (K63.refl σ) (fun w => by omega)
    · rw [ti0] at g
      refine c_passGives68 hb hβ q hT hB hn (fun σ' f k => ?_)
      by_cases e : ePs β T = 0
      · rw [if_pos e]
        exact h0 σ' f k (fun w => w.2.2 e)
      · rw [if_neg e]
        exact h1 σ' f k ⟨q, by omega, e⟩
  · rw [if_pos rfl]
    exact h0 σ (fun _ _ _ => rfl) (K63.refl σ) (fun w => by rw [q] at w; exact absurd w.1 (by decide))
theorem tly5 {p : Nat → Bool} {kd vl vt : Nat → Int} : ∀ n : Nat, 0 ≤ tly p kd vl vt n 5 ∧ (0 < tly p kd vl vt n 5 ↔ ∃ c, c < n ∧ p c = true)
  | 0 => ⟨Int.le_refl _, fun h => absurd h (Int.lt_irrefl _), fun ⟨c, hc, _⟩ => absurd hc (Nat.not_lt_zero c)⟩
  | n + 1 => by
    obtain ⟨i0, i1⟩ := tly5 (p := p) (kd := kd) (vl := vl) (vt := vt) n
    rw [tly_s]
    by_cases g : p n = true
    · rw [if_pos g]
      have e : tadd (kd n) (vl n) (vt n) (tly p kd vl vt n) 5 = tly p kd vl vt n 5 + 1 := rfl
      rw [e]
      exact ⟨by omega, fun _ => ⟨n, by omega, g⟩, fun _ => by omega⟩
    · rw [if_neg g]
      refine ⟨i0, fun h => ?_, fun h => ?_⟩
      · obtain ⟨c, hc, hp⟩ := i1.1 h
        exact ⟨c, by omega, hp⟩
      · obtain ⟨c, hc, hp⟩ := h
        refine i1.2 ⟨c, ?_, hp⟩
        by_cases e : c = n
        · subst e; exact absurd hp g
        · omega
theorem tly_congr {p p' : Nat → Bool} {kd vl vt vt' : Nat → Int} : ∀ n : Nat, (∀ i, i < n → p i = p' i ∧ (p i = true → vt i = vt' i)) → tly p kd vl vt n = tly p' kd vl vt' n
  | 0, _ => rfl
  | n + 1, h => by
    rw [tly_s, tly_s, tly_congr n (fun i hi => h i (by omega))]
    obtain ⟨h1, h2⟩ := h n (by omega)
    rw [← h1]
    by_cases g : p n = true
    · rw [if_pos g, if_pos g, h2 g]
    · rw [if_neg g, if_neg g]
/-- a class passes -/
def dpT (β : zMem) (T : Nat → Int) : Prop := β 72 46 = 1 ∧ 0 < T 5 ∧ ePs β T ≠ 0
def clT (β : zMem) (k : Nat) : Nat → Int := tly (bIn β k) (bK β) (bV β) (bVt β) (bN β)
theorem clT_TB {β : zMem} (h : Rall β) (k : Nat) : TB (bN β) (clT β k) := TB.tly (p := bIn β k) (vt := bVt β) (bN β) (bT_ok h)
theorem c_classPasses {G : zGT} {d : Nat} {Φ : Int32 → zMem → Prop} {β σ : zMem} {k : Nat} (hb : PB β σ) (hβ : Rall β) (hk : k < 6) (h1 : ∀ σ', PB β σ' → K63 σ σ' → dpT β (clT β k) → Φ 1 σ') (h0 : ∀ σ', PB β σ' → K63 σ σ' → ¬ dpT β (clT β k) → Φ 0 σ') : CTI G (d + 6) Y_X2_classPasses [.inr (.inr 55), .inl (nI k)] σ Φ := by
  refine en_X2_classPasses ?_
  refine c_tally62 hb hβ hk (fun σ1 f1 hT => ?_)
  have hb1 : PB β σ1 := hb.fr (FR.of (L := [62]) (fun a ha => f1 a (by simpa using ha)) (by intro a ha; simp only [List.mem_singleton] at ha; subst ha; decide))
  have k1 : K63 σ σ1 := K63.row (f1 63 (by decide))
  have fr : ∀ σ', (∀ a, a ≠ 63 → a ≠ 58 → σ' a = σ1 a) → PB β σ' := fun σ' f => hb1.fr (FR.of (L := [63, 58]) (fun a ha => f a (fun q => ha (by simp [q])) (fun q => ha (by simp [q]))) (by decide))
  refine c_passesBy62 hb1 hβ hT (clT_TB hβ k) (bN_24 hβ.any) (fun σ' f k2 g => ?_) (fun σ' f k2 g => ?_)
  · rw [if_pos (Or.inr rfl)]
    exact h1 σ' (fr σ' f) (k1.trans k2) g
  · rw [if_pos (Or.inl rfl)]
    exact h0 σ' (fr σ' f) (k1.trans k2) g
-- the reference
def IP (β : zMem) (S Y : Nat) (q : Nat → Int32) (τ : zMem) : Prop := PB β τ ∧ τ 72 61 = nI S ∧ τ 72 62 = nI Y ∧ τ 111 = q
theorem m_workP {G : zGT} {d : Nat} {Φ : Int32 → zMem → Prop} {β σ : zMem} {S Y : Nat} {q : Nat → Int32} (hβ : Rall β) (hlaw : β 72 46 = 1) (hi : IP β S Y q σ) (hS2 : S < 2147483648) (hY2 : Y < 2147483648) (hne : ∃ c, c < bN β ∧ S.testBit c = true)
    (h : ∀ σ', IP β S Y q σ' → Φ (ePs β (tly (fun c => S.testBit c) (bK β) (bV β) (vtY β Y) (bN β))) σ') : CTI G (d + 4) Y_X12_work [.inr (.inr 72), .inl 0, .inl (β 72 48)] σ Φ := by
  rcases lawOf hβ with ⟨q1, -⟩ | ⟨-, -, p, qq, r1, r2, r3, rp, rq, r4, r5, r6, r7, r8, r9⟩
  · rw [q1] at hlaw; exact absurd hlaw (by decide)
  refine en_X12_work ?_
  rw [hi.1.1.2 48 (by decide), r1, if_pos (by rw [fa_lt, ti0, tin (by omega)]; omega)]
  refine m_work110 (β := β) (N := isPn) (nm := fun L => Int32.ofInt (pvl (tly (fun c => S.testBit c) (bK β) (bV β) (vtY β Y) (bN β)) L)) (Inv := IP β S Y q) (to := p) (by omega) (fun τ ht => ⟨ht.1.1.1 106 (by decide) (by decide) (by decide), ht.1.1.1 107 (by decide) (by decide) (by decide)⟩) (fun τ j v ht => ?_) (fun τ L Ψ ht hL H => ?_) p 0 0 σ (by omega) (by omega) r8 hi (fun τ' ht => ?_)
  · refine ⟨ht.1.fr ((FR.refl τ).wr (Or.inl (by decide))), ?_, ?_, ?_⟩
    · rw [zwr_rne (by decide)]; exact ht.2.1
    · rw [zwr_rne (by decide)]; exact ht.2.2.1
    · rw [zwr_rne (by decide)]; exact ht.2.2.2
  · refine m_passName ht.1 hβ ht.2.1 hS2 ht.2.2.1 hY2 hne (fun v hv => ?_)
    rw [ofI_eq hv]
    exact H τ ht rfl
  · have e : (evf (β 106) (β 107) (fun L => Int32.ofInt (pvl (tly (fun c => S.testBit c) (bK β) (bV β) (vtY β Y) (bN β)) L)) p 0 (0, σ 110)).2 0 = ePs β (tly (fun c => S.testBit c) (bK β) (bV β) (vtY β Y) (bN β)) := by
      unfold ePs
      rw [r1, tin (by omega)]
      exact evf_agree p 0 0 _ _ r8 (fun j hj => absurd hj (Nat.not_lt_zero j)) 0 (by decide)
    rw [e]
    exact h τ' ht
theorem m_doesPassSet {G : zGT} {d : Nat} {Φ : Int32 → zMem → Prop} {β σ : zMem} {S Y : Nat} {q : Nat → Int32} (hβ : Rall β) (hb : PB β σ) (hY : σ 72 62 = nI Y) (h111 : σ 111 = q) (hS2 : S < 2147483648) (hY2 : Y < 2147483648) (hne : S ≠ 0 → ∃ c, c < bN β ∧ S.testBit c = true)
    (h1 : ∀ σ', IP β S Y q σ' → dpT β (tly (fun c => S.testBit c) (bK β) (bV β) (vtY β Y) (bN β)) → Φ 1 σ') (h0 : ∀ σ', IP β S Y q σ' → ¬ dpT β (tly (fun c => S.testBit c) (bK β) (bV β) (vtY β Y) (bN β)) → Φ 0 σ') : CTI G (d + 5) Y_X12_doesPassSet [.inr (.inr 72), .inl (nI S)] σ Φ := by
  refine en_X12_doesPassSet ?_
  rintro _ rfl
  have ip : IP β S Y q (zwr σ 72 61 (nI S)) := by
    refine ⟨hb.fr ((FR.refl σ).wr (Or.inr ⟨rfl, by decide⟩)), zwr_same _ _ _ _, ?_, ?_⟩
    · simp only [zwr_rne, zwr_req, upd_ne, upd_eq, ne_eq, Nat.reduceEqDiff, not_false_eq_true]; exact hY
    · rw [zwr_rne (by decide)]; exact h111
  have e46 : zwr σ 72 61 (nI S) 72 46 = β 72 46 := ip.1.1.2 46 (by decide)
  have e48 : zwr σ 72 61 (nI S) 72 48 = β 72 48 := ip.1.1.2 48 (by decide)
  rw [e46, e48]
  generalize zwr σ 72 61 (nI S) = σ1 at ip
  rcases lawOf hβ with ⟨q1, -⟩ | ⟨q1, -⟩
  · rw [q1, if_pos rfl]
    exact h0 σ1 ip (fun w => by have w1 := w.1; rw [q1] at w1; exact absurd w1 (by decide))
  · rw [q1, if_neg (by decide)]
    by_cases z : S = 0
    · subst z
      rw [if_pos (by rfl)]
      refine h0 σ1 ip (fun w => ?_)
      obtain ⟨c, hc, hp⟩ := (tly5 (bN β)).2.1 w.2.1
      rw [Nat.zero_testBit] at hp
      exact absurd hp (by decide)
    · rw [if_neg (by rw [fa_eq, tin (by omega), ti0]; omega)]
      have hne' := hne z
      refine m_workP hβ q1 ip hS2 hY2 hne' (fun σ' ip' => ?_)
      by_cases e : ePs β (tly (fun c => S.testBit c) (bK β) (bV β) (vtY β Y) (bN β)) = 0
      · rw [if_pos e]
        exact h0 σ' ip' (fun w => w.2.2 e)
      · rw [if_neg e]
        refine h1 σ' ip' ⟨q1, (tly5 (bN β)).2.2 hne', e⟩
theorem sob_any {p : Nat → Bool} {n : Nat} (h : sob p n ≠ 0) : ∃ c, c < n ∧ (sob p n).testBit c = true := by
  have : ¬ ∀ c, c < n → p c = false := fun q => h (sob_zero.2 q)
  have : ∃ c, ¬ (c < n → p c = false) := Classical.not_forall.1 this
  obtain ⟨c, hc⟩ := this
  have hc1 : c < n := Classical.byContradiction (fun q => hc (fun w => absurd w q))
  refine ⟨c, hc1, ?_⟩
  rw [sob_bit, decide_eq_true hc1, Bool.true_and]
  cases g : p c with
  | true => rfl
  | false => exact absurd (fun _ => g) hc
theorem clT_eq (β : zMem) (k : Nat) : tly (fun c => (sob (bIn β k) (bN β)).testBit c) (bK β) (bV β) (vtY β 0) (bN β) = clT β k := by
  refine tly_congr (bN β) (fun i hi => ⟨?_, fun _ => ?_⟩)
  · show (sob (bIn β k) (bN β)).testBit i = bIn β k i
    rw [sob_bit, decide_eq_true hi, Bool.true_and]
  · unfold vtY
    rw [Nat.zero_testBit]
    rfl
theorem m_doesPass {G : zGT} {d : Nat} {Φ : Int32 → zMem → Prop} {β σ : zMem} {k : Nat} (hβ : Rall β) (hb : PB β σ) (h1 : ∀ σ', PB β σ' → σ' 111 = σ 111 → dpT β (clT β k) → Φ 1 σ') (h0 : ∀ σ', PB β σ' → σ' 111 = σ 111 → ¬ dpT β (clT β k) → Φ 0 σ') : CTI G (d + 6) Y_X12_doesPass [.inr (.inr 72), .inl (nI k)] σ Φ := by
  have n24 := bN_24 hβ.any
  refine en_X12_doesPass ?_
  rintro _ rfl
  have hb1 : PB β (zwr σ 72 62 0) := hb.fr ((FR.refl σ).wr (Or.inr ⟨rfl, by decide⟩))
  refine m_setOf hb1 hβ ?_
  refine m_doesPassSet (S := sob (bIn β k) (bN β)) (Y := 0) (q := σ 111) hβ hb1 (zwr_same _ _ _ _) (by rw [zwr_rne (by decide)]) (sob_24 _ n24) (by decide) sob_any (fun σ' ip g => ?_) (fun σ' ip g => ?_)
  · rw [if_pos (Or.inr rfl)]
    rw [clT_eq] at g
    exact h1 σ' ip.1 ip.2.2.2 g
  · rw [if_pos (Or.inl rfl)]
    rw [clT_eq] at g
    exact h0 σ' ip.1 ip.2.2.2 g
