/-- the places b, .. of a row become f's -/
def zst (σ : zMem) (k b : Nat) (f : Nat → Int32) (n : Nat) : zMem := fun a c => if a = k ∧ b ≤ c ∧ c < b + n then f c else σ a c
def fst (g : Nat → Int32) (b : Nat) (f : Nat → Int32) (n : Nat) : Nat → Int32 := fun c => if b ≤ c ∧ c < b + n then f c else g c
theorem zst_rne {σ : zMem} {k b : Nat} {f : Nat → Int32} {n a : Nat} (h : a ≠ k) : zst σ k b f n a = σ a := by
  funext c; simp [zst, h]
theorem zst_req {σ : zMem} {k b : Nat} {f : Nat → Int32} {n : Nat} : zst σ k b f n k = fst (σ k) b f n := by
  funext c; simp [zst, fst]
theorem zst_0 {σ : zMem} {k b : Nat} {f : Nat → Int32} : zst σ k b f 0 = σ := by
  funext a c
  have : ¬ (a = k ∧ b ≤ c ∧ c < b + 0) := by omega
  simp only [zst, if_neg this]
theorem fst_in {g f : Nat → Int32} {b n i : Nat} (h : b ≤ i) (h2 : i < b + n) : fst g b f n i = f i := by simp [fst, h, h2]
theorem fst_out {g f : Nat → Int32} {b n i : Nat} (h : i < b ∨ b + n ≤ i) : fst g b f n i = g i := by
  have : ¬ (b ≤ i ∧ i < b + n) := by omega
  simp only [fst, if_neg this]
theorem zst_s {σ : zMem} {k b : Nat} {f : Nat → Int32} {n : Nat} : zwr (zst σ k b f n) k (b + n) (f (b + n)) = zst σ k b f (n + 1) := by
  funext a c
  simp only [zwr, zst]
  by_cases h1 : a = k <;> by_cases h2 : c = b + n
  · subst h1; subst h2; rw [if_pos ⟨rfl, rfl⟩, if_pos ⟨rfl, by omega, by omega⟩]
  · rw [if_neg (by omega)]
    by_cases h3 : a = k ∧ b ≤ c ∧ c < b + n
    · rw [if_pos h3, if_pos (by omega)]
    · rw [if_neg h3, if_neg (by omega)]
  · rw [if_neg (by omega), if_neg (by omega), if_neg (by omega)]
  · rw [if_neg (by omega), if_neg (by omega), if_neg (by omega)]
theorem zst_t {σ : zMem} {k b : Nat} {f : Nat → Int32} {n : Nat} : zwr (zst σ k (b + 1) f n) k b (f b) = zst σ k b f (n + 1) := by
  funext a c
  simp only [zwr, zst]
  by_cases h1 : a = k <;> by_cases h2 : c = b
  · subst h1; subst h2; rw [if_pos ⟨rfl, rfl⟩, if_pos ⟨rfl, by omega, by omega⟩]
  · rw [if_neg (by omega)]
    by_cases h3 : a = k ∧ b + 1 ≤ c ∧ c < b + 1 + n
    · rw [if_pos h3, if_pos (by omega)]
    · rw [if_neg h3, if_neg (by omega)]
  · rw [if_neg (by omega), if_neg (by omega), if_neg (by omega)]
  · rw [if_neg (by omega), if_neg (by omega), if_neg (by omega)]
theorem byte0 : (0 : Int32).toInt8.toInt32 = 0 := by decide
theorem Rsh.setB {i : Nat} {v : Int32} {xb xp mp mn : Nat → Int32} (h : Rsh xb xp mp mn) (h1 : -128 ≤ v.toInt) (h2 : v.toInt < 128) : Rsh (upd xb i v) xp mp (upd mn i v) := by
  refine ⟨h.1, fun j hj => ?_⟩
  by_cases e : j = i
  · subst e; rw [upd_eq, upd_eq]; exact ⟨rfl, h1, h2⟩
  · rw [upd_ne e, upd_ne e]; exact h.2 j hj
theorem Rsh.setP {i : Nat} {v : Int32} {xb xp mp mn : Nat → Int32} (h : Rsh xb xp mp mn) (h1 : 0 ≤ v.toInt) (h2 : v.toInt ≤ 24) : Rsh xb (upd xp i v) (upd mp i v) mn := by
  refine ⟨fun j hj => ?_, h.2⟩
  by_cases e : j = i
  · subst e; rw [upd_eq, upd_eq, enc_nn h1]; exact ⟨rfl, by omega, h2⟩
  · rw [upd_ne e, upd_ne e]; exact h.1 j hj
theorem Rsh.fill {b n : Nat} {f f' : Nat → Int32} {xb xp mp mn : Nat → Int32} (h : Rsh xb xp mp mn) (h1 : ∀ i, b ≤ i → i < b + n → f i = f' i ∧ -128 ≤ (f' i).toInt ∧ (f' i).toInt < 128) : Rsh (fst xb b f n) xp mp (fst mn b f' n) := by
  refine ⟨h.1, fun j hj => ?_⟩
  by_cases e : b ≤ j ∧ j < b + n
  · rw [fst_in e.1 e.2, fst_in e.1 e.2]; exact h1 j e.1 e.2
  · rw [fst_out (by omega), fst_out (by omega)]; exact h.2 j hj
theorem xr_sheet {G : zGT} {d : Nat} {Φ : Int32 → zMem → Prop} {σ : zMem} {s n : Nat} (hs : s < 2) (hn : n ≤ 24) (h : Φ (nI n) (zst σ 70 (24 * s) (fun _ => 0) n)) :
    ∀ m i : Nat, i + m = n → WJ G M_X11_sheet (d + 1) (RI Φ) 33 [some (.inr (.inr 0)), some (.inl (nI s)), some (.inl (nI n)), some (.inl (nI i))] [] (zst σ 70 (24 * s) (fun _ => 0) i) := by
  intro m
  induction m with
  | zero =>
    intro i hi
    refine rg_X11_sheet_33 ?_
    have : i = n := by omega
    subst this
    rw [if_pos (nI_le (by omega) (by omega))]
    exact h
  | succ m ih =>
    intro i hi
    refine rg_X11_sheet_33 ?_
    have c1 : (nI (24 * s + i)).toNatClampNeg = 24 * s + i := cln (by omega)
    rw [if_neg (nI_ge (by omega) (by omega)), ix24, c1, byte0]
    refine ⟨vin (by omega), ?_⟩
    rintro _ rfl
    rw [nI_1, zst_s (f := fun _ => 0)]
    exact ih (i + 1) (by omega)
theorem mr_sheet {G : zGT} {d : Nat} {Φ : Int32 → zMem → Prop} {σ : zMem} {s n : Nat} (hs : s < 2) (hn : n ≤ 24) (h : Φ (nI n) (zst σ 97 (24 * s) (fun _ => 0) n)) :
    ∀ m i : Nat, i + m = n → WJ G M_X12_sheet (d + 1) (RI Φ) 33 [some (.inr (.inr 72)), some (.inl (nI s)), some (.inl (nI n)), some (.inl (nI i))] [] (zst σ 97 (24 * s) (fun _ => 0) i) := by
  intro m
  induction m with
  | zero =>
    intro i hi
    refine rg_X12_sheet_33 ?_
    have : i = n := by omega
    subst this
    rw [if_pos (nI_le (by omega) (by omega))]
    exact h
  | succ m ih =>
    intro i hi
    refine rg_X12_sheet_33 ?_
    have c1 : (nI (24 * s + i)).toNatClampNeg = 24 * s + i := cln (by omega)
    rw [if_neg (nI_ge (by omega) (by omega)), ix24', c1]
    refine ⟨vin (by omega), ?_⟩
    rintro _ rfl
    rw [nI_1, zst_s (f := fun _ => 0)]
    exact ih (i + 1) (by omega)
theorem P_sheet {G : zGT} {d : Nat} {v1 v2 : Int32} : Pair G (d + 2) Y_X11_sheet Y_X12_sheet [.inl v1, .inl v2] := by
  intro σ h
  have hh := h
  obtain ⟨⟨k1, k2, k3, k4, k5, k6, k7, k8, k9⟩, kas, kcl, kda, kdh, kpl, kkp, ksh, kwt, ktp, klw, ksd, kw0, kw1⟩ := h
  obtain ⟨e1, b1, u1⟩ := id k1
  obtain ⟨e2, b2, u2⟩ := id k2
  obtain ⟨e3, b3, u3⟩ := id k3
  obtain ⟨e4, b4, u4⟩ := id k4
  obtain ⟨e5, b5, u5⟩ := id k5
  obtain ⟨e6, b6, u6⟩ := id k6
  obtain ⟨e7, b7, u7⟩ := id k7
  obtain ⟨e8, b8, u8⟩ := id k8
  obtain ⟨e9, b9, u9⟩ := id k9
  have t24 : (24 : Int32).toInt = 24 := rfl
  refine en_X11_sheet ?_
  refine c_isSheet (fun w1 w2 => ?_) (fun w => ?_)
  · rw [if_neg (by decide)]
    obtain ⟨s, rfl, hs, hs3⟩ := num_of w1 w2
    have cs : (nI s).toNatClampNeg = s := cln (by omega)
    have vs : vp_in (nI s) 2 := vin (by omega)
    have pre : ∀ (Φ : Int32 → zMem → Prop) (τ : zMem), (if v2 ≤ 24 then (if 0 ≤ v2 then (vp_in (nI s) 2 ∧ ∀ s3 : zMem, s3 = zwr τ 96 s v2 → (WJ G M_X12_sheet (d + 2) (RI Φ) 33 [some (.inr (.inr 72)), some (.inl (nI s)), some (.inl v2), some (.inl 0)] [] s3)) else (Φ (-1000000014) τ)) else (Φ (-1000000001) τ)) → CTI G (d + 2) Y_X12_sheet [.inr (.inr 72), .inl (nI s), .inl v2] τ Φ := by
      intro Φ τ q
      refine en_X12_sheet ?_
      refine m_isSheet (fun _ _ => ?_) (fun q => by omega)
      rw [if_neg (by decide), cs]
      exact q
    by_cases g1 : v2 ≤ 24
    · by_cases g2 : 0 ≤ v2
      · rw [if_pos g1, if_pos g2, cs]
        have g1' : v2.toInt ≤ 24 := by rw [fa_le, t24] at g1; exact g1
        have g2' : 0 ≤ v2.toInt := by rw [fa_le, ti0] at g2; exact g2
        obtain ⟨n, rfl, hn2, hn3⟩ := num_of g2' g1'
        refine ⟨vs, ?_⟩
        rintro _ rfl
        have X := @xr_sheet G (d + 1) (fun r σ1 => CTI G (d + 2) Y_X12_sheet [.inr (.inr 72), .inl (nI s), .inl (nI n)] σ1 (fun r' σ2 => r = r' ∧ Rall σ2)) (zwr σ 71 s (nI n)) s n (by omega) (by omega) ?_ n 0 (by omega)
        · rw [zst_0] at X
          exact X
        · refine pre _ _ ?_
          rw [if_pos g1, if_pos g2]
          refine ⟨vs, ?_⟩
          rintro _ rfl
          have X := @mr_sheet G (d + 1) (fun r' σ2 => nI n = r' ∧ Rall σ2) (zwr (zst (zwr σ 71 s (nI n)) 70 (24 * s) (fun _ => 0) n) 96 s (nI n)) s n (by omega) (by omega) ?_ n 0 (by omega)
          · rw [zst_0] at X
            exact X
          · unfold Rall
            simp only [zwr_rne, zwr_req, upd_ne, upd_eq, ne_eq, Nat.reduceEqDiff, not_false_eq_true, zst_rne, zst_req]
            exact ⟨trivial, ⟨k1, k2, k3, k4, k5, k6, k7, k8, k9⟩, kas, kcl, kda, kdh, kpl, kkp, (ksh.setP g2' g1').fill (fun _ _ _ => ⟨rfl, by decide, by decide⟩), kwt, ktp, klw, ksd, kw0, kw1⟩
      · rw [if_pos g1, if_neg g2]
        refine pre _ _ ?_
        rw [if_pos g1, if_neg g2]
        exact ⟨rfl, hh⟩
    · rw [if_neg g1]
      refine pre _ _ ?_
      rw [if_neg g1]
      exact ⟨rfl, hh⟩
  · rw [if_pos rfl]
    refine en_X12_sheet ?_
    refine m_isSheet (fun _ _ => by omega) (fun q => ?_)
    rw [if_pos rfl]
    exact ⟨rfl, hh⟩
theorem P_mark {G : zGT} {d : Nat} {v1 v2 v3 : Int32} : Pair G (d + 2) Y_X11_mark Y_X12_mark [.inl v1, .inl v2, .inl v3] := by
  intro σ h
  have hh := h
  obtain ⟨⟨k1, k2, k3, k4, k5, k6, k7, k8, k9⟩, kas, kcl, kda, kdh, kpl, kkp, ksh, kwt, ktp, klw, ksd, kw0, kw1⟩ := h
  obtain ⟨e1, b1, u1⟩ := id k1
  obtain ⟨e2, b2, u2⟩ := id k2
  obtain ⟨e3, b3, u3⟩ := id k3
  obtain ⟨e4, b4, u4⟩ := id k4
  obtain ⟨e5, b5, u5⟩ := id k5
  obtain ⟨e6, b6, u6⟩ := id k6
  obtain ⟨e7, b7, u7⟩ := id k7
  obtain ⟨e8, b8, u8⟩ := id k8
  obtain ⟨e9, b9, u9⟩ := id k9
  refine en_X11_mark ?_
  refine c_isSheet (fun w1 w2 => ?_) (fun w => ?_)
  · rw [if_neg (by decide)]
    obtain ⟨s, rfl, hs, hs3⟩ := num_of w1 w2
    have cs : (nI s).toNatClampNeg = s := cln (by omega)
    have vs : vp_in (nI s) 2 := vin (by omega)
    obtain ⟨z1, z2, z3⟩ := ksh.1 s (by omega)
    rw [cs]
    refine ⟨vs, ?_⟩
    by_cases g : σ 96 s = -1
    · rw [z1, g, enc_m1, if_neg (by decide)]
      refine en_X12_mark ?_
      refine m_isSheet (fun _ _ => ?_) (fun q => by omega)
      rw [if_neg (by decide), cs, g, if_neg (by decide)]
      exact ⟨vs, rfl, hh⟩
    · have g1 : 0 ≤ (σ 96 s).toInt := by rw [fa_eq, tim1] at g; omega
      rw [z1, enc_nn g1, if_pos (by rw [fa_le, ti0]; exact g1)]
      have tm : (σ 96 s - 1).toInt = (σ 96 s).toInt - 1 := by
        have := fb_rng (σ 96 s)
        rw [fb_subI (by rw [ti1]; omega) (by rw [ti1]; omega), ti1]
      have bad : (v2.toInt < 0 ∨ (σ 96 s).toInt ≤ v2.toInt) → CTI G (d + 2) Y_X12_mark [.inr (.inr 72), .inl (nI s), .inl v2, .inl v3] σ (fun r' σ2 => -1000000013 = r' ∧ Rall σ2) := by
        intro q
        refine en_X12_mark ?_
        refine m_isSheet (fun _ _ => ?_) (fun q => by omega)
        rw [if_neg (by decide), cs, if_pos (by rw [fa_le, ti0]; exact g1)]
        refine ⟨vs, vs, ?_⟩
        refine m_isIn (fun p r => ?_) (fun _ => ?_)
        · rw [ti0] at p
          rw [tm] at r
          omega
        · rw [if_pos rfl]
          exact ⟨rfl, hh⟩
      refine zlt (fun a => bad (Or.inl a)) (fun a => ⟨vs, ?_⟩)
      rw [ti0] at a
      refine zlt (fun b => ?_) (fun b => bad (Or.inr b))
      obtain ⟨p, rfl, hp2, hp3⟩ := num_of a (show v2.toInt ≤ 24 by omega)
      have tp := tin hp3
      have c1 : (nI (24 * s + p)).toNatClampNeg = 24 * s + p := cln (by omega)
      have v48 : vp_in (nI (24 * s + p)) 48 := vin (by omega)
      rw [ix24, c1]
      obtain ⟨r1, r2⟩ := fb_byte_rng v3
      rw [fb_byte r1 r2]
      refine ⟨v48, v48, ?_⟩
      rintro _ rfl
      refine en_X12_mark ?_
      refine m_isSheet (fun _ _ => ?_) (fun q => by omega)
      simp only [zwr_rne, zwr_req, upd_ne, upd_eq, ne_eq, Nat.reduceEqDiff, not_false_eq_true]
      rw [if_neg (by decide), cs, if_pos (by rw [fa_le, ti0]; exact g1)]
      refine ⟨vs, vs, ?_⟩
      refine m_isIn (fun _ _ => ?_) (fun q => by rw [ti0, tm] at q; omega)
      rw [if_neg (by decide), ix24', c1]
      refine ⟨v48, v48, ?_⟩
      rintro _ rfl
      unfold Rall
      simp only [zwr_rne, zwr_req, upd_ne, upd_eq, ne_eq, Nat.reduceEqDiff, not_false_eq_true]
      exact ⟨(ksh.2 _ (by omega)).1, ⟨k1, k2, k3, k4, k5, k6, k7, k8, k9⟩, kas, kcl, kda, kdh, kpl, kkp, ksh.setB r1 r2, kwt, ktp, klw, ksd, kw0, kw1⟩
  · rw [if_pos rfl]
    refine en_X12_mark ?_
    refine m_isSheet (fun _ _ => by omega) (fun q => ?_)
    rw [if_pos rfl]
    exact ⟨rfl, hh⟩
theorem zlg {x y : Int64} {A B : Prop} (h1 : y.toInt < x.toInt → A) (h2 : x.toInt ≤ y.toInt → B) : if 0 < lg_cmp x y then A else B := by
  by_cases h : 0 < lg_cmp x y
  · rw [if_pos h]; rw [lg_cmp_gt, fa_lt64] at h; exact h1 h
  · rw [if_neg h]; rw [lg_cmp_gt, fa_lt64] at h; exact h2 (by omega)
theorem zlgl {x y : Int64} {A B : Prop} (h1 : x.toInt ≤ y.toInt → A) (h2 : y.toInt < x.toInt → B) : if lg_cmp x y ≤ 0 then A else B := by
  by_cases h : lg_cmp x y ≤ 0
  · rw [if_pos h]; rw [lg_cmp_le, fa_le64] at h; exact h1 h
  · rw [if_neg h]; rw [lg_cmp_le, fa_le64] at h; exact h2 (by omega)
theorem c_hasPlaces {G : zGT} {d : Nat} {Φ : Int32 → zMem → Prop} {σ : zMem} {s : Nat} {a b : Int32} (hs : s < 2) (p0 : 0 ≤ (σ 71 s).toInt) (h1 : 0 ≤ a.toInt → 0 ≤ b.toInt → a.toInt + b.toInt ≤ (σ 71 s).toInt → Φ 1 σ) (h0 : a.toInt < 0 ∨ b.toInt < 0 ∨ (σ 71 s).toInt < a.toInt + b.toInt → Φ 0 σ) : CTI G d Y_X11_hasPlaces [.inr (.inr 0), .inl (nI s), .inl a, .inl b] σ Φ := by
  refine en_X11_hasPlaces ?_
  have cs : (nI s).toNatClampNeg = s := cln (by omega)
  have vs : vp_in (nI s) 2 := vin (by omega)
  have r1 := fb_rng (σ 71 s)
  rw [cs]
  refine zlt (fun q => h0 (Or.inr (Or.inl (by rw [ti0] at q; exact q)))) (fun q1 => ?_)
  rw [ti0] at q1
  refine zlt (fun q => h0 (Or.inl (by rw [ti0] at q; exact q))) (fun q2 => ⟨vs, ?_⟩)
  rw [ti0] at q2
  refine zlt (fun q => h0 (Or.inr (Or.inr (by omega)))) (fun q3 => ⟨vs, ?_⟩)
  have e : (σ 71 s - a).toInt = (σ 71 s).toInt - a.toInt := fb_subI (by omega) (by omega)
  refine zlt (fun q => h0 (Or.inr (Or.inr (by omega)))) (fun q4 => h1 q2 q1 (by omega))
theorem nI_sub1 {k i : Nat} (h : i + 1 ≤ k) : nI k - 1 - nI i = nI (k - 1 - i) := by
  have e1 : nI k = nI (k - 1 - i) + nI i + 1 := by
    rw [nI_add, nI_1]; congr 1; omega
  rw [e1, Int32.add_sub_cancel, Int32.add_sub_cancel]
theorem xr_copy {G : zGT} {d : Nat} {Φ : Int32 → zMem → Prop} {σ : zMem} {p t n : Nat} (hp : p + n ≤ 48) (ht : t + n ≤ 48) (hb : ∀ i, i < 48 → -128 ≤ (σ 70 i).toInt ∧ (σ 70 i).toInt < 128) (h : Φ (nI n) (zst σ 70 t (fun c => σ 70 (c - t + p)) n)) :
    WJ G M_X11_copy (d + 1) (RI Φ) 86 [some (.inr (.inr 0)), none, none, none, none, some (.inl (nI n)), some (.inl (nI p)), some (.inl (nI t)), some (.inl 0), none] [] σ := by
  by_cases hd : t ≤ p
  · have L : ∀ m i : Nat, i + m = n → WJ G M_X11_copy (d + 1) (RI Φ) 86 [some (.inr (.inr 0)), none, none, none, none, some (.inl (nI n)), some (.inl (nI p)), some (.inl (nI t)), some (.inl (nI i)), none] [] (zst σ 70 t (fun c => σ 70 (c - t + p)) i) := by
      intro m
      induction m with
      | zero =>
        intro i hi
        refine rg_X11_copy_86 ?_
        have : i = n := by omega
        subst this
        rw [if_pos (nI_le (by omega) (by omega))]
        exact h
      | succ m ih =>
        intro i hi
        refine rg_X11_copy_86 ?_
        have c1 : (nI (p + i)).toNatClampNeg = p + i := cln (by omega)
        have c2 : (nI (t + i)).toNatClampNeg = t + i := cln (by omega)
        rw [if_neg (nI_ge (by omega) (by omega)), if_neg (by rw [fa_lt, tin (by omega), tin (by omega)]; omega), nI_add, nI_add, c1, c2, zst_req, fst_out (by omega), fb_byte (hb _ (by omega)).1 (hb _ (by omega)).2]
        refine ⟨vin (by omega), vin (by omega), ?_⟩
        rintro _ rfl
        have e : σ 70 (p + i) = (fun c => σ 70 (c - t + p)) (t + i) := by
          show σ 70 (p + i) = σ 70 (t + i - t + p)
          congr 1; omega
        rw [nI_1, e, zst_s]
        exact ih (i + 1) (by omega)
    have := L n 0 (by omega)
    rw [zst_0] at this
    exact this
  · have L : ∀ m i : Nat, i + m = n → WJ G M_X11_copy (d + 1) (RI Φ) 86 [some (.inr (.inr 0)), none, none, none, none, some (.inl (nI n)), some (.inl (nI p)), some (.inl (nI t)), some (.inl (nI i)), none] [] (zst σ 70 (t + n - i) (fun c => σ 70 (c - t + p)) i) := by
      intro m
      induction m with
      | zero =>
        intro i hi
        refine rg_X11_copy_86 ?_
        have : i = n := by omega
        subst this
        rw [if_pos (nI_le (by omega) (by omega)), Nat.add_sub_cancel]
        exact h
      | succ m ih =>
        intro i hi
        refine rg_X11_copy_86 ?_
        have c1 : (nI (p + (n - 1 - i))).toNatClampNeg = p + (n - 1 - i) := cln (by omega)
        have c2 : (nI (t + (n - 1 - i))).toNatClampNeg = t + (n - 1 - i) := cln (by omega)
        rw [if_neg (nI_ge (by omega) (by omega)), if_pos (by rw [fa_lt, tin (by omega), tin (by omega)]; omega), nI_sub1 (by omega), nI_add, nI_add, c1, c2, zst_req, fst_out (by omega), fb_byte (hb _ (by omega)).1 (hb _ (by omega)).2]
        refine ⟨vin (by omega), vin (by omega), ?_⟩
        rintro _ rfl
        have e : σ 70 (p + (n - 1 - i)) = (fun c => σ 70 (c - t + p)) (t + (n - 1 - i)) := by
          show σ 70 (p + (n - 1 - i)) = σ 70 (t + (n - 1 - i) - t + p)
          congr 1; omega
        have e2 : t + n - i = t + (n - 1 - i) + 1 := by omega
        rw [nI_1, e, e2, zst_t]
        have e3 : t + (n - 1 - i) = t + n - (i + 1) := by omega
        rw [e3]
        exact ih (i + 1) (by omega)
    have := L n 0 (by omega)
    rw [zst_0] at this
    exact this
theorem mr_copy {G : zGT} {d : Nat} {Φ : Int32 → zMem → Prop} {σ : zMem} {a p b t n : Nat} (hp : 24 * a + p + n ≤ 48) (ht : 24 * b + t + n ≤ 48) (hn : n ≤ 24) (h : Φ (nI n) (zst (zfl σ 113 (fun i => σ 97 (24 * a + p + i)) n) 97 (24 * b + t) (fun c => σ 97 (c - (24 * b + t) + (24 * a + p))) n)) :
    WJ G M_X12_copy (d + 1) (RI Φ) 94 [some (.inr (.inr 72)), some (.inl (nI a)), some (.inl (nI p)), some (.inl (nI b)), some (.inl (nI t)), some (.inl (nI n)), some (.inl 0)] [] σ := by
  have L2 : ∀ m i : Nat, i + m = n → WJ G M_X12_copy (d + 1) (RI Φ) 131 [some (.inr (.inr 72)), none, none, some (.inl (nI b)), some (.inl (nI t)), some (.inl (nI n)), some (.inl (nI i))] [] (zst (zfl σ 113 (fun i => σ 97 (24 * a + p + i)) n) 97 (24 * b + t) (fun c => σ 97 (c - (24 * b + t) + (24 * a + p))) i) := by
    intro m
    induction m with
    | zero =>
      intro i hi
      refine rg_X12_copy_131 ?_
      have : i = n := by omega
      subst this
      rw [if_pos (nI_le (by omega) (by omega))]
      exact h
    | succ m ih =>
      intro i hi
      refine rg_X12_copy_131 ?_
      have c1 : (nI (24 * b + t + i)).toNatClampNeg = 24 * b + t + i := cln (by omega)
      have c2 : (nI i).toNatClampNeg = i := cln (by omega)
      rw [if_neg (nI_ge (by omega) (by omega)), ix24', nI_add, c1, c2, zst_rne (by decide), zfl_req, ffl_in (by omega)]
      refine ⟨vin (by omega), vin (by omega), ?_⟩
      rintro _ rfl
      have e : σ 97 (24 * a + p + i) = (fun c => σ 97 (c - (24 * b + t) + (24 * a + p))) (24 * b + t + i) := by
        show σ 97 (24 * a + p + i) = σ 97 (24 * b + t + i - (24 * b + t) + (24 * a + p))
        congr 1; omega
      rw [nI_1, e, zst_s]
      exact ih (i + 1) (by omega)
  have L1 : ∀ m i : Nat, i + m = n → WJ G M_X12_copy (d + 1) (RI Φ) 94 [some (.inr (.inr 72)), some (.inl (nI a)), some (.inl (nI p)), some (.inl (nI b)), some (.inl (nI t)), some (.inl (nI n)), some (.inl (nI i))] [] (zfl σ 113 (fun i => σ 97 (24 * a + p + i)) i) := by
    intro m
    induction m with
    | zero =>
      intro i hi
      refine rg_X12_copy_94 ?_
      have : i = n := by omega
      subst this
      rw [if_pos (nI_le (by omega) (by omega))]
      have := L2 i 0 (by omega)
      rw [zst_0] at this
      exact this
    | succ m ih =>
      intro i hi
      refine rg_X12_copy_94 ?_
      have c1 : (nI (24 * a + p + i)).toNatClampNeg = 24 * a + p + i := cln (by omega)
      have c2 : (nI i).toNatClampNeg = i := cln (by omega)
      rw [if_neg (nI_ge (by omega) (by omega)), ix24', nI_add, c1, c2, zfl_rne (by decide)]
      refine ⟨vin (by omega), vin (by omega), ?_⟩
      rintro _ rfl
      rw [nI_1, zfl_s1 (f := fun i => σ 97 (24 * a + p + i))]
      exact ih (i + 1) (by omega)
  have := L1 n 0 (by omega)
  rw [zfl_0] at this
  exact this
theorem P_copy {G : zGT} {d : Nat} {v1 v2 v3 v4 v5 : Int32} : Pair G (d + 2) Y_X11_copy Y_X12_copy [.inl v1, .inl v2, .inl v3, .inl v4, .inl v5] := by
  intro σ h
  have hh := h
  obtain ⟨⟨k1, k2, k3, k4, k5, k6, k7, k8, k9⟩, kas, kcl, kda, kdh, kpl, kkp, ksh, kwt, ktp, klw, ksd, kw0, kw1⟩ := h
  obtain ⟨e1, b1, u1⟩ := id k1
  obtain ⟨e2, b2, u2⟩ := id k2
  obtain ⟨e3, b3, u3⟩ := id k3
  obtain ⟨e4, b4, u4⟩ := id k4
  obtain ⟨e5, b5, u5⟩ := id k5
  obtain ⟨e6, b6, u6⟩ := id k6
  obtain ⟨e7, b7, u7⟩ := id k7
  obtain ⟨e8, b8, u8⟩ := id k8
  obtain ⟨e9, b9, u9⟩ := id k9
  have P1 : ∀ (τ : zMem) (Φ : Int32 → zMem → Prop), (v1.toInt < 0 ∨ 1 < v1.toInt ∨ v3.toInt < 0 ∨ 1 < v3.toInt) → Φ (-1000000001) τ → CTI G (d + 2) Y_X12_copy [.inr (.inr 72), .inl v1, .inl v2, .inl v3, .inl v4, .inl v5] τ Φ := by
    intro τ Φ q hq
    refine en_X12_copy ?_
    refine m_isSheet (fun a1 a2 => ?_) (fun _ => ?_)
    · rw [if_neg (by decide)]
      refine m_isSheet (fun _ _ => by omega) (fun _ => ?_)
      rw [if_pos rfl]
      exact hq
    · rw [if_pos rfl]
      exact hq
  refine en_X11_copy ?_
  refine c_isSheet (fun w1 w2 => ?_) (fun w => ?_)
  rotate_left
  · rw [if_pos rfl]
    exact P1 _ _ (by omega) ⟨rfl, hh⟩
  rw [if_neg (by decide)]
  refine c_isSheet (fun w3 w4 => ?_) (fun w => ?_)
  rotate_left
  · rw [if_pos rfl]
    exact P1 _ _ (by omega) ⟨rfl, hh⟩
  rw [if_neg (by decide)]
  obtain ⟨a, rfl, ha, ha3⟩ := num_of w1 w2
  obtain ⟨b, rfl, hb, hb3⟩ := num_of w3 w4
  have ca : (nI a).toNatClampNeg = a := cln (by omega)
  have cb : (nI b).toNatClampNeg = b := cln (by omega)
  have va : vp_in (nI a) 2 := vin (by omega)
  have vb : vp_in (nI b) 2 := vin (by omega)
  obtain ⟨y1, y2, y3⟩ := ksh.1 a (by omega)
  obtain ⟨z1, z2, z3⟩ := ksh.1 b (by omega)
  rw [ca, cb]
  have pre : ∀ (Φ : Int32 → zMem → Prop) (τ : zMem), (vp_in (nI a) 2 ∧ (if (τ 96 a) < 0 then (Φ (-1000000011) τ) else (vp_in (nI b) 2 ∧ (if 0 ≤ (τ 96 b) then (if v2 < 0 then (Φ (-1000000013) τ) else (if v4 < 0 then (Φ (-1000000013) τ) else (if v5 < 0 then (Φ (-1000000013) τ) else (vp_in (nI a) 2 ∧ (if 0 < (lg_cmp (v2.toInt64 + v5.toInt64) (τ 96 a).toInt64) then (Φ (-1000000013) τ) else (vp_in (nI b) 2 ∧ (if (lg_cmp (v4.toInt64 + v5.toInt64) (τ 96 b).toInt64) ≤ 0 then WJ G M_X12_copy (d + 2) (RI Φ) 94 [some (.inr (.inr 72)), some (.inl (nI a)), some (.inl v2), some (.inl (nI b)), some (.inl v4), some (.inl v5), some (.inl 0)] [] τ else (Φ (-1000000013) τ)))))))) else (Φ (-1000000011) τ))))) → CTI G (d + 2) Y_X12_copy [.inr (.inr 72), .inl (nI a), .inl v2, .inl (nI b), .inl v4, .inl v5] τ Φ := by
    intro Φ τ q
    refine en_X12_copy ?_
    refine m_isSheet (fun _ _ => ?_) (fun q => by omega)
    rw [if_neg (by decide)]
    refine m_isSheet (fun _ _ => ?_) (fun q => by omega)
    rw [if_neg (by decide), ca, cb]
    exact q
  refine ⟨va, ?_⟩
  by_cases ga : σ 96 a = -1
  · rw [y1, ga, enc_m1, if_pos (by decide)]
    refine pre _ _ ⟨va, ?_⟩
    rw [ga, if_pos (by decide)]
    exact ⟨rfl, hh⟩
  have ga1 : 0 ≤ (σ 96 a).toInt := by rw [fa_eq, tim1] at ga; omega
  rw [y1, enc_nn ga1, if_neg (by rw [fa_lt, ti0]; omega)]
  refine ⟨vb, ?_⟩
  by_cases gb : σ 96 b = -1
  · rw [z1, gb, enc_m1, if_neg (by decide)]
    refine pre _ _ ⟨va, ?_⟩
    rw [if_neg (by rw [fa_lt, ti0]; omega)]
    refine ⟨vb, ?_⟩
    rw [gb, if_neg (by decide)]
    exact ⟨rfl, hh⟩
  have gb1 : 0 ≤ (σ 96 b).toInt := by rw [fa_eq, tim1] at gb; omega
  rw [z1, enc_nn gb1, if_pos (by rw [fa_le, ti0]; exact gb1)]
  have s1 : (v2.toInt64 + v5.toInt64).toInt = v2.toInt + v5.toInt := by
    have r1 := fb_rng v2
    have r2 := fb_rng v5
    rw [fb_addL (by rw [Int32.toInt_toInt64, Int32.toInt_toInt64]; omega) (by rw [Int32.toInt_toInt64, Int32.toInt_toInt64]; omega), Int32.toInt_toInt64, Int32.toInt_toInt64]
  have s2 : (v4.toInt64 + v5.toInt64).toInt = v4.toInt + v5.toInt := by
    have r1 := fb_rng v4
    have r2 := fb_rng v5
    rw [fb_addL (by rw [Int32.toInt_toInt64, Int32.toInt_toInt64]; omega) (by rw [Int32.toInt_toInt64, Int32.toInt_toInt64]; omega), Int32.toInt_toInt64, Int32.toInt_toInt64]
  have bad : (v2.toInt < 0 ∨ v4.toInt < 0 ∨ v5.toInt < 0 ∨ (σ 96 a).toInt < v2.toInt + v5.toInt ∨ (σ 96 b).toInt < v4.toInt + v5.toInt) → CTI G (d + 2) Y_X12_copy [.inr (.inr 72), .inl (nI a), .inl v2, .inl (nI b), .inl v4, .inl v5] σ (fun r' σ2 => -1000000013 = r' ∧ Rall σ2) := by
    intro q
    refine pre _ _ ⟨va, ?_⟩
    rw [if_neg (by rw [fa_lt, ti0]; omega)]
    refine ⟨vb, ?_⟩
    rw [if_pos (by rw [fa_le, ti0]; exact gb1)]
    have l0 := ti0
    refine zlt (fun _ => ⟨rfl, hh⟩) (fun m1 => ?_)
    refine zlt (fun _ => ⟨rfl, hh⟩) (fun m2 => ?_)
    refine zlt (fun _ => ⟨rfl, hh⟩) (fun m3 => ⟨va, ?_⟩)
    refine zlg (fun _ => ⟨rfl, hh⟩) (fun m4 => ⟨vb, ?_⟩)
    refine zlgl (fun m5 => ?_) (fun _ => ⟨rfl, hh⟩)
    rw [s1, Int32.toInt_toInt64] at m4
    rw [s2, Int32.toInt_toInt64] at m5
    exfalso
    omega
  have yy : σ 71 a = σ 96 a := by rw [y1, enc_nn ga1]
  have zz : σ 71 b = σ 96 b := by rw [z1, enc_nn gb1]
  refine c_hasPlaces (by omega) (by rw [yy]; exact ga1) (fun x1 x2 x3 => ?_) (fun x => ?_)
  rotate_left
  · rw [if_pos rfl]
    exact bad (by rw [yy] at x; omega)
  rw [if_neg (by decide)]
  refine c_hasPlaces (by omega) (by rw [zz]; exact gb1) (fun x4 x5 x6 => ?_) (fun x => ?_)
  rotate_left
  · rw [if_pos rfl]
    exact bad (by rw [zz] at x; omega)
  rw [if_neg (by decide)]
  rw [yy] at x3
  rw [zz] at x6
  obtain ⟨p, rfl, hp2, hp3⟩ := num_of x1 (show v2.toInt ≤ 24 by omega)
  obtain ⟨t, rfl, ht2, ht3⟩ := num_of x4 (show v4.toInt ≤ 24 by omega)
  obtain ⟨n, rfl, hn2, hn3⟩ := num_of x2 (show v5.toInt ≤ 24 by omega)
  rw [tin hp3] at x3 s1
  rw [tin ht3] at x6 s2
  rw [tin hn3] at x3 x6 s1 s2
  rw [ix24, ix24]
  refine xr_copy (by omega) (by omega) (fun i hi => by rw [(ksh.2 i hi).1]; exact (ksh.2 i hi).2) ?_
  refine pre _ _ ⟨va, ?_⟩
  simp only [zwr_rne, zwr_req, upd_ne, upd_eq, ne_eq, Nat.reduceEqDiff, not_false_eq_true, zst_rne]
  rw [if_neg (by rw [fa_lt, ti0]; omega)]
  refine ⟨vb, ?_⟩
  rw [if_pos (by rw [fa_le, ti0]; exact gb1)]
  rw [if_neg (by rw [fa_lt, ti0, tin hp3]; omega), if_neg (by rw [fa_lt, ti0, tin ht3]; omega), if_neg (by rw [fa_lt, ti0, tin hn3]; omega)]
  refine ⟨va, ?_⟩
  refine zlg (fun q => by rw [s1, Int32.toInt_toInt64] at q; omega) (fun _ => ⟨vb, ?_⟩)
  refine zlgl (fun _ => ?_) (fun q => by rw [s2, Int32.toInt_toInt64] at q; omega)
  refine mr_copy (by omega) (by omega) (by omega) ?_
  unfold Rall
  simp only [zwr_rne, zwr_req, upd_ne, upd_eq, ne_eq, Nat.reduceEqDiff, not_false_eq_true, zst_rne, zst_req, zfl_rne, zfl_req]
  refine ⟨trivial, ⟨k1, k2, k3, k4, k5, k6, k7, k8, k9⟩, kas, kcl, kda, kdh, kpl, kkp, ?_, kwt, ktp, klw, ksd, kw0, kw1⟩
  refine ksh.fill (fun i h1 h2 => ?_)
  exact ksh.2 _ (by omega)
