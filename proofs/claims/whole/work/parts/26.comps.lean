theorem inc_t {k : Nat} (hk : k < 1000000) : (nI k + 1).toInt = (k : Int) + 1 := by
  rw [← nI_succ, tin (by omega)]; simp
theorem Rwt.push {k : Nat} {xw mw : Nat → Int32} {v : Int32} (hk : k < 1000000) (h : Rwt (nI k) xw mw) : Rwt (nI (k + 1)) (upd xw k v) (upd mw k v) := by
  rw [nI_succ]
  intro i hi
  rw [inc_t hk] at hi
  by_cases e : i = k
  · subst e; rw [upd_eq, upd_eq]
  · rw [upd_ne e, upd_ne e]
    exact h i (by rw [tin (by omega)]; omega)
theorem Ras.push {k : Nat} {fm cl f l hh mo : Int32} {xf xl xh xm xc mf ml mh mm mc : Nat → Int32} (hk : k < 1000000) (h : Ras fm (nI k) cl xf xl xh xm xc mf ml mh mm mc) (f1 : 0 ≤ f.toInt) (f2 : f.toInt < fm.toInt) (l1 : 0 ≤ l.toInt) (l2 : l.toInt ≤ hh.toInt) (h2 : hh.toInt ≤ 100000) (m1 : 0 ≤ mo.toInt) (m2 : mo.toInt ≤ 24) (c1 : 0 ≤ cl.toInt) :
    Ras fm (nI (k + 1)) cl (upd xf k f) (upd xl k l) (upd xh k hh) (upd xm k mo) (upd xc k (-1000000005)) (upd mf k f) (upd ml k l) (upd mh k hh) (upd mm k mo) (upd mc k (-1)) := by
  rw [nI_succ]
  intro i hi
  rw [inc_t hk] at hi
  by_cases e : i = k
  · subst e
    simp only [upd_eq]
    refine ⟨trivial, trivial, trivial, trivial, by decide, f1, f2, l1, by omega, by omega, h2, m1, m2, by decide, ?_⟩
    rw [tim1]; omega
  · simp only [upd_ne e]
    exact h i (by rw [tin (by omega)]; omega)
theorem Ras.setC {fm n cl x y : Int32} {a : Nat} {xf xl xh xm xc mf ml mh mm mc : Nat → Int32} (h : Ras fm n cl xf xl xh xm xc mf ml mh mm mc) (e : x = enc y) (y1 : -1 ≤ y.toInt) (y2 : y.toInt < cl.toInt) : Ras fm n cl xf xl xh xm (upd xc a x) mf ml mh mm (upd mc a y) := by
  intro i hi
  obtain ⟨q1, q2, q3, q4, q5, q6, q7, q8, q9, q10, q11, q12, q13, q14, q15⟩ := h i hi
  by_cases g : i = a
  · subst g
    simp only [upd_eq]
    exact ⟨q1, q2, q3, q4, e, q6, q7, q8, q9, q10, q11, q12, q13, y1, y2⟩
  · simp only [upd_ne g]
    exact ⟨q1, q2, q3, q4, q5, q6, q7, q8, q9, q10, q11, q12, q13, q14, q15⟩
theorem Ras.more {fm n cl cl' : Int32} {xf xl xh xm xc mf ml mh mm mc : Nat → Int32} (h : Ras fm n cl xf xl xh xm xc mf ml mh mm mc) (hc : cl.toInt ≤ cl'.toInt) : Ras fm n cl' xf xl xh xm xc mf ml mh mm mc := by
  intro i hi
  obtain ⟨q1, q2, q3, q4, q5, q6, q7, q8, q9, q10, q11, q12, q13, q14, q15⟩ := h i hi
  exact ⟨q1, q2, q3, q4, q5, q6, q7, q8, q9, q10, q11, q12, q13, q14, by omega⟩
theorem Rcl.setD {fm n x y : Int32} {c : Nat} {xk xf xg xd mk mf mg md : Nat → Int32} (h : Rcl fm n xk xf xg xd mk mf mg md) (e : x = enc y) (y1 : -1 ≤ y.toInt) (y2 : y.toInt ≤ 100000) : Rcl fm n xk xf xg (upd xd c x) mk mf mg (upd md c y) := by
  refine ⟨fun i hi => ?_, h.2⟩
  obtain ⟨q1, q2, q3, q4, q5, q6, q7, q8, q9, q10, q11, q12⟩ := h.1 i hi
  by_cases g : i = c
  · subst g
    simp only [upd_eq]
    exact ⟨q1, q2, q3, e, q5, q6, q7, q8, q9, q10, y1, y2⟩
  · simp only [upd_ne g]
    exact ⟨q1, q2, q3, q4, q5, q6, q7, q8, q9, q10, q11, q12⟩
theorem Rcl.setG {fm n x : Int32} {c : Nat} {xk xf xg xd mk mf mg md : Nat → Int32} (h : Rcl fm n xk xf xg xd mk mf mg md) (hc : (c : Int) < n.toInt) (x1 : 0 ≤ x.toInt) (x2 : x.toInt < 64) : Rcl fm n xk xf (upd xg c x) xd mk mf (upd mg c x) md := by
  refine ⟨fun i hi => ?_, fun i hi h24 => ?_⟩
  · obtain ⟨q1, q2, q3, q4, q5, q6, q7, q8, q9, q10, q11, q12⟩ := h.1 i hi
    by_cases g : i = c
    · subst g
      simp only [upd_eq]
      exact ⟨q1, q2, trivial, q4, q5, q6, q7, q8, x1, x2, q11, q12⟩
    · simp only [upd_ne g]
      exact ⟨q1, q2, q3, q4, q5, q6, q7, q8, q9, q10, q11, q12⟩
  · rw [upd_ne (by omega)]
    exact h.2 i hi h24
theorem Rcl.push {k : Nat} {fm kd f : Int32} {xk xf xg xd mk mf mg md : Nat → Int32} (hk : k < 24) (h : Rcl fm (nI k) xk xf xg xd mk mf mg md) (k1 : 0 ≤ kd.toInt) (k2 : kd.toInt ≤ 4) (f1 : 0 ≤ f.toInt) (f2 : f.toInt < fm.toInt) :
    Rcl fm (nI (k + 1)) (upd xk k kd) (upd xf k f) xg (upd xd k (-1000000005)) (upd mk k kd) (upd mf k f) (upd mg k 0) (upd md k (-1)) := by
  rw [nI_succ]
  refine ⟨fun i hi => ?_, fun i hi h24 => ?_⟩
  · rw [inc_t (by omega)] at hi
    by_cases e : i = k
    · subst e
      simp only [upd_eq]
      exact ⟨trivial, trivial, h.2 i (by rw [tin (by omega)]; omega) hk, by decide, k1, k2, f1, f2, by decide, by decide, by decide, by decide⟩
    · simp only [upd_ne e]
      exact h.1 i (by rw [tin (by omega)]; omega)
  · rw [inc_t (by omega)] at hi
    exact h.2 i (by rw [tin (by omega)]; omega) h24
theorem Rcl.more {fm fm' n : Int32} {xk xf xg xd mk mf mg md : Nat → Int32} (h : Rcl fm n xk xf xg xd mk mf mg md) (hf : fm.toInt ≤ fm'.toInt) : Rcl fm' n xk xf xg xd mk mf mg md := by
  refine ⟨fun i hi => ?_, h.2⟩
  obtain ⟨q1, q2, q3, q4, q5, q6, q7, q8, q9, q10, q11, q12⟩ := h.1 i hi
  exact ⟨q1, q2, q3, q4, q5, q6, q7, by omega, q9, q10, q11, q12⟩
/-- a new claim's first entry -/
theorem Rdi.push {k : Nat} {hi : Int} {dy v : Int32} {xd xv xw md mv mw : Nat → Int32} (hk : k < 24) (h : Rdi (nI k) hi xd xv xw md mv mw) (v1 : 0 ≤ v.toInt) (v2 : v.toInt ≤ hi) :
    Rdi (nI (k + 1)) hi (upd xd (9 * k) dy) (upd xv (9 * k) v) (upd xw k 1) (upd md (9 * k) dy) (upd mv (9 * k) v) (upd mw k 0) := by
  rw [nI_succ]
  refine ⟨fun i hi => ?_, fun i hi h24 => ?_⟩
  · rw [inc_t (by omega)] at hi
    by_cases e : i = k
    · subst e
      simp only [upd_eq]
      refine ⟨by decide, by decide, by decide, fun j hj => ?_⟩
      have : j = 0 := by rw [ti0] at hj; omega
      subst this
      simp only [Nat.add_zero, upd_eq]
      exact ⟨trivial, trivial, v1, v2⟩
    · simp only [upd_ne e]
      obtain ⟨q1, q2, q3, q4⟩ := h.1 i (by rw [tin (by omega)]; omega)
      refine ⟨q1, q2, q3, fun j hj => ?_⟩
      have n1 : 9 * i + j ≠ 9 * k := by omega
      simp only [upd_ne n1]
      exact q4 j hj
  · rw [inc_t (by omega)] at hi
    rw [upd_ne (by omega)]
    exact h.2 i (by rw [tin (by omega)]; omega) h24
/-- one more entry -/
theorem Rdi.write {n : Int32} {hi : Int} {c w : Nat} {dy v : Int32} {xd xv xw md mv mw : Nat → Int32} (h : Rdi n hi xd xv xw md mv mw) (hc : (c : Int) < n.toInt) (hw : mw c = nI w) (hw8 : w < 8) (v1 : 0 ≤ v.toInt) (v2 : v.toInt ≤ hi) :
    Rdi n hi (upd xd (9 * c + (w + 1)) dy) (upd xv (9 * c + (w + 1)) v) (upd xw c (nI (w + 2))) (upd md (9 * c + (w + 1)) dy) (upd mv (9 * c + (w + 1)) v) (upd mw c (nI (w + 1))) := by
  rw [nI_succ w, show nI (w + 2) = nI (w + 1) + 1 from nI_succ (w + 1)]
  refine ⟨fun i hi => ?_, fun i hi h24 => ?_⟩
  · obtain ⟨q1, q2, q3, q4⟩ := h.1 i hi
    by_cases e : i = c
    · subst e
      simp only [upd_eq]
      rw [inc_t (by omega)]
      refine ⟨by rw [nI_succ], by omega, by omega, fun j hj => ?_⟩
      by_cases g : j = w + 1
      · subst g
        simp only [upd_eq]
        exact ⟨trivial, trivial, v1, v2⟩
      · have n1 : 9 * i + j ≠ 9 * i + (w + 1) := by omega
        simp only [upd_ne n1]
        exact q4 j (by rw [hw, tin (by omega)]; omega)
    · simp only [upd_ne e]
      refine ⟨q1, q2, q3, fun j hj => ?_⟩
      have n1 : 9 * i + j ≠ 9 * c + (w + 1) := by omega
      simp only [upd_ne n1]
      exact q4 j hj
  · rw [upd_ne (by omega)]
    exact h.2 i hi h24
theorem Rpl.setC {n x y : Int32} {c : Nat} {xc xv xn xl xm mc mv mt : Nat → Int32} (h : Rpl n xc xv xn xl xm mc mv mt) (e : x = enc y) (y1 : -1 ≤ y.toInt) (y2 : y.toInt ≤ 5) : Rpl n (upd xc c x) xv xn xl xm (upd mc c y) mv mt := by
  refine ⟨fun i hi => ?_, h.2⟩
  obtain ⟨q1, q2, q3, q4, q5, q6⟩ := h.1 i hi
  by_cases g : i = c
  · subst g
    simp only [upd_eq]
    exact ⟨e, q2, y1, y2, q5, q6⟩
  · simp only [upd_ne g]
    exact ⟨q1, q2, q3, q4, q5, q6⟩
theorem Rpl.setV {n x : Int32} {c : Nat} {xc xv xn xl xm mc mv mt : Nat → Int32} (h : Rpl n xc xv xn xl xm mc mv mt) (y1 : 0 ≤ x.toInt) (y2 : x.toInt ≤ 2) : Rpl n xc (upd xv c x) xn xl xm mc (upd mv c x) mt := by
  refine ⟨fun i hi => ?_, h.2⟩
  obtain ⟨q1, q2, q3, q4, q5, q6⟩ := h.1 i hi
  by_cases g : i = c
  · subst g
    simp only [upd_eq]
    exact ⟨q1, trivial, q3, q4, y1, y2⟩
  · simp only [upd_ne g]
    exact ⟨q1, q2, q3, q4, q5, q6⟩
theorem Rpl.push {k : Nat} {xc xv xn xl xm mc mv mt : Nat → Int32} (hk : k < 1000000) (h : Rpl (nI k) xc xv xn xl xm mc mv mt) : Rpl (nI (k + 1)) (upd xc k (-1000000005)) (upd xv k 0) xn xl xm (upd mc k (-1)) (upd mv k 0) mt := by
  rw [nI_succ]
  refine ⟨fun i hi => ?_, h.2⟩
  rw [inc_t hk] at hi
  by_cases e : i = k
  · subst e
    simp only [upd_eq]
    exact ⟨by decide, trivial, by decide, by decide, by decide, by decide⟩
  · simp only [upd_ne e]
    exact h.1 i (by rw [tin (by omega)]; omega)
theorem Rpl.terms {n a b e : Int32} {k : Nat} {xc xv xn xl xm mc mv mt : Nat → Int32} (h : Rpl n xc xv xn xl xm mc mv mt) (a1 : 0 ≤ a.toInt) (a2 : a.toInt ≤ 100) (b1 : 0 ≤ b.toInt) (b2 : b.toInt ≤ 100) (e1 : 0 ≤ e.toInt) (e2 : e.toInt ≤ 60) :
    Rpl n xc xv (upd xn k a) (upd xl k b) (upd xm k e) mc mv (upd (upd (upd mt (3 * k) a) (3 * k + 1) b) (3 * k + 2) e) := by
  refine ⟨h.1, fun i hi => ?_⟩
  by_cases g : i = k
  · subst g
    have n1 : 3 * i ≠ 3 * i + 2 := by omega
    have n2 : 3 * i ≠ 3 * i + 1 := by omega
    have n3 : 3 * i + 1 ≠ 3 * i + 2 := by omega
    simp only [upd_eq, upd_ne n1, upd_ne n2, upd_ne n3]
    exact ⟨trivial, trivial, trivial, a1, a2, b1, b2, e1, e2⟩
  · have n1 : 3 * i ≠ 3 * k + 2 := by omega
    have n2 : 3 * i ≠ 3 * k + 1 := by omega
    have n3 : 3 * i ≠ 3 * k := by omega
    have m1 : 3 * i + 1 ≠ 3 * k + 2 := by omega
    have m2 : 3 * i + 1 ≠ 3 * k + 1 := by omega
    have m3 : 3 * i + 1 ≠ 3 * k := by omega
    have o1 : 3 * i + 2 ≠ 3 * k + 2 := by omega
    have o2 : 3 * i + 2 ≠ 3 * k + 1 := by omega
    have o3 : 3 * i + 2 ≠ 3 * k := by omega
    simp only [upd_ne g, upd_ne n1, upd_ne n2, upd_ne n3, upd_ne m1, upd_ne m2, upd_ne m3, upd_ne o1, upd_ne o2, upd_ne o3]
    exact h.2 i hi
theorem Rkp.more {n n' hk km xk : Int32} {xc xv xn xl xm mc mv mt : Nat → Int32} (h : Rkp n hk km xk xc xv xn xl xm mc mv mt) (hn : n.toInt ≤ n'.toInt) : Rkp n' hk km xk xc xv xn xl xm mc mv mt := by
  rcases h with h | ⟨h1, h2, h3, h4, h5⟩
  · exact Or.inl h
  · exact Or.inr ⟨h1, h2, h3, by omega, h5⟩
theorem Rtp.less {n n' : Int32} {xb mt : Nat → Int32} (h : Rtp n xb mt) (hn : n'.toInt ≤ n.toInt) : Rtp n' xb mt := fun i hi => h i (by omega)
theorem Rcnt.k {k : Nat} {n : Int} (h : (k : Int) < n) (hn : n < 1000000) : Rcnt (nI (k + 1)) (nI (k + 1)) n := by
  rw [nI_succ]
  refine ⟨rfl, ?_⟩
  rw [inc_t (by omega)]
  omega
theorem ix90 (c : Nat) : nI (9 * c) + 0 = nI (9 * c) := by rw [Int32.add_zero]
theorem ix3 (k : Nat) : 3 * nI k = nI (3 * k) := by rw [show (3 : Int32) = nI 3 from rfl, pk_mul]
theorem nI_2 (k : Nat) : nI k + 2 = nI (k + 2) := by rw [show (2 : Int32) = nI 2 from rfl, nI_add]
theorem z01 : (0 : Int32) + 1 = 1 := by decide
theorem guard_eq : ∀ b, b < 64 → ∀ f, f < 6 → ∀ o, o < 2 → ((nI b &&& (((1 : Int32) <<< (nI f &&& 31)) ^^^ (-1 : Int32))) ||| (nI o <<< (nI f &&& 31)) = if ((nI b >>> (nI f &&& 31)) &&& 1) = nI o then nI b else nI b ^^^ ((1 : Int32) <<< (nI f &&& 31))) ∧
    0 ≤ (if ((nI b >>> (nI f &&& 31)) &&& 1) = nI o then nI b else nI b ^^^ ((1 : Int32) <<< (nI f &&& 31))).toInt ∧ (if ((nI b >>> (nI f &&& 31)) &&& 1) = nI o then nI b else nI b ^^^ ((1 : Int32) <<< (nI f &&& 31))).toInt < 64 := by decide +kernel
def worS (today off : Int32) (aw av ad mc mt : Nat → Int32) (c : Nat) : Int32 := if mc c = -1 then 0 else
  amtS today aw av ad c * mt (3 * (mc c).toInt.toNat) / 100 + amtS today aw av ad c * mt (3 * (mc c).toInt.toNat + 1) / 100 * (1200 - off * mt (3 * (mc c).toInt.toNat + 2)) / 1200
theorem cr_worthOf {G : zGT} {d : Nat} {Φ : Int32 → zMem → Prop} {σ : zMem} {c : Nat} (h : Rall σ) (hc : (c : Int) < (σ 72 8).toInt) (hp : Φ (worS (σ 72 0) (σ 72 24) (σ 84) (σ 85) (σ 86) (σ 82) (σ 90) c) σ) : CTI G (d + 2) Y_X11_worthOf [.inr (.inr 0), .inl (nI c)] σ Φ := by
  obtain ⟨⟨k1, k2, k3, k4, k5, k6, k7, k8, k9⟩, kas, kcl, kda, kdh, kpl, kkp, ksh, kwt, ktp, klw, ksd, kw0, kw1⟩ := h
  have u3 := k3.2.2
  have e4 := k4.1
  have e7 := k7.1
  obtain ⟨p1, p2, p3, p4, p5, p6⟩ := kpl.1 c hc
  refine en_X11_worthOf ?_
  rw [cln (by omega), p1]
  refine ⟨vin (by omega), ?_⟩
  unfold worS at hp
  by_cases g : σ 82 c = -1
  · rw [if_pos g] at hp
    rw [g, enc_m1]
    refine c_isClass (fun q _ => absurd q (by decide)) (fun _ => ?_)
    simp only [if_true]
    exact hp
  · rw [if_neg g] at hp
    have g1 : 0 ≤ (σ 82 c).toInt := by rw [fa_eq, tim1] at g; omega
    rw [enc_nn g1]
    obtain ⟨k, hk, hk2, hk3⟩ := num_of g1 p4
    have tk : (σ 82 c).toInt.toNat = k := by rw [hk, tin hk3]; omega
    rw [tk] at hp
    obtain ⟨r1, r2, r3, -⟩ := kpl.2 k (by omega)
    rw [hk, cln (by omega)]
    have vk : vp_in (nI k) 6 := vin (by omega)
    refine c_isClass (fun _ _ => ?_) (fun q => by rw [tin hk3] at q; omega)
    simp only [one_ne, if_false]
    rw [e4]
    refine cr_amountOn kda hc u3 ?_
    rw [e7, r1, r2, r3]
    exact ⟨vk, by decide, vk, by decide, vk, by decide, hp⟩
theorem mr_worthOf {G : zGT} {d : Nat} {Φ : Int32 → zMem → Prop} {σ : zMem} {c : Nat} (hc : (c : Int) < (σ 72 8).toInt) (hn : (σ 72 8).toInt ≤ 24) (h1 : 0 ≤ (σ 84 c).toInt) (h2 : (σ 84 c).toInt ≤ 8) (p3 : -1 ≤ (σ 82 c).toInt) (p4 : (σ 82 c).toInt ≤ 5) (hp : Φ (worS (σ 72 0) (σ 72 24) (σ 84) (σ 85) (σ 86) (σ 82) (σ 90) c) σ) : CTI G (d + 1) Y_X12_worthOf [.inr (.inr 72), .inl (nI c)] σ Φ := by
  refine en_X12_worthOf ?_
  rw [cln (by omega)]
  refine ⟨vin (by omega), ?_⟩
  unfold worS at hp
  by_cases g : σ 82 c = -1
  · rw [if_pos g] at hp
    rw [if_neg (by rw [g]; decide)]
    exact hp
  · rw [if_neg g] at hp
    have g1 : 0 ≤ (σ 82 c).toInt := by rw [fa_eq, tim1] at g; omega
    rw [if_pos (by rw [fa_le, ti0]; exact g1)]
    obtain ⟨k, hk, hk2, hk3⟩ := num_of g1 p4
    have tk : (σ 82 c).toInt.toNat = k := by rw [hk, tin hk3]; omega
    rw [tk] at hp
    refine mr_amountOn hc hn h1 h2 ?_
    rw [hk, ix3, nI_1, nI_2, cln (by omega), cln (by omega), cln (by omega)]
    exact ⟨vin (by omega), by decide, vin (by omega), by decide, vin (by omega), by decide, hp⟩
theorem c_truth1 {G : zGT} {d : Nat} {Φ : Int32 → zMem → Prop} {σ : zMem} (h : Φ 1 σ) : CTI G d Y_X11_truth [.inl 1] σ Φ := c_truth (fun _ => h) (fun q => absurd q (by decide))
theorem c_truth0 {G : zGT} {d : Nat} {Φ : Int32 → zMem → Prop} {σ : zMem} (h : Φ 0 σ) : CTI G d Y_X11_truth [.inl 0] σ Φ := c_truth (fun q => absurd rfl q) (fun _ => h)
