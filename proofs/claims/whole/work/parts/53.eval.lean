-- a law's steps worked out
def op2 (s a b : Int32) : Int32 := if s = 4 then (if b < a then 0 else 1) else if s = 5 then (if a < b then 0 else 1) else if s = 38 then (if a = 0 then 0 else if b = 0 then 0 else 1) else if s = 42 then a * b else if s = 43 then a + b else if s = 45 then a - b else
  if s = 60 then (if b ≤ a then 0 else 1) else if s = 61 then (if a = b then 1 else 0) else if s = 62 then (if a ≤ b then 0 else 1) else (if a = 0 then (if b = 0 then 0 else 1) else 1)
theorem m_truth1 {G : zGT} {d : Nat} {Φ : Int32 → zMem → Prop} {σ : zMem} (h : Φ 1 σ) : CTI G d Y_X12_truth [.inl 1] σ Φ := by
  refine en_X12_truth ?_
  rw [if_neg (by decide)]; exact h
theorem m_truth0 {G : zGT} {d : Nat} {Φ : Int32 → zMem → Prop} {σ : zMem} (h : Φ 0 σ) : CTI G d Y_X12_truth [.inl 0] σ Φ := by
  refine en_X12_truth ?_
  rw [if_pos (by decide)]; exact h
theorem m_two {G : zGT} {d : Nat} {Φ : Int32 → zMem → Prop} {σ : zMem} {s a b : Int32} (h : Φ (op2 s a b) σ) : CTI G (d + 1) Y_X12_two [.inl s, .inl a, .inl b] σ Φ := by
  refine en_X12_two ?_
  unfold op2 at h
  by_cases g4 : s = 4
  · simp only [if_pos g4] at h ⊢
    by_cases c : b < a
    · rw [if_pos c] at h ⊢
      exact m_truth0 h
    · rw [if_neg c] at h ⊢
      exact m_truth1 h
  simp only [if_neg g4] at h ⊢
  by_cases g5 : s = 5
  · simp only [if_pos g5] at h ⊢
    by_cases c : a < b
    · rw [if_pos c] at h ⊢
      exact m_truth0 h
    · rw [if_neg c] at h ⊢
      exact m_truth1 h
  simp only [if_neg g5] at h ⊢
  by_cases g38 : s = 38
  · simp only [if_pos g38] at h ⊢
    by_cases c : a = 0
    · rw [if_pos c] at h ⊢
      exact m_truth0 h
    · rw [if_neg c] at h ⊢
      by_cases c2 : b = 0
      · rw [if_pos c2] at h ⊢
        exact m_truth0 h
      · rw [if_neg c2] at h ⊢
        exact m_truth1 h
  simp only [if_neg g38] at h ⊢
  by_cases g42 : s = 42
  · simp only [if_pos g42] at h ⊢
    exact h
  simp only [if_neg g42] at h ⊢
  by_cases g43 : s = 43
  · simp only [if_pos g43] at h ⊢
    exact h
  simp only [if_neg g43] at h ⊢
  by_cases g45 : s = 45
  · simp only [if_pos g45] at h ⊢
    exact h
  simp only [if_neg g45] at h ⊢
  by_cases g60 : s = 60
  · simp only [if_pos g60] at h ⊢
    by_cases c : b ≤ a
    · rw [if_pos c] at h ⊢
      exact m_truth0 h
    · rw [if_neg c] at h ⊢
      exact m_truth1 h
  simp only [if_neg g60] at h ⊢
  by_cases g61 : s = 61
  · simp only [if_pos g61] at h ⊢
    by_cases c : a = b
    · rw [if_pos c] at h ⊢
      exact m_truth1 h
    · rw [if_neg c] at h ⊢
      exact m_truth0 h
  simp only [if_neg g61] at h ⊢
  by_cases g62 : s = 62
  · simp only [if_pos g62] at h ⊢
    by_cases c : a ≤ b
    · rw [if_pos c] at h ⊢
      exact m_truth0 h
    · rw [if_neg c] at h ⊢
      exact m_truth1 h
  simp only [if_neg g62] at h ⊢
  by_cases c : a = 0
  · rw [if_pos c] at h ⊢
    by_cases c2 : b = 0
    · rw [if_pos c2] at h ⊢
      exact m_truth0 h
    · rw [if_neg c2] at h ⊢
      exact m_truth1 h
  · rw [if_neg c] at h ⊢
    exact m_truth1 h
def opc (s : Int32) : Int32 := if s = 4 then -316 else if s = 5 then -318 else -s
theorem c_joined {G : zGT} {d : Nat} {Φ : Int32 → zMem → Prop} {σ : zMem} {s a b : Int32} (hs : isOp s) (h : Φ (op2 s a b) σ) : CTI G d Y_X4_joined [.inl (opc s), .inl a, .inl b] σ Φ := by
  refine en_X4_joined ?_
  unfold op2 at h
  rcases hs with rfl | rfl | rfl | rfl | rfl | rfl | rfl | rfl | rfl | rfl
  · rw [show opc 43 = -43 from by decide, if_neg (by decide), if_neg (by decide), if_neg (by decide), if_neg (by decide), if_neg (by decide), if_neg (by decide), if_neg (by decide), if_pos rfl]
    rw [if_neg (show ¬ (43 : Int32) = 4 by decide), if_neg (show ¬ (43 : Int32) = 5 by decide), if_neg (show ¬ (43 : Int32) = 38 by decide), if_neg (show ¬ (43 : Int32) = 42 by decide), if_pos (show (43 : Int32) = 43 by decide)] at h
    exact h
  · rw [show opc 45 = -45 from by decide, if_neg (by decide), if_neg (by decide), if_neg (by decide), if_neg (by decide), if_neg (by decide), if_neg (by decide), if_pos rfl]
    rw [if_neg (show ¬ (45 : Int32) = 4 by decide), if_neg (show ¬ (45 : Int32) = 5 by decide), if_neg (show ¬ (45 : Int32) = 38 by decide), if_neg (show ¬ (45 : Int32) = 42 by decide), if_neg (show ¬ (45 : Int32) = 43 by decide), if_pos (show (45 : Int32) = 45 by decide)] at h
    exact h
  · rw [show opc 42 = -42 from by decide, if_neg (by decide), if_neg (by decide), if_neg (by decide), if_neg (by decide), if_neg (by decide), if_neg (by decide), if_neg (by decide), if_neg (by decide), if_pos rfl]
    rw [if_neg (show ¬ (42 : Int32) = 4 by decide), if_neg (show ¬ (42 : Int32) = 5 by decide), if_neg (show ¬ (42 : Int32) = 38 by decide), if_pos (show (42 : Int32) = 42 by decide)] at h
    exact h
  · rw [show opc 60 = -60 from by decide, if_neg (by decide), if_neg (by decide), if_neg (by decide), if_neg (by decide), if_neg (by decide), if_pos rfl]
    rw [if_neg (show ¬ (60 : Int32) = 4 by decide), if_neg (show ¬ (60 : Int32) = 5 by decide), if_neg (show ¬ (60 : Int32) = 38 by decide), if_neg (show ¬ (60 : Int32) = 42 by decide), if_neg (show ¬ (60 : Int32) = 43 by decide), if_neg (show ¬ (60 : Int32) = 45 by decide), if_pos (show (60 : Int32) = 60 by decide)] at h
    by_cases c : b ≤ a
    · rw [if_pos c] at h ⊢; exact h
    · rw [if_neg c] at h ⊢; exact h
  · rw [show opc 62 = -62 from by decide, if_neg (by decide), if_neg (by decide), if_neg (by decide), if_pos rfl]
    rw [if_neg (show ¬ (62 : Int32) = 4 by decide), if_neg (show ¬ (62 : Int32) = 5 by decide), if_neg (show ¬ (62 : Int32) = 38 by decide), if_neg (show ¬ (62 : Int32) = 42 by decide), if_neg (show ¬ (62 : Int32) = 43 by decide), if_neg (show ¬ (62 : Int32) = 45 by decide), if_neg (show ¬ (62 : Int32) = 60 by decide), if_neg (show ¬ (62 : Int32) = 61 by decide), if_pos (show (62 : Int32) = 62 by decide)] at h
    by_cases c : a ≤ b
    · rw [if_pos c] at h ⊢; exact h
    · rw [if_neg c] at h ⊢; exact h
  · rw [show opc 61 = -61 from by decide, if_neg (by decide), if_neg (by decide), if_neg (by decide), if_neg (by decide), if_pos rfl]
    rw [if_neg (show ¬ (61 : Int32) = 4 by decide), if_neg (show ¬ (61 : Int32) = 5 by decide), if_neg (show ¬ (61 : Int32) = 38 by decide), if_neg (show ¬ (61 : Int32) = 42 by decide), if_neg (show ¬ (61 : Int32) = 43 by decide), if_neg (show ¬ (61 : Int32) = 45 by decide), if_neg (show ¬ (61 : Int32) = 60 by decide), if_pos (show (61 : Int32) = 61 by decide)] at h
    by_cases c : a = b
    · rw [if_pos c] at h ⊢; exact h
    · rw [if_neg c] at h ⊢; exact h
  · rw [show opc 4 = -316 from by decide, if_neg (by decide), if_pos rfl]
    rw [if_pos (show (4 : Int32) = 4 by decide)] at h
    by_cases c : b < a
    · rw [if_pos c] at h ⊢; exact h
    · rw [if_neg c] at h ⊢; exact h
  · rw [show opc 5 = -318 from by decide, if_pos rfl]
    rw [if_neg (show ¬ (5 : Int32) = 4 by decide), if_pos (show (5 : Int32) = 5 by decide)] at h
    by_cases c : a < b
    · rw [if_pos c] at h ⊢; exact h
    · rw [if_neg c] at h ⊢; exact h
  · rw [show opc 38 = -38 from by decide, if_neg (by decide), if_neg (by decide), if_neg (by decide), if_neg (by decide), if_neg (by decide), if_neg (by decide), if_neg (by decide), if_neg (by decide), if_neg (by decide), if_pos rfl]
    rw [if_neg (show ¬ (38 : Int32) = 4 by decide), if_neg (show ¬ (38 : Int32) = 5 by decide), if_pos (show (38 : Int32) = 38 by decide)] at h
    by_cases c : a = 0
    · rw [if_pos c] at h ⊢; exact h
    · rw [if_neg c] at h ⊢
      by_cases c2 : b = 0
      · rw [if_pos c2] at h ⊢; exact h
      · rw [if_neg c2] at h ⊢; exact h
  · rw [show opc 124 = -124 from by decide, if_neg (by decide), if_neg (by decide), if_pos rfl]
    rw [if_neg (show ¬ (124 : Int32) = 4 by decide), if_neg (show ¬ (124 : Int32) = 5 by decide), if_neg (show ¬ (124 : Int32) = 38 by decide), if_neg (show ¬ (124 : Int32) = 42 by decide), if_neg (show ¬ (124 : Int32) = 43 by decide), if_neg (show ¬ (124 : Int32) = 45 by decide), if_neg (show ¬ (124 : Int32) = 60 by decide), if_neg (show ¬ (124 : Int32) = 61 by decide), if_neg (show ¬ (124 : Int32) = 62 by decide)] at h
    by_cases c : a = 0
    · rw [if_pos c] at h ⊢
      by_cases c2 : b = 0
      · rw [if_pos c2] at h ⊢; exact h
      · rw [if_neg c2] at h ⊢; exact h
    · rw [if_neg c] at h ⊢; exact h
theorem nI_p1 {h : Nat} (hh : 1 ≤ h) : nI h + (-1) = nI (h - 1) := by
  rw [nI_m1]
  have e : nI h = nI (h - 1) + 1 := by rw [nI_1]; congr 1; omega
  rw [e, Int32.add_sub_cancel]
theorem nI_p2 {h : Nat} (hh : 1 ≤ h) : nI h - 1 = nI (h - 1) := by
  have e : nI h = nI (h - 1) + 1 := by rw [nI_1]; congr 1; omega
  rw [e, Int32.add_sub_cancel]
abbrev zEV : Type := Nat × (Nat → Int32)
def est (st vl : Nat → Int32) (nm : Int32 → Int32) (i : Nat) (z : zEV) : zEV :=
  if st i = 1 then (z.1 + 1, upd z.2 z.1 (vl i)) else if st i = 2 then (z.1 + 1, upd z.2 z.1 (nm (vl i))) else if st i = 3 then (z.1, upd z.2 (z.1 - 1) (-(z.2 (z.1 - 1)))) else
  if st i = 33 then (z.1, upd z.2 (z.1 - 1) (if z.2 (z.1 - 1) = 0 then 1 else 0)) else (z.1 - 1, upd z.2 (z.1 - 2) (op2 (st i) (z.2 (z.1 - 2)) (z.2 (z.1 - 1))))
def evf (st vl : Nat → Int32) (nm : Int32 → Int32) : Nat → Nat → zEV → zEV
  | 0, _, z => z
  | n + 1, i, z => evf st vl nm n (i + 1) (est st vl nm i z)
/-- from below the height on nothing is read -/
theorem evf_agree {N : Int32 → Prop} {st vl : Nat → Int32} {nm : Int32 → Int32} {k : Nat} : ∀ (n i h : Nat) (f g : Nat → Int32), wfd N st vl k n i h → (∀ j, j < h → f j = g j) → (∀ j, j < k → (evf st vl nm n i (h, f)).2 j = (evf st vl nm n i (h, g)).2 j)
  | 0, _, h, f, g, hw, ha => by
    have hw : h = k := hw
    subst hw; exact ha
  | n + 1, i, h, f, g, hw, ha => by
    have hw : (st i = 1 ∧ 0 ≤ (vl i).toInt ∧ (vl i).toInt ≤ 999999 ∧ wfd N st vl k n (i + 1) (h + 1)) ∨ (st i = 2 ∧ N (vl i) ∧ wfd N st vl k n (i + 1) (h + 1)) ∨ ((st i = 3 ∨ st i = 33) ∧ 1 ≤ h ∧ wfd N st vl k n (i + 1) h) ∨ (isOp (st i) ∧ 2 ≤ h ∧ wfd N st vl k n (i + 1) (h - 1)) := hw
    show ∀ j, j < k → (evf st vl nm n (i + 1) (est st vl nm i (h, f))).2 j = (evf st vl nm n (i + 1) (est st vl nm i (h, g))).2 j
    have push : ∀ v : Int32, ∀ j, j < h + 1 → upd f h v j = upd g h v j := by
      intro v j hj
      by_cases e : j = h
      · subst e; rw [upd_eq, upd_eq]
      · rw [upd_ne e, upd_ne e]; exact ha j (by omega)
    rcases hw with ⟨e, -, -, w⟩ | ⟨e, -, w⟩ | ⟨e, h1, w⟩ | ⟨e, h2, w⟩
    · unfold est
      rw [if_pos e, if_pos e]
      exact evf_agree n (i + 1) _ _ _ w (push _)
    · unfold est
      have n1 : ¬ st i = 1 := by rw [e]; decide
      rw [if_neg n1, if_neg n1, if_pos e, if_pos e]
      exact evf_agree n (i + 1) _ _ _ w (push _)
    · have top : ∀ v w : Int32, v = w → ∀ j, j < h → upd f (h - 1) v j = upd g (h - 1) w j := by
        intro v w e j hj
        subst e
        by_cases e : j = h - 1
        · subst e; rw [upd_eq, upd_eq]
        · rw [upd_ne e, upd_ne e]; exact ha j hj
      have eq1 := ha (h - 1) (by omega)
      unfold est
      rcases e with e | e
      · have n1 : ¬ st i = 1 := by rw [e]; decide
        have n2 : ¬ st i = 2 := by rw [e]; decide
        rw [if_neg n1, if_neg n1, if_neg n2, if_neg n2, if_pos e, if_pos e]
        exact evf_agree n (i + 1) _ _ _ w (top _ _ (show -(f (h - 1)) = -(g (h - 1)) by rw [eq1]))
      · have n1 : ¬ st i = 1 := by rw [e]; decide
        have n2 : ¬ st i = 2 := by rw [e]; decide
        have n3 : ¬ st i = 3 := by rw [e]; decide
        rw [if_neg n1, if_neg n1, if_neg n2, if_neg n2, if_neg n3, if_neg n3, if_pos e, if_pos e]
        exact evf_agree n (i + 1) _ _ _ w (top _ _ (by simp only [eq1]))
    · have n1 : ¬ st i = 1 := by unfold isOp at e; rcases e with e | e | e | e | e | e | e | e | e | e <;> rw [e] <;> decide
      have n2 : ¬ st i = 2 := by unfold isOp at e; rcases e with e | e | e | e | e | e | e | e | e | e <;> rw [e] <;> decide
      have n3 : ¬ st i = 3 := by unfold isOp at e; rcases e with e | e | e | e | e | e | e | e | e | e <;> rw [e] <;> decide
      have n4 : ¬ st i = 33 := by unfold isOp at e; rcases e with e | e | e | e | e | e | e | e | e | e <;> rw [e] <;> decide
      unfold est
      rw [if_neg n1, if_neg n1, if_neg n2, if_neg n2, if_neg n3, if_neg n3, if_neg n4, if_neg n4]
      refine evf_agree n (i + 1) _ _ _ w (fun j hj => ?_)
      show upd f (h - 2) _ j = upd g (h - 2) _ j
      have e1 := ha (h - 1) (by omega)
      have e2 := ha (h - 2) (by omega)
      by_cases q : j = h - 2
      · subst q
        rw [upd_eq, upd_eq]
        show op2 (st i) (f (h - 2)) (f (h - 1)) = op2 (st i) (g (h - 2)) (g (h - 1))
        rw [e1, e2]
      · rw [upd_ne q, upd_ne q]; exact ha j (by omega)
theorem isOp_not {s : Int32} (e : isOp s) : ¬ s = 1 ∧ ¬ s = 2 ∧ ¬ s = 3 ∧ ¬ s = 33 := by
  unfold isOp at e
  rcases e with rfl | rfl | rfl | rfl | rfl | rfl | rfl | rfl | rfl | rfl <;> decide
theorem m_work110 {G : zGT} {d : Nat} {Φ : Int32 → zMem → Prop} {β : zMem} {N : Int32 → Prop} {nm : Int32 → Int32} {Inv : zMem → Prop} {to : Nat} (hto : to ≤ 96)
    (hI : ∀ τ, Inv τ → τ 106 = β 106 ∧ τ 107 = β 107) (hIw : ∀ τ j v, Inv τ → Inv (zwr τ 110 j v))
    (hN : ∀ (τ : zMem) (L : Int32) (Ψ : Int32 → zMem → Prop), Inv τ → N L → (∀ τ', Inv τ' → τ' 110 = τ 110 → Ψ (nm L) τ') → CTI G (d + 3) Y_X12_passName [.inr (.inr 72), .inl L] τ Ψ) :
    ∀ (n i h : Nat) (τ : zMem), i + n = to → h ≤ i → wfd N (β 106) (β 107) 1 n i h → Inv τ → (∀ τ', Inv τ' → Φ ((evf (β 106) (β 107) nm n i (h, τ 110)).2 0) τ') →
    WJ G M_X12_work (d + 4) (RI Φ) 37 [some (.inr (.inr 72)), none, some (.inl (nI to)), some (.inl 0), some (.inr (.inr 110)), some (.inl (nI h)), some (.inl (nI i))] [] τ := by
  intro n
  induction n with
  | zero =>
    intro i h τ hi hh hw hv H
    refine rg_X12_work_37a110 ?_
    have hw : h = 1 := hw
    rw [if_pos (nI_le (by omega) (by omega))]
    exact ⟨vin (n := 0) (by decide), H τ hv⟩
  | succ n ih =>
    intro i h τ hi hh hw hv H
    refine rg_X12_work_37a110 ?_
    obtain ⟨f6, f7⟩ := hI τ hv
    have vi : vp_in (nI i) 96 := vin (by omega)
    have ci : (nI i).toNatClampNeg = i := cln (by omega)
    rw [if_neg (nI_ge (by omega) (by omega)), ci, f6, f7]
    refine ⟨vi, ?_⟩
    have hw : (β 106 i = 1 ∧ 0 ≤ (β 107 i).toInt ∧ (β 107 i).toInt ≤ 999999 ∧ wfd N (β 106) (β 107) 1 n (i + 1) (h + 1)) ∨ (β 106 i = 2 ∧ N (β 107 i) ∧ wfd N (β 106) (β 107) 1 n (i + 1) (h + 1)) ∨ ((β 106 i = 3 ∨ β 106 i = 33) ∧ 1 ≤ h ∧ wfd N (β 106) (β 107) 1 n (i + 1) h) ∨ (isOp (β 106 i) ∧ 2 ≤ h ∧ wfd N (β 106) (β 107) 1 n (i + 1) (h - 1)) := hw
    have H : ∀ τ', Inv τ' → Φ ((evf (β 106) (β 107) nm n (i + 1) (est (β 106) (β 107) nm i (h, τ 110))).2 0) τ' := H
    unfold est at H
    have vh : vp_in (nI h) 96 := vin (by omega)
    have ch : (nI h).toNatClampNeg = h := cln (by omega)
    rcases hw with ⟨e, -, -, w⟩ | ⟨e, hL, w⟩ | ⟨e, h1, w⟩ | ⟨e, h2, w⟩
    · rw [if_pos e]
      simp only [if_pos e] at H
      refine ⟨vi, vh, ?_⟩
      rintro _ rfl
      rw [ch, nI_1, nI_1]
      refine ih (i + 1) (h + 1) _ (by omega) (by omega) w (hIw _ _ _ hv) ?_
      rw [zwr_req]
      exact H
    · have n1 : ¬ β 106 i = 1 := by rw [e]; decide
      rw [if_neg n1, if_pos e]
      simp only [if_neg n1, if_pos e] at H
      rw [if_pos rfl]
      refine ⟨vi, vi, ?_⟩
      refine hN τ _ _ hv hL (fun τ' hv' hr => ?_)
      refine ⟨vh, ?_⟩
      rintro _ rfl
      rw [ch, nI_1, nI_1]
      refine ih (i + 1) (h + 1) _ (by omega) (by omega) w (hIw _ _ _ hv') ?_
      rw [zwr_req, hr]
      exact H
    · have v1 : vp_in (nI (h - 1)) 96 := vin (by omega)
      have c1 : (nI (h - 1)).toNatClampNeg = h - 1 := cln (by omega)
      rw [nI_p2 h1, c1]
      rcases e with e | e
      · have n1 : ¬ β 106 i = 1 := by rw [e]; decide
        have n2 : ¬ β 106 i = 2 := by rw [e]; decide
        rw [if_neg n1, if_neg n2, if_pos e]
        simp only [if_neg n1, if_neg n2, if_pos e] at H
        refine ⟨vi, vi, v1, v1, ?_⟩
        rintro _ rfl
        rw [nI_1]
        refine ih (i + 1) h _ (by omega) (by omega) w (hIw _ _ _ hv) ?_
        rw [zwr_req]
        exact H
      · have n1 : ¬ β 106 i = 1 := by rw [e]; decide
        have n2 : ¬ β 106 i = 2 := by rw [e]; decide
        have n3 : ¬ β 106 i = 3 := by rw [e]; decide
        rw [if_neg n1, if_neg n2, if_neg n3, if_pos e]
        simp only [if_neg n1, if_neg n2, if_neg n3, if_pos e] at H
        refine ⟨vi, vi, vi, v1, ?_⟩
        by_cases z : τ 110 (h - 1) = 0
        · rw [if_pos z]
          rw [if_pos z] at H
          refine m_truth1 ⟨v1, ?_⟩
          rintro _ rfl
          rw [nI_1]
          refine ih (i + 1) h _ (by omega) (by omega) w (hIw _ _ _ hv) ?_
          rw [zwr_req]
          exact H
        · rw [if_neg z]
          rw [if_neg z] at H
          refine m_truth0 ⟨v1, ?_⟩
          rintro _ rfl
          rw [nI_1]
          refine ih (i + 1) h _ (by omega) (by omega) w (hIw _ _ _ hv) ?_
          rw [zwr_req]
          exact H
    · obtain ⟨n1, n2, n3, n4⟩ := isOp_not e
      have v1 : vp_in (nI (h - 1)) 96 := vin (by omega)
      have c1 : (nI (h - 1)).toNatClampNeg = h - 1 := cln (by omega)
      have v2 : vp_in (nI (h - 2)) 96 := vin (by omega)
      have c2 : (nI (h - 2)).toNatClampNeg = h - 2 := cln (by omega)
      rw [if_neg n1, if_neg n2, if_neg n3, if_neg n4, nI_p1 (by omega), nI_p2 (show 1 ≤ h - 1 by omega), show h - 1 - 1 = h - 2 by omega, c1, c2]
      simp only [if_neg n1, if_neg n2, if_neg n3, if_neg n4] at H
      refine ⟨vi, vi, vi, vi, v2, v1, ?_⟩
      refine m_two ⟨v2, ?_⟩
      rintro _ rfl
      rw [nI_1]
      refine ih (i + 1) (h - 1) _ (by omega) (by omega) w (hIw _ _ _ hv) ?_
      rw [zwr_req]
      exact H
theorem m_work111 {G : zGT} {d : Nat} {Φ : Int32 → zMem → Prop} {β : zMem} {N : Int32 → Prop} {nm : Int32 → Int32} {Inv : zMem → Prop} {to : Nat} (hto : to ≤ 96)
    (hI : ∀ τ, Inv τ → τ 106 = β 106 ∧ τ 107 = β 107) (hIw : ∀ τ j v, Inv τ → Inv (zwr τ 111 j v))
    (hN : ∀ (τ : zMem) (L : Int32) (Ψ : Int32 → zMem → Prop), Inv τ → N L → (∀ τ', Inv τ' → τ' 111 = τ 111 → Ψ (nm L) τ') → CTI G (d + 3) Y_X12_bindName [.inr (.inr 72), .inl L] τ Ψ) :
    ∀ (n i h : Nat) (τ : zMem), i + n = to → h ≤ i → wfd N (β 106) (β 107) 1 n i h → Inv τ → (∀ τ', Inv τ' → Φ ((evf (β 106) (β 107) nm n i (h, τ 111)).2 0) τ') →
    WJ G M_X12_work (d + 4) (RI Φ) 37 [some (.inr (.inr 72)), none, some (.inl (nI to)), some (.inl 1), some (.inr (.inr 111)), some (.inl (nI h)), some (.inl (nI i))] [] τ := by
  intro n
  induction n with
  | zero =>
    intro i h τ hi hh hw hv H
    refine rg_X12_work_37a111 ?_
    have hw : h = 1 := hw
    rw [if_pos (nI_le (by omega) (by omega))]
    exact ⟨vin (n := 0) (by decide), H τ hv⟩
  | succ n ih =>
    intro i h τ hi hh hw hv H
    refine rg_X12_work_37a111 ?_
    obtain ⟨f6, f7⟩ := hI τ hv
    have vi : vp_in (nI i) 96 := vin (by omega)
    have ci : (nI i).toNatClampNeg = i := cln (by omega)
    rw [if_neg (nI_ge (by omega) (by omega)), ci, f6, f7]
    refine ⟨vi, ?_⟩
    have hw : (β 106 i = 1 ∧ 0 ≤ (β 107 i).toInt ∧ (β 107 i).toInt ≤ 999999 ∧ wfd N (β 106) (β 107) 1 n (i + 1) (h + 1)) ∨ (β 106 i = 2 ∧ N (β 107 i) ∧ wfd N (β 106) (β 107) 1 n (i + 1) (h + 1)) ∨ ((β 106 i = 3 ∨ β 106 i = 33) ∧ 1 ≤ h ∧ wfd N (β 106) (β 107) 1 n (i + 1) h) ∨ (isOp (β 106 i) ∧ 2 ≤ h ∧ wfd N (β 106) (β 107) 1 n (i + 1) (h - 1)) := hw
    have H : ∀ τ', Inv τ' → Φ ((evf (β 106) (β 107) nm n (i + 1) (est (β 106) (β 107) nm i (h, τ 111))).2 0) τ' := H
    unfold est at H
    have vh : vp_in (nI h) 96 := vin (by omega)
    have ch : (nI h).toNatClampNeg = h := cln (by omega)
    rcases hw with ⟨e, -, -, w⟩ | ⟨e, hL, w⟩ | ⟨e, h1, w⟩ | ⟨e, h2, w⟩
    · rw [if_pos e]
      simp only [if_pos e] at H
      refine ⟨vi, vh, ?_⟩
      rintro _ rfl
      rw [ch, nI_1, nI_1]
      refine ih (i + 1) (h + 1) _ (by omega) (by omega) w (hIw _ _ _ hv) ?_
      rw [zwr_req]
      exact H
    · have n1 : ¬ β 106 i = 1 := by rw [e]; decide
      rw [if_neg n1, if_pos e]
      simp only [if_neg n1, if_pos e] at H
      rw [if_neg (by decide)]
      refine ⟨vi, vi, ?_⟩
      refine hN τ _ _ hv hL (fun τ' hv' hr => ?_)
      refine ⟨vh, ?_⟩
      rintro _ rfl
      rw [ch, nI_1, nI_1]
      refine ih (i + 1) (h + 1) _ (by omega) (by omega) w (hIw _ _ _ hv') ?_
      rw [zwr_req, hr]
      exact H
    · have v1 : vp_in (nI (h - 1)) 96 := vin (by omega)
      have c1 : (nI (h - 1)).toNatClampNeg = h - 1 := cln (by omega)
      rw [nI_p2 h1, c1]
      rcases e with e | e
      · have n1 : ¬ β 106 i = 1 := by rw [e]; decide
        have n2 : ¬ β 106 i = 2 := by rw [e]; decide
        rw [if_neg n1, if_neg n2, if_pos e]
        simp only [if_neg n1, if_neg n2, if_pos e] at H
        refine ⟨vi, vi, v1, v1, ?_⟩
        rintro _ rfl
        rw [nI_1]
        refine ih (i + 1) h _ (by omega) (by omega) w (hIw _ _ _ hv) ?_
        rw [zwr_req]
        exact H
      · have n1 : ¬ β 106 i = 1 := by rw [e]; decide
        have n2 : ¬ β 106 i = 2 := by rw [e]; decide
        have n3 : ¬ β 106 i = 3 := by rw [e]; decide
        rw [if_neg n1, if_neg n2, if_neg n3, if_pos e]
        simp only [if_neg n1, if_neg n2, if_neg n3, if_pos e] at H
        refine ⟨vi, vi, vi, v1, ?_⟩
        by_cases z : τ 111 (h - 1) = 0
        · rw [if_pos z]
          rw [if_pos z] at H
          refine m_truth1 ⟨v1, ?_⟩
          rintro _ rfl
          rw [nI_1]
          refine ih (i + 1) h _ (by omega) (by omega) w (hIw _ _ _ hv) ?_
          rw [zwr_req]
          exact H
        · rw [if_neg z]
          rw [if_neg z] at H
          refine m_truth0 ⟨v1, ?_⟩
          rintro _ rfl
          rw [nI_1]
          refine ih (i + 1) h _ (by omega) (by omega) w (hIw _ _ _ hv) ?_
          rw [zwr_req]
          exact H
    · obtain ⟨n1, n2, n3, n4⟩ := isOp_not e
      have v1 : vp_in (nI (h - 1)) 96 := vin (by omega)
      have c1 : (nI (h - 1)).toNatClampNeg = h - 1 := cln (by omega)
      have v2 : vp_in (nI (h - 2)) 96 := vin (by omega)
      have c2 : (nI (h - 2)).toNatClampNeg = h - 2 := cln (by omega)
      rw [if_neg n1, if_neg n2, if_neg n3, if_neg n4, nI_p1 (by omega), nI_p2 (show 1 ≤ h - 1 by omega), show h - 1 - 1 = h - 2 by omega, c1, c2]
      simp only [if_neg n1, if_neg n2, if_neg n3, if_neg n4] at H
      refine ⟨vi, vi, vi, vi, v2, v1, ?_⟩
      refine m_two ⟨v2, ?_⟩
      rintro _ rfl
      rw [nI_1]
      refine ih (i + 1) (h - 1) _ (by omega) (by omega) w (hIw _ _ _ hv) ?_
      rw [zwr_req]
      exact H
theorem x_work56 {G : zGT} {d : Nat} {Φ : Int32 → zMem → Prop} {st vl : Nat → Int32} {N : Int32 → Prop} {nm : Int32 → Int32} {off len : Nat} {σ : zMem} (hl : len ≤ 96) (h2 : σ 56 2 = nI len) (hc : ∀ i, i < len → σ 57 i = cod (st (off + i)) (vl (off + i)))
    (hN : ∀ L, N L → 97 ≤ L.toInt ∧ L.toInt ≤ 122 ∧ σ 63 (L.toInt.toNat - 97) = nm L) :
    ∀ (n i h : Nat) (τ : zMem), i + n = len → h ≤ i → wfd N st vl 1 n (off + i) h → (∀ a, a ≠ 58 → τ a = σ a) → (∀ τ', (∀ a, a ≠ 58 → τ' a = σ a) → Φ ((evf st vl nm n (off + i) (h, τ 58)).2 0) τ') →
    WJ G M_X4_work (d + 1) (RI Φ) 4 [some (.inr (.inr 56)), some (.inr (.inr 63)), some (.inl (nI h)), some (.inl (nI i)), none, none, none] [] τ := by
  intro n
  induction n with
  | zero =>
    intro i h τ hi hh hw hv H
    refine rg_X4_work_i56_63_4 ?_
    have hw : h = 1 := hw
    subst hw
    rw [hv 56 (by decide), h2, if_pos (nI_le (by omega) (by omega)), if_neg (by decide)]
    exact ⟨vin (n := 0) (by decide), H τ hv⟩
  | succ n ih =>
    intro i h τ hi hh hw hv H
    refine rg_X4_work_i56_63_4 ?_
    have vi : vp_in (nI i) 96 := vin (by omega)
    have ci : (nI i).toNatClampNeg = i := cln (by omega)
    rw [hv 56 (by decide), h2, if_neg (nI_ge (by omega) (by omega)), ci, hv 57 (by decide), hc i (by omega)]
    refine ⟨vi, ?_⟩
    have hw : (st (off + i) = 1 ∧ 0 ≤ (vl (off + i)).toInt ∧ (vl (off + i)).toInt ≤ 999999 ∧ wfd N st vl 1 n (off + i + 1) (h + 1)) ∨ (st (off + i) = 2 ∧ N (vl (off + i)) ∧ wfd N st vl 1 n (off + i + 1) (h + 1)) ∨ ((st (off + i) = 3 ∨ st (off + i) = 33) ∧ 1 ≤ h ∧ wfd N st vl 1 n (off + i + 1) h) ∨ (isOp (st (off + i)) ∧ 2 ≤ h ∧ wfd N st vl 1 n (off + i + 1) (h - 1)) := hw
    have H : ∀ τ', (∀ a, a ≠ 58 → τ' a = σ a) → Φ ((evf st vl nm n (off + i + 1) (est st vl nm (off + i) (h, τ 58))).2 0) τ' := H
    unfold est at H
    have vh : vp_in (nI h) 96 := vin (by omega)
    have ch : (nI h).toNatClampNeg = h := cln (by omega)
    have fw : ∀ (j : Nat) (v : Int32), ∀ a, a ≠ 58 → zwr τ 58 j v a = σ a := fun j v a ha => by rw [zwr_rne ha]; exact hv a ha
    have q96 : ¬ ((Int32.ofNat 96) ≤ nI h) := nI_ge (by omega) (by omega)
    rcases hw with ⟨e, l0, l1, w⟩ | ⟨e, hL, w⟩ | ⟨e, h1, w⟩ | ⟨e, hh2, w⟩
    · simp only [if_pos e] at H
      have ew : cod (st (off + i)) (vl (off + i)) = vl (off + i) := by unfold cod; rw [if_pos e]
      rw [ew]
      have en : (-(vl (off + i)) - 97).toInt = -(vl (off + i)).toInt - 97 := by
        have t97 : (97 : Int32).toInt = 97 := rfl
        have en1 := fb_negI (x := vl (off + i)) (by omega)
        rw [fb_subI (by rw [t97, en1]; omega) (by rw [t97, en1]; omega), t97, en1]
      rw [if_pos (by rw [fa_lt, ti0, en]; omega)]
      refine rg_X4_work_i56_63_47 ?_
      rw [if_pos (by rw [fa_le, ti0]; omega), if_neg q96, if_pos rfl, ch, nI_1, nI_1]
      refine ⟨vh, ?_⟩
      rintro _ rfl
      refine ih (i + 1) (h + 1) _ (by omega) (by omega) w (fw _ _) ?_
      rw [zwr_req]
      exact H
    · have n1 : ¬ st (off + i) = 1 := by rw [e]; decide
      simp only [if_neg n1, if_pos e] at H
      obtain ⟨L0, L1, L2⟩ := hN _ hL
      have ew : cod (st (off + i)) (vl (off + i)) = -(vl (off + i)) := by unfold cod; rw [if_neg n1, if_pos e]
      rw [ew]
      have en : (- -(vl (off + i)) - 97).toInt = (vl (off + i)).toInt - 97 := by
        have t97 : (97 : Int32).toInt = 97 := rfl
        rw [Int32.neg_neg, fb_subI (by rw [t97]; omega) (by rw [t97]; omega), t97]
      have en2 : - -(vl (off + i)) - 97 = nI ((vl (off + i)).toInt.toNat - 97) := nI_of_toInt (by omega) (by rw [en]; omega)
      have t26 : (Int32.ofNat 26).toInt = 26 := rfl
      rw [if_neg (by rw [fa_lt, ti0, en]; omega), if_neg (by rw [fa_le, t26, en]; omega)]
      refine rg_X4_work_i56_63_47 ?_
      have en1 := fb_negI (x := vl (off + i)) (by omega)
      rw [if_neg (by rw [fa_le, ti0, en1]; omega), if_neg (by decide), if_neg q96, if_neg (by decide), ch, nI_1, nI_1, en2, cln (by omega), hv 63 (by decide), L2]
      refine ⟨vin (by omega), vh, ?_⟩
      rintro _ rfl
      refine ih (i + 1) (h + 1) _ (by omega) (by omega) w (fw _ _) ?_
      rw [zwr_req]
      exact H
    · have v1 : vp_in (nI (h - 1)) 96 := vin (by omega)
      have c1 : (nI (h - 1)).toNatClampNeg = h - 1 := cln (by omega)
      have q1 : ¬ (nI h < 1) := by rw [fa_lt, ti1, tin (by omega)]; omega
      rcases e with e | e
      · have n1 : ¬ st (off + i) = 1 := by rw [e]; decide
        have n2 : ¬ st (off + i) = 2 := by rw [e]; decide
        simp only [if_neg n1, if_neg n2, if_pos e] at H
        have ew : cod (st (off + i)) (vl (off + i)) = -1 := by unfold cod; rw [if_neg n1, if_neg n2, if_pos e]
        rw [ew, if_pos (by decide)]
        refine rg_X4_work_i56_63_47 ?_
        rw [if_neg (by decide), if_pos rfl, if_neg (by decide), if_pos rfl, if_neg q1, nI_p2 h1, c1, nI_1]
        refine ⟨v1, v1, ?_⟩
        rintro _ rfl
        refine ih (i + 1) h _ (by omega) (by omega) w (fw _ _) ?_
        rw [zwr_req]
        exact H
      · have n1 : ¬ st (off + i) = 1 := by rw [e]; decide
        have n2 : ¬ st (off + i) = 2 := by rw [e]; decide
        have n3 : ¬ st (off + i) = 3 := by rw [e]; decide
        have n4 : ¬ st (off + i) = 4 := by rw [e]; decide
        have n5 : ¬ st (off + i) = 5 := by rw [e]; decide
        simp only [if_neg n1, if_neg n2, if_neg n3, if_pos e] at H
        have ew : cod (st (off + i)) (vl (off + i)) = -33 := by unfold cod; rw [if_neg n1, if_neg n2, if_neg n3, if_neg n4, if_neg n5, e]
        rw [ew, if_pos (by decide)]
        refine rg_X4_work_i56_63_47 ?_
        rw [if_neg (by decide), if_pos rfl, if_pos rfl, if_neg q1, nI_p2 h1, c1, nI_1]
        refine ⟨v1, ?_⟩
        by_cases z : τ 58 (h - 1) = 0
        · rw [if_pos z]
          rw [if_pos z] at H
          refine ⟨v1, ?_⟩
          rintro _ rfl
          refine ih (i + 1) h _ (by omega) (by omega) w (fw _ _) ?_
          rw [zwr_req]
          exact H
        · rw [if_neg z]
          rw [if_neg z] at H
          refine ⟨v1, ?_⟩
          rintro _ rfl
          refine ih (i + 1) h _ (by omega) (by omega) w (fw _ _) ?_
          rw [zwr_req]
          exact H
    · obtain ⟨n1, n2, n3, n4⟩ := isOp_not e
      have v1 : vp_in (nI (h - 1)) 96 := vin (by omega)
      have c1 : (nI (h - 1)).toNatClampNeg = h - 1 := cln (by omega)
      have v2 : vp_in (nI (h - 2)) 96 := vin (by omega)
      have c2 : (nI (h - 2)).toNatClampNeg = h - 2 := cln (by omega)
      simp only [if_neg n1, if_neg n2, if_neg n3, if_neg n4] at H
      have ew : cod (st (off + i)) (vl (off + i)) = opc (st (off + i)) := by unfold cod opc; rw [if_neg n1, if_neg n2, if_neg n3]
      rw [ew]
      have facts : ((-(opc (st (off + i))) - 97 < 0) ∨ (¬ (-(opc (st (off + i))) - 97 < 0) ∧ Int32.ofNat 26 ≤ -(opc (st (off + i))) - 97)) ∧ ¬ (0 ≤ opc (st (off + i))) ∧ ¬ opc (st (off + i)) = -33 ∧ ¬ opc (st (off + i)) = -1 := by
        have e' := e
        unfold isOp at e'
        rcases e' with e' | e' | e' | e' | e' | e' | e' | e' | e' | e' <;> rw [e'] <;> decide
      obtain ⟨g1, g2, g3, g4⟩ := facts
      have q2 : ¬ (nI h < 2) := by rw [fa_lt, ti2, tin (by omega)]; omega
      have fin : WJ G M_X4_work (d + 1) (RI Φ) 47 [some (.inr (.inr 56)), some (.inr (.inr 63)), some (.inl (nI h)), some (.inl (nI i)), some (.inl (opc (st (off + i)))), some (.inl (-(opc (st (off + i))) - 97)), some (.inl 0)] [] τ := by
        refine rg_X4_work_i56_63_47 ?_
        rw [if_neg g2, if_pos rfl, if_neg g3, if_neg g4, if_neg q2, nI_p1 (by omega), nI_p2 (show 1 ≤ h - 1 by omega), show h - 1 - 1 = h - 2 by omega, c1, c2, nI_1]
        refine ⟨v2, v1, ?_⟩
        refine c_joined e ⟨v2, ?_⟩
        rintro _ rfl
        refine ih (i + 1) (h - 1) _ (by omega) (by omega) w (fw _ _) ?_
        rw [zwr_req]
        exact H
      rcases g1 with g1 | ⟨g1, g1'⟩
      · rw [if_pos g1]; exact fin
      · rw [if_neg g1, if_pos g1']; exact fin
theorem x_work59 {G : zGT} {d : Nat} {Φ : Int32 → zMem → Prop} {st vl : Nat → Int32} {N : Int32 → Prop} {nm : Int32 → Int32} {off len : Nat} {σ : zMem} (hl : len ≤ 96) (h2 : σ 59 2 = nI len) (hc : ∀ i, i < len → σ 60 i = cod (st (off + i)) (vl (off + i)))
    (hN : ∀ L, N L → 97 ≤ L.toInt ∧ L.toInt ≤ 122 ∧ σ 63 (L.toInt.toNat - 97) = nm L) :
    ∀ (n i h : Nat) (τ : zMem), i + n = len → h ≤ i → wfd N st vl 1 n (off + i) h → (∀ a, a ≠ 61 → τ a = σ a) → (∀ τ', (∀ a, a ≠ 61 → τ' a = σ a) → Φ ((evf st vl nm n (off + i) (h, τ 61)).2 0) τ') →
    WJ G M_X4_work (d + 1) (RI Φ) 4 [some (.inr (.inr 59)), some (.inr (.inr 63)), some (.inl (nI h)), some (.inl (nI i)), none, none, none] [] τ := by
  intro n
  induction n with
  | zero =>
    intro i h τ hi hh hw hv H
    refine rg_X4_work_i59_63_4 ?_
    have hw : h = 1 := hw
    subst hw
    rw [hv 59 (by decide), h2, if_pos (nI_le (by omega) (by omega)), if_neg (by decide)]
    exact ⟨vin (n := 0) (by decide), H τ hv⟩
  | succ n ih =>
    intro i h τ hi hh hw hv H
    refine rg_X4_work_i59_63_4 ?_
    have vi : vp_in (nI i) 96 := vin (by omega)
    have ci : (nI i).toNatClampNeg = i := cln (by omega)
    rw [hv 59 (by decide), h2, if_neg (nI_ge (by omega) (by omega)), ci, hv 60 (by decide), hc i (by omega)]
    refine ⟨vi, ?_⟩
    have hw : (st (off + i) = 1 ∧ 0 ≤ (vl (off + i)).toInt ∧ (vl (off + i)).toInt ≤ 999999 ∧ wfd N st vl 1 n (off + i + 1) (h + 1)) ∨ (st (off + i) = 2 ∧ N (vl (off + i)) ∧ wfd N st vl 1 n (off + i + 1) (h + 1)) ∨ ((st (off + i) = 3 ∨ st (off + i) = 33) ∧ 1 ≤ h ∧ wfd N st vl 1 n (off + i + 1) h) ∨ (isOp (st (off + i)) ∧ 2 ≤ h ∧ wfd N st vl 1 n (off + i + 1) (h - 1)) := hw
    have H : ∀ τ', (∀ a, a ≠ 61 → τ' a = σ a) → Φ ((evf st vl nm n (off + i + 1) (est st vl nm (off + i) (h, τ 61))).2 0) τ' := H
    unfold est at H
    have vh : vp_in (nI h) 96 := vin (by omega)
    have ch : (nI h).toNatClampNeg = h := cln (by omega)
    have fw : ∀ (j : Nat) (v : Int32), ∀ a, a ≠ 61 → zwr τ 61 j v a = σ a := fun j v a ha => by rw [zwr_rne ha]; exact hv a ha
    have q96 : ¬ ((Int32.ofNat 96) ≤ nI h) := nI_ge (by omega) (by omega)
    rcases hw with ⟨e, l0, l1, w⟩ | ⟨e, hL, w⟩ | ⟨e, h1, w⟩ | ⟨e, hh2, w⟩
    · simp only [if_pos e] at H
      have ew : cod (st (off + i)) (vl (off + i)) = vl (off + i) := by unfold cod; rw [if_pos e]
      rw [ew]
      have en : (-(vl (off + i)) - 97).toInt = -(vl (off + i)).toInt - 97 := by
        have t97 : (97 : Int32).toInt = 97 := rfl
        have en1 := fb_negI (x := vl (off + i)) (by omega)
        rw [fb_subI (by rw [t97, en1]; omega) (by rw [t97, en1]; omega), t97, en1]
      rw [if_pos (by rw [fa_lt, ti0, en]; omega)]
      refine rg_X4_work_i59_63_47 ?_
      rw [if_pos (by rw [fa_le, ti0]; omega), if_neg q96, if_pos rfl, ch, nI_1, nI_1]
      refine ⟨vh, ?_⟩
      rintro _ rfl
      refine ih (i + 1) (h + 1) _ (by omega) (by omega) w (fw _ _) ?_
      rw [zwr_req]
      exact H
    · have n1 : ¬ st (off + i) = 1 := by rw [e]; decide
      simp only [if_neg n1, if_pos e] at H
      obtain ⟨L0, L1, L2⟩ := hN _ hL
      have ew : cod (st (off + i)) (vl (off + i)) = -(vl (off + i)) := by unfold cod; rw [if_neg n1, if_pos e]
      rw [ew]
      have en : (- -(vl (off + i)) - 97).toInt = (vl (off + i)).toInt - 97 := by
        have t97 : (97 : Int32).toInt = 97 := rfl
        rw [Int32.neg_neg, fb_subI (by rw [t97]; omega) (by rw [t97]; omega), t97]
      have en2 : - -(vl (off + i)) - 97 = nI ((vl (off + i)).toInt.toNat - 97) := nI_of_toInt (by omega) (by rw [en]; omega)
      have t26 : (Int32.ofNat 26).toInt = 26 := rfl
      rw [if_neg (by rw [fa_lt, ti0, en]; omega), if_neg (by rw [fa_le, t26, en]; omega)]
      refine rg_X4_work_i59_63_47 ?_
      have en1 := fb_negI (x := vl (off + i)) (by omega)
      rw [if_neg (by rw [fa_le, ti0, en1]; omega), if_neg (by decide), if_neg q96, if_neg (by decide), ch, nI_1, nI_1, en2, cln (by omega), hv 63 (by decide), L2]
      refine ⟨vin (by omega), vh, ?_⟩
      rintro _ rfl
      refine ih (i + 1) (h + 1) _ (by omega) (by omega) w (fw _ _) ?_
      rw [zwr_req]
      exact H
    · have v1 : vp_in (nI (h - 1)) 96 := vin (by omega)
      have c1 : (nI (h - 1)).toNatClampNeg = h - 1 := cln (by omega)
      have q1 : ¬ (nI h < 1) := by rw [fa_lt, ti1, tin (by omega)]; omega
      rcases e with e | e
      · have n1 : ¬ st (off + i) = 1 := by rw [e]; decide
        have n2 : ¬ st (off + i) = 2 := by rw [e]; decide
        simp only [if_neg n1, if_neg n2, if_pos e] at H
        have ew : cod (st (off + i)) (vl (off + i)) = -1 := by unfold cod; rw [if_neg n1, if_neg n2, if_pos e]
        rw [ew, if_pos (by decide)]
        refine rg_X4_work_i59_63_47 ?_
        rw [if_neg (by decide), if_pos rfl, if_neg (by decide), if_pos rfl, if_neg q1, nI_p2 h1, c1, nI_1]
        refine ⟨v1, v1, ?_⟩
        rintro _ rfl
        refine ih (i + 1) h _ (by omega) (by omega) w (fw _ _) ?_
        rw [zwr_req]
        exact H
      · have n1 : ¬ st (off + i) = 1 := by rw [e]; decide
        have n2 : ¬ st (off + i) = 2 := by rw [e]; decide
        have n3 : ¬ st (off + i) = 3 := by rw [e]; decide
        have n4 : ¬ st (off + i) = 4 := by rw [e]; decide
        have n5 : ¬ st (off + i) = 5 := by rw [e]; decide
        simp only [if_neg n1, if_neg n2, if_neg n3, if_pos e] at H
        have ew : cod (st (off + i)) (vl (off + i)) = -33 := by unfold cod; rw [if_neg n1, if_neg n2, if_neg n3, if_neg n4, if_neg n5, e]
        rw [ew, if_pos (by decide)]
        refine rg_X4_work_i59_63_47 ?_
        rw [if_neg (by decide), if_pos rfl, if_pos rfl, if_neg q1, nI_p2 h1, c1, nI_1]
        refine ⟨v1, ?_⟩
        by_cases z : τ 61 (h - 1) = 0
        · rw [if_pos z]
          rw [if_pos z] at H
          refine ⟨v1, ?_⟩
          rintro _ rfl
          refine ih (i + 1) h _ (by omega) (by omega) w (fw _ _) ?_
          rw [zwr_req]
          exact H
        · rw [if_neg z]
          rw [if_neg z] at H
          refine ⟨v1, ?_⟩
          rintro _ rfl
          refine ih (i + 1) h _ (by omega) (by omega) w (fw _ _) ?_
          rw [zwr_req]
          exact H
    · obtain ⟨n1, n2, n3, n4⟩ := isOp_not e
      have v1 : vp_in (nI (h - 1)) 96 := vin (by omega)
      have c1 : (nI (h - 1)).toNatClampNeg = h - 1 := cln (by omega)
      have v2 : vp_in (nI (h - 2)) 96 := vin (by omega)
      have c2 : (nI (h - 2)).toNatClampNeg = h - 2 := cln (by omega)
      simp only [if_neg n1, if_neg n2, if_neg n3, if_neg n4] at H
      have ew : cod (st (off + i)) (vl (off + i)) = opc (st (off + i)) := by unfold cod opc; rw [if_neg n1, if_neg n2, if_neg n3]
      rw [ew]
      have facts : ((-(opc (st (off + i))) - 97 < 0) ∨ (¬ (-(opc (st (off + i))) - 97 < 0) ∧ Int32.ofNat 26 ≤ -(opc (st (off + i))) - 97)) ∧ ¬ (0 ≤ opc (st (off + i))) ∧ ¬ opc (st (off + i)) = -33 ∧ ¬ opc (st (off + i)) = -1 := by
        have e' := e
        unfold isOp at e'
        rcases e' with e' | e' | e' | e' | e' | e' | e' | e' | e' | e' <;> rw [e'] <;> decide
      obtain ⟨g1, g2, g3, g4⟩ := facts
      have q2 : ¬ (nI h < 2) := by rw [fa_lt, ti2, tin (by omega)]; omega
      have fin : WJ G M_X4_work (d + 1) (RI Φ) 47 [some (.inr (.inr 59)), some (.inr (.inr 63)), some (.inl (nI h)), some (.inl (nI i)), some (.inl (opc (st (off + i)))), some (.inl (-(opc (st (off + i))) - 97)), some (.inl 0)] [] τ := by
        refine rg_X4_work_i59_63_47 ?_
        rw [if_neg g2, if_pos rfl, if_neg g3, if_neg g4, if_neg q2, nI_p1 (by omega), nI_p2 (show 1 ≤ h - 1 by omega), show h - 1 - 1 = h - 2 by omega, c1, c2, nI_1]
        refine ⟨v2, v1, ?_⟩
        refine c_joined e ⟨v2, ?_⟩
        rintro _ rfl
        refine ih (i + 1) (h - 1) _ (by omega) (by omega) w (fw _ _) ?_
        rw [zwr_req]
        exact H
      rcases g1 with g1 | ⟨g1, g1'⟩
      · rw [if_pos g1]; exact fin
      · rw [if_neg g1, if_pos g1']; exact fin
