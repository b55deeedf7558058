theorem gbit : ∀ b, b < 64 → ∀ f, f < 6 → (((nI b >>> (nI f &&& 31)) &&& 1 = 1) ↔ b.testBit f = true) := by decide +kernel
theorem gbit' {x : Int32} (h0 : 0 ≤ x.toInt) (h1 : x.toInt < 64) {f : Nat} (hf : f < 6) : ((x >>> (nI f &&& 31)) &&& 1 = 1) ↔ x.toInt.toNat.testBit f = true := by
  obtain ⟨b, rfl, hb, hb3⟩ := num_of h0 (show x.toInt ≤ 63 by omega)
  rw [tin hb3]
  exact gbit b (by omega) f hf
theorem m_isInRank {G : zGT} {d : Nat} {β σ : zMem} {Φ : Int32 → zMem → Prop} {c f r : Nat} (hβ : Rany β) (e8 : σ 78 = β 78) (e9 : σ 79 = β 79) (e0 : σ 80 = β 80) (hc : c < bN β) (hf : f < 6) (hr : r < 4) (h1 : bR β c f r = true → Φ 1 σ) (h0 : ¬ bR β c f r = true → Φ 0 σ) : CTI G d Y_X12_isInRank [.inr (.inr 72), .inl (nI c), .inl (nI f), .inl (nI r)] σ Φ := by
  have n24 := bN_24 hβ
  have hc' := (bN_c hβ).1 hc
  obtain ⟨p1, p2, p3, p4, p5, p6, p7, p8, p9, p10, -⟩ := hβ.2.2.1.1 c hc'
  have vc : vp_in (nI c) 24 := vin (by omega)
  refine en_X12_isInRank ?_
  rw [cln (by omega), e8, e9, e0]
  refine ⟨vc, ?_⟩
  unfold bR inR at h1 h0
  have r4 : r = 0 ∨ r = 1 ∨ r = 2 ∨ r = 3 := by omega
  by_cases g : β 79 c = nI f
  · rw [if_pos g]
    have g' : (β 79 c).toInt = (f : Int) := by rw [g, tin (by omega)]
    rw [if_pos g', decide_eq_true_iff] at h1 h0
    rcases r4 with rfl | rfl | rfl | rfl
    · rw [if_pos (by decide)]
      refine ⟨vc, zeq (fun q => h1 ?_) (fun q => h0 ?_)⟩ <;> rw [ti4] at q <;> omega
    · rw [if_neg (by decide), if_pos (by decide)]
      refine ⟨vc, zeq (fun q => h1 ?_) (fun q => h0 ?_)⟩ <;> rw [ti2] at q <;> omega
    · rw [if_neg (by decide), if_neg (by decide), if_pos (by decide)]
      refine ⟨vc, zle (fun q => h1 ?_) (fun q => h0 ?_)⟩ <;> rw [ti1] at q <;> omega
    · rw [if_neg (by decide), if_neg (by decide), if_neg (by decide)]
      refine ⟨vc, zeq (fun q => h1 ?_) (fun q => h0 ?_)⟩ <;> rw [ti3] at q <;> omega
  · rw [if_neg g]
    have g' : ¬ (β 79 c).toInt = (f : Int) := fun q => g (nI_of_toInt (by omega) q)
    rw [if_neg g', decide_eq_true_iff] at h1 h0
    rcases r4 with rfl | rfl | rfl | rfl
    · rw [if_pos (by decide)]
      exact h0 (by omega)
    · rw [if_neg (by decide), if_pos (by decide)]
      exact h0 (by omega)
    · rw [if_neg (by decide), if_neg (by decide), if_pos (by decide)]
      refine ⟨vc, ?_⟩
      by_cases b : ((β 80 c) >>> (nI f &&& 31)) &&& 1 = 1
      · rw [if_pos b]
        exact h1 ⟨rfl, (gbit' p9 p10 hf).1 b⟩
      · rw [if_neg b]
        exact h0 (fun q => b ((gbit' p9 p10 hf).2 q.2))
    · rw [if_neg (by decide), if_neg (by decide), if_neg (by decide)]
      exact h0 (by omega)
theorem DR.cashSub {n : Nat} {S : zWS} {o p cs : Nat → Int32} {md V : Int32} {zz : Nat → Nat → Int32} {f : Nat} (h : DR n S o p cs md zz) (hf : f < 6) (h1 : -2147483648 ≤ S.2.2.1 f - V.toInt) (h2 : S.2.2.1 f - V.toInt < 2147483648) : DR n (wsCash S f (-V.toInt)) o p (upd cs f (cs f - V)) md zz := by
  obtain ⟨a1, a2, a3, a4⟩ := h
  refine ⟨a1, fun g hg => ?_, a3, a4⟩
  have b := a2 f hf
  show (upd cs f (cs f - V) g).toInt = S.2.2.1 g + (if g = f then -V.toInt else 0)
  by_cases e : g = f
  · subst e
    rw [upd_eq, if_pos rfl, fb_subI (by omega) (by omega), b]; omega
  · rw [upd_ne e, if_neg e, a2 g hg]; omega
theorem MS.cashSub {β : zMem} {q : Nat → Int32} {rd : Nat} {S : zWS} {σ : zMem} {f : Nat} {V : Int32} (h : MS β q rd S σ) (hf : f < 6) (h1 : -2147483648 ≤ S.2.2.1 f - V.toInt) (h2 : S.2.2.1 f - V.toInt < 2147483648) : MS β q rd (wsCash S f (-V.toInt)) (zwr σ 100 f (σ 100 f - V)) := by
  obtain ⟨m1, m0, m2, m3⟩ := h
  refine ⟨m1.wr (by omega), by rw [zwr_rne (by decide)]; exact m0, by rw [zwr_rne (by decide)]; exact m2, ?_⟩
  have z : mzz (zwr σ 100 f (σ 100 f - V)) = mzz σ := by
    funext a b
    simp only [mzz, zwr_rne, ne_eq, Nat.reduceEqDiff, not_false_eq_true]
  simp only [zwr_rne, zwr_req, ne_eq, Nat.reduceEqDiff, not_false_eq_true, z]
  exact m3.cashSub hf h1 h2
theorem MS.cashAdd {β : zMem} {q : Nat → Int32} {rd : Nat} {S : zWS} {σ : zMem} {f : Nat} {V : Int32} (h : MS β q rd S σ) (hf : f < 6) (h1 : -2147483648 ≤ S.2.2.1 f + V.toInt) (h2 : S.2.2.1 f + V.toInt < 2147483648) : MS β q rd (wsCash S f V.toInt) (zwr σ 100 f (σ 100 f + V)) := by
  obtain ⟨m1, m0, m2, m3⟩ := h
  refine ⟨m1.wr (by omega), by rw [zwr_rne (by decide)]; exact m0, by rw [zwr_rne (by decide)]; exact m2, ?_⟩
  have z : mzz (zwr σ 100 f (σ 100 f + V)) = mzz σ := by
    funext a b
    simp only [mzz, zwr_rne, ne_eq, Nat.reduceEqDiff, not_false_eq_true]
  simp only [zwr_rne, zwr_req, ne_eq, Nat.reduceEqDiff, not_false_eq_true, z]
  exact m3.cash hf h1 h2
/-- what a claim gets in a rank, 0 if it is not in it -/
def coinAt (ir : Nat → Bool) (n f : Nat) (S : zWS) (i : Nat) : Int := if ir i then wsCoin (wsTot ir S.1 n) (S.2.2.1 f) (S.1 i) else 0
theorem m_rkStep {G : zGT} {d : Nat} {β : zMem} {q : Nat → Int32} {rd : Nat} {B : Int} {S : zWS} {τ : zMem} {K : zMem → Prop} {ir : Nat → Bool} {f i : Nat} {V : Int32} (hβ : Rany β) (hw : WI (bN β) B S) (hB : B ≤ 1600000) (hf : f < 6) (hi : i < bN β) (hrd : rd ≤ 60)
    (h : MS β q rd (wsRk ir (bH β) (bN β) f rd S i) τ) (hV : V.toInt = coinAt ir (bN β) f S i) (H : ∀ τ' : zMem, MS β q rd (wsRk ir (bH β) (bN β) f rd S (i + 1)) τ' → K τ') :
    if V ≤ 0 then K τ else (vp_in (nI f) 6 ∧ (vp_in (nI f) 6 ∧ ∀ s1 : zMem, s1 = zwr τ 100 (nI f).toNatClampNeg (τ 100 (nI f).toNatClampNeg - V) → CTV G (d + 2) Y_X12_pay [.inr (.inr 72), .inl (nI f), .inl (nI i), .inl V] s1 K)) := by
  rw [wsRk_s] at H
  unfold coinAt at hV
  by_cases g : ir i = true
  · simp only [if_pos g] at H hV
    obtain ⟨w1, w2, w3⟩ := WI.rk (rd := rd) (hd := bH β) (ir := ir) hw hf i (by omega)
    obtain ⟨c1, c2, c3⟩ := WI.coin (rd := rd) (hd := bH β) hw hf hi g
    refine zle (fun q => H _ ?_) (fun q => ?_)
    · unfold wsPay
      rw [if_pos (by rw [ti0] at q; omega)]
      exact h
    · rw [ti0] at q
      have v6 : vp_in (nI f) 6 := vin hf
      refine ⟨v6, v6, ?_⟩
      rintro _ rfl
      rw [cln (by omega)]
      have cf := w1.cash hf
      have rw1 := w1.rows (bN_24 hβ)
      have o1 := w2 i (Nat.le_refl _)
      have e := w1.1 i hi
      rw [← hV] at c2 c3 H
      refine m_pay hβ (h.cashSub hf (by omega) (by omega)) hf hi (by show V.toInt ≤ (wsRk ir (bH β) (bN β) f rd S i).1 i; omega) (by show (wsRk ir (bH β) (bN β) f rd S i).1 i ≤ _; omega) e.2.1 (by show (wsRk ir (bH β) (bN β) f rd S i).2.1 i ≤ _; omega) (by show (wsRk ir (bH β) (bN β) f rd S i).2.2.2.1 ≤ _; omega) (fun g hg => ?_) hrd (fun σ' hs => H σ' ?_)
      · have := w1.2.1 g hg
        have := w1.cash hg
        show -2000000 ≤ (wsRk ir (bH β) (bN β) f rd S i).2.2.1 g + (if g = f then -V.toInt else 0) ∧ (wsRk ir (bH β) (bN β) f rd S i).2.2.1 g + (if g = f then -V.toInt else 0) ≤ 2000000
        by_cases gg : g = f
        · subst gg; rw [if_pos rfl]; omega
        · rw [if_neg gg]; omega
      · rw [wsPay_M1 q]
        exact hs
  · simp only [if_neg g] at H hV
    rw [if_pos (by rw [fa_le, ti0]; omega)]
    exact H τ h
