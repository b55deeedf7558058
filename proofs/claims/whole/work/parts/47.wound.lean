-- the two relations stay where only the winding's own cells change
theorem MF.rall {β σ : zMem} (h : MF β σ) (hβ : Rall β) : Rall σ := by
  have e0 : σ 0 = β 0 := h.1 0 (by decide) (by decide)
  have e1 : σ 1 = β 1 := h.1 1 (by decide) (by decide)
  have e2 : σ 2 = β 2 := h.1 2 (by decide) (by decide)
  have e3 : σ 3 = β 3 := h.1 3 (by decide) (by decide)
  have e4 : σ 4 = β 4 := h.1 4 (by decide) (by decide)
  have e5 : σ 5 = β 5 := h.1 5 (by decide) (by decide)
  have e7 : σ 7 = β 7 := h.1 7 (by decide) (by decide)
  have e8 : σ 8 = β 8 := h.1 8 (by decide) (by decide)
  have e9 : σ 9 = β 9 := h.1 9 (by decide) (by decide)
  have e11 : σ 11 = β 11 := h.1 11 (by decide) (by decide)
  have e12 : σ 12 = β 12 := h.1 12 (by decide) (by decide)
  have e13 : σ 13 = β 13 := h.1 13 (by decide) (by decide)
  have e14 : σ 14 = β 14 := h.1 14 (by decide) (by decide)
  have e15 : σ 15 = β 15 := h.1 15 (by decide) (by decide)
  have e16 : σ 16 = β 16 := h.1 16 (by decide) (by decide)
  have e17 : σ 17 = β 17 := h.1 17 (by decide) (by decide)
  have e18 : σ 18 = β 18 := h.1 18 (by decide) (by decide)
  have e19 : σ 19 = β 19 := h.1 19 (by decide) (by decide)
  have e20 : σ 20 = β 20 := h.1 20 (by decide) (by decide)
  have e21 : σ 21 = β 21 := h.1 21 (by decide) (by decide)
  have e22 : σ 22 = β 22 := h.1 22 (by decide) (by decide)
  have e23 : σ 23 = β 23 := h.1 23 (by decide) (by decide)
  have e24 : σ 24 = β 24 := h.1 24 (by decide) (by decide)
  have e25 : σ 25 = β 25 := h.1 25 (by decide) (by decide)
  have e26 : σ 26 = β 26 := h.1 26 (by decide) (by decide)
  have e27 : σ 27 = β 27 := h.1 27 (by decide) (by decide)
  have e28 : σ 28 = β 28 := h.1 28 (by decide) (by decide)
  have e29 : σ 29 = β 29 := h.1 29 (by decide) (by decide)
  have e30 : σ 30 = β 30 := h.1 30 (by decide) (by decide)
  have e31 : σ 31 = β 31 := h.1 31 (by decide) (by decide)
  have e32 : σ 32 = β 32 := h.1 32 (by decide) (by decide)
  have e33 : σ 33 = β 33 := h.1 33 (by decide) (by decide)
  have e35 : σ 35 = β 35 := h.1 35 (by decide) (by decide)
  have e36 : σ 36 = β 36 := h.1 36 (by decide) (by decide)
  have e37 : σ 37 = β 37 := h.1 37 (by decide) (by decide)
  have e38 : σ 38 = β 38 := h.1 38 (by decide) (by decide)
  have e39 : σ 39 = β 39 := h.1 39 (by decide) (by decide)
  have e41 : σ 41 = β 41 := h.1 41 (by decide) (by decide)
  have e42 : σ 42 = β 42 := h.1 42 (by decide) (by decide)
  have e43 : σ 43 = β 43 := h.1 43 (by decide) (by decide)
  have e44 : σ 44 = β 44 := h.1 44 (by decide) (by decide)
  have e45 : σ 45 = β 45 := h.1 45 (by decide) (by decide)
  have e46 : σ 46 = β 46 := h.1 46 (by decide) (by decide)
  have e47 : σ 47 = β 47 := h.1 47 (by decide) (by decide)
  have e55 : σ 55 = β 55 := h.1 55 (by decide) (by decide)
  have e56 : σ 56 = β 56 := h.1 56 (by decide) (by decide)
  have e57 : σ 57 = β 57 := h.1 57 (by decide) (by decide)
  have e59 : σ 59 = β 59 := h.1 59 (by decide) (by decide)
  have e60 : σ 60 = β 60 := h.1 60 (by decide) (by decide)
  have e69 : σ 69 = β 69 := h.1 69 (by decide) (by decide)
  have e70 : σ 70 = β 70 := h.1 70 (by decide) (by decide)
  have e71 : σ 71 = β 71 := h.1 71 (by decide) (by decide)
  have e73 : σ 73 = β 73 := h.1 73 (by decide) (by decide)
  have e74 : σ 74 = β 74 := h.1 74 (by decide) (by decide)
  have e75 : σ 75 = β 75 := h.1 75 (by decide) (by decide)
  have e76 : σ 76 = β 76 := h.1 76 (by decide) (by decide)
  have e77 : σ 77 = β 77 := h.1 77 (by decide) (by decide)
  have e78 : σ 78 = β 78 := h.1 78 (by decide) (by decide)
  have e79 : σ 79 = β 79 := h.1 79 (by decide) (by decide)
  have e80 : σ 80 = β 80 := h.1 80 (by decide) (by decide)
  have e81 : σ 81 = β 81 := h.1 81 (by decide) (by decide)
  have e82 : σ 82 = β 82 := h.1 82 (by decide) (by decide)
  have e83 : σ 83 = β 83 := h.1 83 (by decide) (by decide)
  have e84 : σ 84 = β 84 := h.1 84 (by decide) (by decide)
  have e85 : σ 85 = β 85 := h.1 85 (by decide) (by decide)
  have e86 : σ 86 = β 86 := h.1 86 (by decide) (by decide)
  have e87 : σ 87 = β 87 := h.1 87 (by decide) (by decide)
  have e88 : σ 88 = β 88 := h.1 88 (by decide) (by decide)
  have e89 : σ 89 = β 89 := h.1 89 (by decide) (by decide)
  have e90 : σ 90 = β 90 := h.1 90 (by decide) (by decide)
  have e91 : σ 91 = β 91 := h.1 91 (by decide) (by decide)
  have e92 : σ 92 = β 92 := h.1 92 (by decide) (by decide)
  have e93 : σ 93 = β 93 := h.1 93 (by decide) (by decide)
  have e94 : σ 94 = β 94 := h.1 94 (by decide) (by decide)
  have e95 : σ 95 = β 95 := h.1 95 (by decide) (by decide)
  have e96 : σ 96 = β 96 := h.1 96 (by decide) (by decide)
  have e97 : σ 97 = β 97 := h.1 97 (by decide) (by decide)
  have e106 : σ 106 = β 106 := h.1 106 (by decide) (by decide)
  have e107 : σ 107 = β 107 := h.1 107 (by decide) (by decide)
  have f0 : σ 72 0 = β 72 0 := h.2 0 (by decide) (by decide)
  have f1 : σ 72 1 = β 72 1 := h.2 1 (by decide) (by decide)
  have f2 : σ 72 2 = β 72 2 := h.2 2 (by decide) (by decide)
  have f8 : σ 72 8 = β 72 8 := h.2 8 (by decide) (by decide)
  have f22 : σ 72 22 = β 72 22 := h.2 22 (by decide) (by decide)
  have f23 : σ 72 23 = β 72 23 := h.2 23 (by decide) (by decide)
  have f24 : σ 72 24 = β 72 24 := h.2 24 (by decide) (by decide)
  have f25 : σ 72 25 = β 72 25 := h.2 25 (by decide) (by decide)
  have f28 : σ 72 28 = β 72 28 := h.2 28 (by decide) (by decide)
  have f29 : σ 72 29 = β 72 29 := h.2 29 (by decide) (by decide)
  have f30 : σ 72 30 = β 72 30 := h.2 30 (by decide) (by decide)
  have f46 : σ 72 46 = β 72 46 := h.2 46 (by decide) (by decide)
  have f47 : σ 72 47 = β 72 47 := h.2 47 (by decide) (by decide)
  have f48 : σ 72 48 = β 72 48 := h.2 48 (by decide) (by decide)
  have f49 : σ 72 49 = β 72 49 := h.2 49 (by decide) (by decide)
  unfold Rall
  simp only [e0, e1, e2, e3, e4, e5, e7, e8, e9, e11, e12, e13, e14, e15, e16, e17, e18, e19, e20, e21, e22, e23, e24, e25, e26, e27, e28, e29, e30, e31, e32, e33, e35, e36, e37, e38, e39, e41, e42, e43, e44, e45, e46, e47, e55, e56, e57, e59, e60, e69, e70, e71, e73, e74, e75, e76, e77, e78, e79, e80, e81, e82, e83, e84, e85, e86, e87, e88, e89, e90, e91, e92, e93, e94, e95, e96, e97, e106, e107, f0, f1, f2, f8, f22, f23, f24, f25, f28, f29, f30, f46, f47, f48, f49]
  exact hβ
def Wd (β : zMem) (s : Nat) : Nat × zWS := wnd s (β 72 1) (β 72 8) (β 72 2) (β 72 0) (β 72 23) (β 73) (β 74) (β 75) (β 76) (β 77) (β 78) (β 79) (β 80) (β 84) (β 85) (β 86) (β 87) (β 88) (β 89)
theorem Wd_eq (β : zMem) (s : Nat) : Wd β s = wsLoop (bR β) (bH β) (β 72 1).toInt.toNat (bN β) 60 0 (wsA β s (β 72 2).toInt.toNat) := rfl
theorem XF20.any {β σ : zMem} (h : XF20 β σ) (hβ : Rany β) (hw : Rwx (β 72 8) (β 72 0) (σ 20 11) (σ 20 9) (σ 20 10) (σ 21) (σ 22) (σ 23) (σ 24) (σ 25) (σ 26) (β 87) (β 88) (β 89) (Wd β 0)) : Rany σ := by
  have e0 : σ 0 = β 0 := h.1 0 (by decide)
  have e1 : σ 1 = β 1 := h.1 1 (by decide)
  have e2 : σ 2 = β 2 := h.1 2 (by decide)
  have e3 : σ 3 = β 3 := h.1 3 (by decide)
  have e4 : σ 4 = β 4 := h.1 4 (by decide)
  have e5 : σ 5 = β 5 := h.1 5 (by decide)
  have e7 : σ 7 = β 7 := h.1 7 (by decide)
  have e8 : σ 8 = β 8 := h.1 8 (by decide)
  have e9 : σ 9 = β 9 := h.1 9 (by decide)
  have e11 : σ 11 = β 11 := h.1 11 (by decide)
  have e12 : σ 12 = β 12 := h.1 12 (by decide)
  have e13 : σ 13 = β 13 := h.1 13 (by decide)
  have e14 : σ 14 = β 14 := h.1 14 (by decide)
  have e15 : σ 15 = β 15 := h.1 15 (by decide)
  have e16 : σ 16 = β 16 := h.1 16 (by decide)
  have e17 : σ 17 = β 17 := h.1 17 (by decide)
  have e18 : σ 18 = β 18 := h.1 18 (by decide)
  have e19 : σ 19 = β 19 := h.1 19 (by decide)
  have e27 : σ 27 = β 27 := h.1 27 (by decide)
  have e28 : σ 28 = β 28 := h.1 28 (by decide)
  have e29 : σ 29 = β 29 := h.1 29 (by decide)
  have e30 : σ 30 = β 30 := h.1 30 (by decide)
  have e31 : σ 31 = β 31 := h.1 31 (by decide)
  have e32 : σ 32 = β 32 := h.1 32 (by decide)
  have e33 : σ 33 = β 33 := h.1 33 (by decide)
  have e35 : σ 35 = β 35 := h.1 35 (by decide)
  have e36 : σ 36 = β 36 := h.1 36 (by decide)
  have e37 : σ 37 = β 37 := h.1 37 (by decide)
  have e38 : σ 38 = β 38 := h.1 38 (by decide)
  have e39 : σ 39 = β 39 := h.1 39 (by decide)
  have e41 : σ 41 = β 41 := h.1 41 (by decide)
  have e42 : σ 42 = β 42 := h.1 42 (by decide)
  have e43 : σ 43 = β 43 := h.1 43 (by decide)
  have e44 : σ 44 = β 44 := h.1 44 (by decide)
  have e45 : σ 45 = β 45 := h.1 45 (by decide)
  have e46 : σ 46 = β 46 := h.1 46 (by decide)
  have e47 : σ 47 = β 47 := h.1 47 (by decide)
  have e55 : σ 55 = β 55 := h.1 55 (by decide)
  have e56 : σ 56 = β 56 := h.1 56 (by decide)
  have e57 : σ 57 = β 57 := h.1 57 (by decide)
  have e59 : σ 59 = β 59 := h.1 59 (by decide)
  have e60 : σ 60 = β 60 := h.1 60 (by decide)
  have e69 : σ 69 = β 69 := h.1 69 (by decide)
  have e70 : σ 70 = β 70 := h.1 70 (by decide)
  have e71 : σ 71 = β 71 := h.1 71 (by decide)
  have e72 : σ 72 = β 72 := h.1 72 (by decide)
  have e73 : σ 73 = β 73 := h.1 73 (by decide)
  have e74 : σ 74 = β 74 := h.1 74 (by decide)
  have e75 : σ 75 = β 75 := h.1 75 (by decide)
  have e76 : σ 76 = β 76 := h.1 76 (by decide)
  have e77 : σ 77 = β 77 := h.1 77 (by decide)
  have e78 : σ 78 = β 78 := h.1 78 (by decide)
  have e79 : σ 79 = β 79 := h.1 79 (by decide)
  have e80 : σ 80 = β 80 := h.1 80 (by decide)
  have e81 : σ 81 = β 81 := h.1 81 (by decide)
  have e82 : σ 82 = β 82 := h.1 82 (by decide)
  have e83 : σ 83 = β 83 := h.1 83 (by decide)
  have e84 : σ 84 = β 84 := h.1 84 (by decide)
  have e85 : σ 85 = β 85 := h.1 85 (by decide)
  have e86 : σ 86 = β 86 := h.1 86 (by decide)
  have e87 : σ 87 = β 87 := h.1 87 (by decide)
  have e88 : σ 88 = β 88 := h.1 88 (by decide)
  have e89 : σ 89 = β 89 := h.1 89 (by decide)
  have e90 : σ 90 = β 90 := h.1 90 (by decide)
  have e91 : σ 91 = β 91 := h.1 91 (by decide)
  have e92 : σ 92 = β 92 := h.1 92 (by decide)
  have e93 : σ 93 = β 93 := h.1 93 (by decide)
  have e94 : σ 94 = β 94 := h.1 94 (by decide)
  have e95 : σ 95 = β 95 := h.1 95 (by decide)
  have e96 : σ 96 = β 96 := h.1 96 (by decide)
  have e97 : σ 97 = β 97 := h.1 97 (by decide)
  have e106 : σ 106 = β 106 := h.1 106 (by decide)
  have e107 : σ 107 = β 107 := h.1 107 (by decide)
  have f2 : σ 20 2 = β 20 2 := h.2 2 (by decide) (by decide) (by decide)
  obtain ⟨kk, kas, kcl, kda, kdh, kpl, kkp, ksh, kwt, ktp, klw, ksd, kw0, kw1⟩ := hβ
  unfold Rany
  simp only [e0, e1, e2, e3, e4, e5, e7, e8, e9, e11, e12, e13, e14, e15, e16, e17, e18, e19, e27, e28, e29, e30, e31, e32, e33, e35, e36, e37, e38, e39, e41, e42, e43, e44, e45, e46, e47, e55, e56, e57, e59, e60, e69, e70, e71, e72, e73, e74, e75, e76, e77, e78, e79, e80, e81, e82, e83, e84, e85, e86, e87, e88, e89, e90, e91, e92, e93, e94, e95, e96, e97, e106, e107, f2]
  exact ⟨kk, kas, kcl, kda, kdh, kpl, kkp, ksh, kwt, ktp, klw, ksd, hw, kw1⟩
theorem XF27.any {β σ : zMem} (h : XF27 β σ) (hβ : Rany β) (hw : Rwx (β 72 8) (β 72 0) (σ 27 11) (σ 27 9) (σ 27 10) (σ 28) (σ 29) (σ 30) (σ 31) (σ 32) (σ 33) (β 87) (β 88) (β 89) (Wd β 1)) : Rany σ := by
  have e0 : σ 0 = β 0 := h.1 0 (by decide)
  have e1 : σ 1 = β 1 := h.1 1 (by decide)
  have e2 : σ 2 = β 2 := h.1 2 (by decide)
  have e3 : σ 3 = β 3 := h.1 3 (by decide)
  have e4 : σ 4 = β 4 := h.1 4 (by decide)
  have e5 : σ 5 = β 5 := h.1 5 (by decide)
  have e7 : σ 7 = β 7 := h.1 7 (by decide)
  have e8 : σ 8 = β 8 := h.1 8 (by decide)
  have e9 : σ 9 = β 9 := h.1 9 (by decide)
  have e11 : σ 11 = β 11 := h.1 11 (by decide)
  have e12 : σ 12 = β 12 := h.1 12 (by decide)
  have e13 : σ 13 = β 13 := h.1 13 (by decide)
  have e14 : σ 14 = β 14 := h.1 14 (by decide)
  have e15 : σ 15 = β 15 := h.1 15 (by decide)
  have e16 : σ 16 = β 16 := h.1 16 (by decide)
  have e17 : σ 17 = β 17 := h.1 17 (by decide)
  have e18 : σ 18 = β 18 := h.1 18 (by decide)
  have e19 : σ 19 = β 19 := h.1 19 (by decide)
  have e20 : σ 20 = β 20 := h.1 20 (by decide)
  have e21 : σ 21 = β 21 := h.1 21 (by decide)
  have e22 : σ 22 = β 22 := h.1 22 (by decide)
  have e23 : σ 23 = β 23 := h.1 23 (by decide)
  have e24 : σ 24 = β 24 := h.1 24 (by decide)
  have e25 : σ 25 = β 25 := h.1 25 (by decide)
  have e26 : σ 26 = β 26 := h.1 26 (by decide)
  have e35 : σ 35 = β 35 := h.1 35 (by decide)
  have e36 : σ 36 = β 36 := h.1 36 (by decide)
  have e37 : σ 37 = β 37 := h.1 37 (by decide)
  have e38 : σ 38 = β 38 := h.1 38 (by decide)
  have e39 : σ 39 = β 39 := h.1 39 (by decide)
  have e41 : σ 41 = β 41 := h.1 41 (by decide)
  have e42 : σ 42 = β 42 := h.1 42 (by decide)
  have e43 : σ 43 = β 43 := h.1 43 (by decide)
  have e44 : σ 44 = β 44 := h.1 44 (by decide)
  have e45 : σ 45 = β 45 := h.1 45 (by decide)
  have e46 : σ 46 = β 46 := h.1 46 (by decide)
  have e47 : σ 47 = β 47 := h.1 47 (by decide)
  have e55 : σ 55 = β 55 := h.1 55 (by decide)
  have e56 : σ 56 = β 56 := h.1 56 (by decide)
  have e57 : σ 57 = β 57 := h.1 57 (by decide)
  have e59 : σ 59 = β 59 := h.1 59 (by decide)
  have e60 : σ 60 = β 60 := h.1 60 (by decide)
  have e69 : σ 69 = β 69 := h.1 69 (by decide)
  have e70 : σ 70 = β 70 := h.1 70 (by decide)
  have e71 : σ 71 = β 71 := h.1 71 (by decide)
  have e72 : σ 72 = β 72 := h.1 72 (by decide)
  have e73 : σ 73 = β 73 := h.1 73 (by decide)
  have e74 : σ 74 = β 74 := h.1 74 (by decide)
  have e75 : σ 75 = β 75 := h.1 75 (by decide)
  have e76 : σ 76 = β 76 := h.1 76 (by decide)
  have e77 : σ 77 = β 77 := h.1 77 (by decide)
  have e78 : σ 78 = β 78 := h.1 78 (by decide)
  have e79 : σ 79 = β 79 := h.1 79 (by decide)
  have e80 : σ 80 = β 80 := h.1 80 (by decide)
  have e81 : σ 81 = β 81 := h.1 81 (by decide)
  have e82 : σ 82 = β 82 := h.1 82 (by decide)
  have e83 : σ 83 = β 83 := h.1 83 (by decide)
  have e84 : σ 84 = β 84 := h.1 84 (by decide)
  have e85 : σ 85 = β 85 := h.1 85 (by decide)
  have e86 : σ 86 = β 86 := h.1 86 (by decide)
  have e87 : σ 87 = β 87 := h.1 87 (by decide)
  have e88 : σ 88 = β 88 := h.1 88 (by decide)
  have e89 : σ 89 = β 89 := h.1 89 (by decide)
  have e90 : σ 90 = β 90 := h.1 90 (by decide)
  have e91 : σ 91 = β 91 := h.1 91 (by decide)
  have e92 : σ 92 = β 92 := h.1 92 (by decide)
  have e93 : σ 93 = β 93 := h.1 93 (by decide)
  have e94 : σ 94 = β 94 := h.1 94 (by decide)
  have e95 : σ 95 = β 95 := h.1 95 (by decide)
  have e96 : σ 96 = β 96 := h.1 96 (by decide)
  have e97 : σ 97 = β 97 := h.1 97 (by decide)
  have e106 : σ 106 = β 106 := h.1 106 (by decide)
  have e107 : σ 107 = β 107 := h.1 107 (by decide)
  have f2 : σ 27 2 = β 27 2 := h.2 2 (by decide) (by decide) (by decide)
  obtain ⟨kk, kas, kcl, kda, kdh, kpl, kkp, ksh, kwt, ktp, klw, ksd, kw0, kw1⟩ := hβ
  unfold Rany
  simp only [e0, e1, e2, e3, e4, e5, e7, e8, e9, e11, e12, e13, e14, e15, e16, e17, e18, e19, e20, e21, e22, e23, e24, e25, e26, e35, e36, e37, e38, e39, e41, e42, e43, e44, e45, e46, e47, e55, e56, e57, e59, e60, e69, e70, e71, e72, e73, e74, e75, e76, e77, e78, e79, e80, e81, e82, e83, e84, e85, e86, e87, e88, e89, e90, e91, e92, e93, e94, e95, e96, e97, e106, e107, f2]
  exact ⟨kk, kas, kcl, kda, kdh, kpl, kkp, ksh, kwt, ktp, klw, ksd, kw0, hw⟩
theorem wsLoop_le {ir : Nat → Nat → Nat → Bool} {hd : Nat → Int} {fm n : Nat} : ∀ (k rd : Nat) (S : zWS), (wsLoop ir hd fm n k rd S).1 ≤ rd + k
  | 0, _, _ => Nat.le_refl _
  | k + 1, rd, S => by
    unfold wsLoop
    split
    · have := wsLoop_le (ir := ir) (hd := hd) (fm := fm) (n := n) k (rd + 1) (wsRound ir hd fm n (rd + 1) S)
      omega
    · show rd + 1 ≤ rd + (k + 1)
      omega
theorem WI.loop {n fm : Nat} {B : Int} {hd : Nat → Int} {ir : Nat → Nat → Nat → Bool} (hf : fm ≤ 6) : ∀ (k rd : Nat) (S : zWS), WI n B S → WI n B (wsLoop ir hd fm n k rd S).2
  | 0, _, _, h => h
  | k + 1, rd, S, h => by
    unfold wsLoop
    split
    · exact WI.loop hf k (rd + 1) _ (WI.round h fm hf)
    · exact WI.round h fm hf
theorem Wd_le (β : zMem) (s : Nat) : (Wd β s).1 ≤ 60 := by
  rw [Wd_eq]
  have := wsLoop_le (ir := bR β) (hd := bH β) (fm := (β 72 1).toInt.toNat) (n := bN β) 60 0 (wsA β s (β 72 2).toInt.toNat)
  omega
theorem Wd_WI {β : zMem} (h : Rany β) (s : Nat) : WI (bN β) 1600000 (Wd β s).2 := by
  rw [Wd_eq]
  have b1 := h.1.1.2.2
  have b2 := h.1.2.1.2
  exact WI.loop (by omega) 60 0 _ ((WI.assets h _ (by omega)).more (by omega))
-- no firm, no cash
def WZ (fm : Nat) (S : zWS) : Prop := ∀ g : Nat, fm ≤ g → S.2.2.1 g = 0
theorem WZ.pay {fm rd f c : Nat} {v : Int} {S : zWS} {hd : Nat → Int} (h : WZ fm S) (hf : f < fm) (hc : hd c < 10 + (fm : Int)) : WZ fm (wsPay hd rd f c v S) := by
  intro g hg
  unfold wsPay
  split
  · exact h g hg
  · show S.2.2.1 g - (if g = f then v else 0) + (if hd c = 10 + (g : Int) then v else 0) = 0
    rw [if_neg (by omega), if_neg (by omega), h g hg]; rfl
theorem WZ.cash {fm f : Nat} {v : Int} {S : zWS} (h : WZ fm S) (hf : f < fm) : WZ fm (wsCash S f v) := by
  intro g hg
  show S.2.2.1 g + (if g = f then v else 0) = 0
  rw [if_neg (by omega), h g hg]; rfl
theorem WZ.rk {fm n rd f : Nat} {S : zWS} {hd : Nat → Int} {ir : Nat → Bool} (h : WZ fm S) (hf : f < fm) (hc : ∀ c, c < n → hd c < 10 + (fm : Int)) : ∀ i : Nat, i ≤ n → WZ fm (wsRk ir hd n f rd S i)
  | 0, _ => h
  | i + 1, hi => by
    rw [wsRk_s]
    split
    · exact (WZ.rk h hf hc i (by omega)).pay hf (hc i (by omega))
    · exact WZ.rk h hf hc i (by omega)
theorem WZ.firm {fm n rd f : Nat} {hd : Nat → Int} {ir : Nat → Nat → Bool} (hf : f < fm) (hc : ∀ c, c < n → hd c < 10 + (fm : Int)) : ∀ (k r : Nat) (S : zWS), WZ fm S → WZ fm (wsFirm ir hd n f rd k r S)
  | 0, _, _, h => h
  | k + 1, r, S, h => by
    unfold wsFirm
    split
    · exact WZ.firm hf hc k (r + 1) _ (WZ.rk h hf hc n (Nat.le_refl _))
    · exact WZ.rk h hf hc n (Nat.le_refl _)
theorem WZ.round {fm n rd : Nat} {hd : Nat → Int} {ir : Nat → Nat → Nat → Bool} {S : zWS} (h : WZ fm S) (hc : ∀ c, c < n → hd c < 10 + (fm : Int)) : ∀ f : Nat, f ≤ fm → WZ fm (wsRound ir hd f n rd S)
  | 0, _ => h
  | f + 1, hf => WZ.firm (by omega) hc 4 0 _ (WZ.round h hc f (by omega))
theorem WZ.loop {fm n : Nat} {hd : Nat → Int} {ir : Nat → Nat → Nat → Bool} (hc : ∀ c, c < n → hd c < 10 + (fm : Int)) : ∀ (k rd : Nat) (S : zWS), WZ fm S → WZ fm (wsLoop ir hd fm n k rd S).2
  | 0, _, _, h => h
  | k + 1, rd, S, h => by
    unfold wsLoop
    split
    · exact WZ.loop hc k (rd + 1) _ (WZ.round h hc fm (Nat.le_refl _))
    · exact WZ.round h hc fm (Nat.le_refl _)
theorem bH_fm {β : zMem} (h : Rany β) {c : Nat} (hc : c < bN β) : bH β c < 10 + (((β 72 1).toInt.toNat : Nat) : Int) := by
  obtain ⟨⟨k1, k2, k3, k4, k5, k6, k7, k8, k9⟩, kas, kcl, kda, kdh, -⟩ := id h
  obtain ⟨q1, q2, q3, q4⟩ := kdh.1 c ((bN_c h).1 hc)
  have u1 := k1.2.1
  have := zlo_rng (dd := β 89) (vv := β 88) (b := 9 * c) (day := β 72 0) (o := β 88 (9 * c)) (lo := 0) (hi := 9 + (β 72 1).toInt) ((q4 0 (by omega)).2.2) ((β 87 c).toInt.toNat + 1) (fun i hi => (q4 i (by omega)).2.2)
  unfold bH hldS
  omega
theorem Wd_WZ {β : zMem} (h : Rany β) (s : Nat) : WZ (β 72 1).toInt.toNat (Wd β s).2 := by
  rw [Wd_eq]
  refine WZ.loop (fun c hc => bH_fm h hc) 60 0 _ ?_
  have L : ∀ a : Nat, (a : Int) ≤ (β 72 2).toInt → WZ (β 72 1).toInt.toNat (wsA β s a) := by
    intro a
    induction a with
    | zero => intro _ g _; rfl
    | succ a ih =>
      intro ha
      have ih' := ih (by omega)
      obtain ⟨q1, q2, q3, q4, q5, q6, q7, q8, q9, q10, q11, q12, q13, q14, q15⟩ := h.2.1 a (by omega)
      show WZ _ (wsAsset (bH β) (bB β s) (β 73) (β 77) a (wsA β s a))
      unfold wsAsset
      by_cases g : (β 77 a).toInt < 0
      · rw [if_pos g]
        exact ih'.cash (by omega)
      · rw [if_neg g]
        refine (ih'.cash (by omega)).pay (by omega) (bH_fm h ?_)
        rw [bN_c h]; omega
  have b2 := h.1.2.1.2.1
  exact L _ (by omega)
/-- this winding is told as it stands -/
theorem XS20.rwx {β σ : zMem} (h : XS20 β (Wd β 0).1 (Wd β 0).2 σ) (hβ : Rany β) (h11 : σ 20 11 = 1) : Rwx (β 72 8) (β 72 0) (σ 20 11) (σ 20 9) (σ 20 10) (σ 21) (σ 22) (σ 23) (σ 24) (σ 25) (σ 26) (β 87) (β 88) (β 89) (Wd β 0) := by
  obtain ⟨m1, m2, m0, m3⟩ := h
  have le := Wd_le β 0
  refine ⟨Or.inr h11, fun _ => ⟨?_, m3.2.2.1, fun c hc => ?_, m3.2.1, m3.2.2.2⟩⟩
  · rw [m2, tin (by omega)]
  · have hc' := (bN_c hβ).2 hc
    exact ⟨(m3.1 c hc').2, (m0 c hc').2⟩
theorem c_fresh20 {G : zGT} {d : Nat} {σ : zMem} {Φ : zMem → Prop} (h : Rany σ) (hp : ∀ σ', (∀ a : Nat, ¬ (20 ≤ a ∧ a ≤ 33) → σ' a = σ a) → Rany σ' → σ' 20 11 = 1 → Φ σ') : if σ 20 11 = 0 then CTV G (d + 4) Y_X10_windUp [.inr (.inr 20), .inl (σ 0 15), .inl (σ 0 16)] σ Φ else Φ σ := by
  have f := (h.2.2.2.2.2.2.2.2.2.2.2.2.1).1
  by_cases g : σ 20 11 = 0
  · rw [if_pos g, h.1.1.1, h.1.2.2.2.1.1]
    refine c_windUp20 h (fun σ' h' h11 => ?_)
    rw [← Wd_eq] at h'
    refine hp σ' (fun a ha => h'.1.1 a (by omega)) (h'.1.any h (h'.rwx h h11)) h11
  · rw [if_neg g]
    exact hp σ (fun _ _ => rfl) h (by rcases f with q | q; exact absurd q g; exact q)
theorem XS27.rwx {β σ : zMem} (h : XS27 β (Wd β 1).1 (Wd β 1).2 σ) (hβ : Rany β) (h11 : σ 27 11 = 1) : Rwx (β 72 8) (β 72 0) (σ 27 11) (σ 27 9) (σ 27 10) (σ 28) (σ 29) (σ 30) (σ 31) (σ 32) (σ 33) (β 87) (β 88) (β 89) (Wd β 1) := by
  obtain ⟨m1, m2, m0, m3⟩ := h
  have le := Wd_le β 1
  refine ⟨Or.inr h11, fun _ => ⟨?_, m3.2.2.1, fun c hc => ?_, m3.2.1, m3.2.2.2⟩⟩
  · rw [m2, tin (by omega)]
  · have hc' := (bN_c hβ).2 hc
    exact ⟨(m3.1 c hc').2, (m0 c hc').2⟩
theorem c_fresh27 {G : zGT} {d : Nat} {σ : zMem} {Φ : zMem → Prop} (h : Rany σ) (hp : ∀ σ', (∀ a : Nat, ¬ (20 ≤ a ∧ a ≤ 33) → σ' a = σ a) → Rany σ' → σ' 27 11 = 1 → Φ σ') : if σ 27 11 = 0 then CTV G (d + 4) Y_X10_windUp [.inr (.inr 27), .inl (σ 0 15), .inl (σ 0 16)] σ Φ else Φ σ := by
  have f := (h.2.2.2.2.2.2.2.2.2.2.2.2.2).1
  by_cases g : σ 27 11 = 0
  · rw [if_pos g, h.1.1.1, h.1.2.2.2.1.1]
    refine c_windUp27 h (fun σ' h' h11 => ?_)
    rw [← Wd_eq] at h'
    refine hp σ' (fun a ha => h'.1.1 a (by omega)) (h'.1.any h (h'.rwx h h11)) h11
  · rw [if_neg g]
    exact hp σ (fun _ _ => rfl) h (by rcases f with q | q; exact absurd q g; exact q)
theorem c_wound {G : zGT} {d : Nat} {σ : zMem} {Φ : Nat → zMem → Prop} {s : Nat} (h : Rany σ) (hs : s < 2) (h0 : s = 0 → ∀ σ', (∀ a : Nat, ¬ (20 ≤ a ∧ a ≤ 33) → σ' a = σ a) → Rany σ' → σ' 20 11 = 1 → Φ 20 σ') (h1 : s = 1 → ∀ σ', (∀ a : Nat, ¬ (20 ≤ a ∧ a ≤ 33) → σ' a = σ a) → Rany σ' → σ' 27 11 = 1 → Φ 27 σ') : CTR G (d + 5) Y_X11_wound [.inr (.inr 0), .inl (nI s)] σ Φ := by
  refine en_X11_wound ?_
  have s2 : s = 0 ∨ s = 1 := by omega
  rcases s2 with rfl | rfl
  · rw [if_pos (by decide)]
    exact c_fresh20 h (h0 rfl)
  · rw [if_neg (by decide)]
    exact c_fresh27 h (h1 rfl)
