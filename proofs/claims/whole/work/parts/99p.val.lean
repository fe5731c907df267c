/-! ===== the class's formulas ===== -/
theorem val_e {n : Nat} {A : Nat → Nat} {σ : AM} (H : LC A σ) (hI : Inj n A) (hn : 68 ≤ n) (rr : Nat) {mm : VM} {line i e : Nat} (hl5 : line < 5) (he : e ≤ 1000) (hi : ¬ i < e) (hi2 : i ≤ 1000) (e14 : mm.1 14 line = iI (e : Int)) (wh ht : Int32) : L_Tw_value_1 (A 10) (iI (line : Int)) rr wh ht (iI (i : Int)) (ov n A mm σ) = some (mm.1 16 0, ov n A mm σ) := by
  have c1 : ¬ (i : Int) < (e : Int) := by omega
  rw [E_Tw_value_1]
  simp (disch := omega) only [cK_10 H, cR_10_3 H, cK_14 H, cN_14 H, okO_ov, aR_ov, aN_ov, gd_true, gd_in, iI_cl, Int.toNat_natCast, aI_ov hI, e14, l_0, iI_lt, c1, ↓reduceIte]
  simp (disch := omega) only [cR_10_5 H, cK_16 H, cN_16 H, gd_true, gd_in, Int.reduceToNat, aI_ov hI]
theorem val_o {n : Nat} {A : Nat → Nat} {σ : AM} (H : LC A σ) (hI : Inj n A) (hn : 68 ≤ n) {rc : Nat} (hrc : rc < n) (hrk : okO σ (A rc) 101 = true) (hrn : aN σ (A rc) = 6) {mm : VM} {line i e c h T : Nat} (hl5 : line < 5) (he : e ≤ 1000) (hi : i < e) (e14 : mm.1 14 line = iI (e : Int)) (e12 : mm.1 12 i = iI (c : Int)) (hc : 8 ≤ c) (hh : h < 32) (hT : T ≤ 6) (hB : cdB T c) (wh : Int32) : L_Tw_value_1 (A 10) (iI (line : Int)) (A rc) wh (iI (h : Int)) (iI (i : Int)) (ov n A mm σ) = L_Tw_value_1 (A 10) (iI (line : Int)) (A rc) wh (iI ((h + 1 : Nat) : Int)) (iI ((i + 1 : Nat) : Int)) (ov n A (sV mm 16 h (opV (mm.1 rc) wh c)) σ) := by
  have hc3 : c < 10032 := by unfold cdB at hB; omega
  have qo := q_operand hI hrc hrk hrn (m := mm) hT hB wh
  have c1 : (i : Int) < (e : Int) := by omega
  have c2 : ¬ (c : Int) < 8 := by omega
  have c3 : (h : Int) < 32 := by omega
  rw [E_Tw_value_1]
  simp (disch := omega) only [cK_10 H, cR_10_1 H, cK_12 H, cN_12 H, cR_10_3 H, cK_14 H, cN_14 H, okO_ov, aR_ov, aN_ov, gd_true, gd_in, iI_cl, Int.toNat_natCast, aI_ov hI, letT_eq, e14, e12, l_1, l_8, l_32, iI_lt, iI_eq, c1, c2, c3, ↓reduceIte]
  rw [cR_10_5 H, cK_16 H, gd_true, qo, bnd_some]
  simp (disch := omega) only [okO_ov, cK_16 H, gd_true, aN_ov, cN_16 H, gd_in, sI_ov hI, E_Tw_value_3, l_1, iI_add, iI_s]
theorem val_n {n : Nat} {A : Nat → Nat} {σ : AM} (H : LC A σ) (hI : Inj n A) (hn : 68 ≤ n) (rr : Nat) {mm : VM} {line i e h : Nat} (hl5 : line < 5) (he : e ≤ 1000) (hi : i < e) (e14 : mm.1 14 line = iI (e : Int)) (e12 : mm.1 12 i = iI 0) (hh : 1 ≤ h) (hh2 : h ≤ 32) (wh : Int32) : L_Tw_value_1 (A 10) (iI (line : Int)) rr wh (iI (h : Int)) (iI (i : Int)) (ov n A mm σ) = L_Tw_value_1 (A 10) (iI (line : Int)) rr wh (iI (h : Int)) (iI ((i + 1 : Nat) : Int)) (ov n A (sV mm 16 (h - 1) (if mm.1 16 (h - 1) = iI 0 then iI 1 else iI 0)) σ) := by
  have e1 : (h : Int) - 1 = ((h - 1 : Nat) : Int) := by omega
  have c1 : (i : Int) < (e : Int) := by omega
  have c3 : ¬ (h : Int) < 1 := by omega
  rw [E_Tw_value_1]
  simp (disch := omega) only [cK_10 H, cR_10_1 H, cK_12 H, cN_12 H, cR_10_3 H, cK_14 H, cN_14 H, okO_ov, aR_ov, aN_ov, gd_true, gd_in, iI_cl, Int.toNat_natCast, aI_ov hI, letT_eq, e14, e12, l_0, l_1, l_8, iI_lt, iI_eq, c1, c3, e1, iI_sub, Int.reduceLT, ↓reduceIte]
  rw [cR_10_5 H, cK_16 H, gd_true, cN_16 H, gd_in (by omega) (by omega) (by omega), aI_ov hI _ _ (by omega)]
  by_cases y : mm.1 16 (h - 1) = iI 0
  · rw [if_pos y, if_pos y, E_Tw_value_2, q_truth1, bnd_some]
    simp (disch := omega) only [okO_ov, cK_16 H, gd_true, aN_ov, cN_16 H, gd_in, sI_ov hI, letT_eq, iI_cl, Int.toNat_natCast, E_Tw_value_3, l_1, iI_add, iI_s]
  · rw [if_neg y, if_neg y, E_Tw_value_2, q_truth0, bnd_some]
    simp (disch := omega) only [okO_ov, cK_16 H, gd_true, aN_ov, cN_16 H, gd_in, sI_ov hI, letT_eq, iI_cl, Int.toNat_natCast, E_Tw_value_3, l_1, iI_add, iI_s]
theorem val_j {n : Nat} {A : Nat → Nat} {σ : AM} (H : LC A σ) (hI : Inj n A) (hn : 68 ≤ n) (rr : Nat) {mm : VM} {line i e c h : Nat} (hl5 : line < 5) (he : e ≤ 1000) (hi : i < e) (e14 : mm.1 14 line = iI (e : Int)) (e12 : mm.1 12 i = iI (c : Int)) (h1 : 1 ≤ c) (h2 : c ≤ 7) (hh : 2 ≤ h) (hh2 : h ≤ 32) (wh : Int32) : L_Tw_value_1 (A 10) (iI (line : Int)) rr wh (iI (h : Int)) (iI (i : Int)) (ov n A mm σ) = L_Tw_value_1 (A 10) (iI (line : Int)) rr wh (iI ((h - 1 : Nat) : Int)) (iI ((i + 1 : Nat) : Int)) (ov n A (sV mm 16 (h - 2) (jnV c (mm.1 16 (h - 2)) (mm.1 16 (h - 1)))) σ) := by
  have qj := q_joined h1 h2 (mm.1 16 (h - 2)) (mm.1 16 (h - 1)) (ov n A mm σ)
  have e1 : (h : Int) + -1 = ((h - 1 : Nat) : Int) := by omega
  have e2 : ((h - 1 : Nat) : Int) - 1 = ((h - 2 : Nat) : Int) := by omega
  have c1 : iI (i : Int) < iI (e : Int) := by rw [iI_lt (by omega) (by omega) (by omega) (by omega)]; omega
  have c2 : iI (c : Int) < (8 : Int32) := by rw [l_8, iI_lt (by omega) (by omega) (by omega) (by omega)]; omega
  have c3 : ¬ iI (c : Int) = 0 := by rw [l_0, iI_eq (by omega) (by omega) (by omega) (by omega)]; omega
  have c4 : ¬ iI (h : Int) < (2 : Int32) := by rw [l_2, iI_lt (by omega) (by omega) (by omega) (by omega)]; omega
  have z1 : iI (h : Int) + ((-1) : Int32) = iI ((h - 1 : Nat) : Int) := by rw [l_1, iI_neg, iI_add]; exact congrArg iI e1
  have z2 : iI ((h - 1 : Nat) : Int) - (1 : Int32) = iI ((h - 2 : Nat) : Int) := by rw [l_1, iI_sub]; exact congrArg iI e2
  rw [E_Tw_value_1, okO_ov, aR_ov, aN_ov, cK_10 H, gd_true, cR_10_3 H, cK_14 H, gd_true, cN_14 H, gd_in (by omega) (by omega) (by omega), iI_cl (by omega) (by omega), Int.toNat_natCast, aI_ov hI _ _ (by omega), e14, if_pos c1, cR_10_1 H, cK_12 H, gd_true, cN_12 H, gd_in (by omega) (by omega) (by omega), iI_cl (by omega) (by omega), Int.toNat_natCast, aI_ov hI _ _ (by omega), e12, letT_eq, if_pos c2, if_neg c3, if_neg c4, z1, z2, cR_10_5 H, cK_16 H, gd_true, cN_16 H, gd_in (by omega) (by omega) (by omega), gd_in (by omega) (by omega) (by omega), iI_cl (by omega) (by omega), Int.toNat_natCast, iI_cl (by omega) (by omega), Int.toNat_natCast, aI_ov hI _ _ (by omega), aI_ov hI _ _ (by omega), qj, bnd_some, okO_ov, cK_16 H, gd_true, aN_ov, cN_16 H, gd_in (by omega) (by omega) (by omega), letT_eq, sI_ov hI _ _ (by omega), E_Tw_value_3, l_1, iI_add, iI_s]
