/-! ===== the reference: what is left ===== -/
theorem q_Md_within {a l h : Int} (σ : AM) (h1 : -2147483648 ≤ a) (h2 : a < 2147483648) (h3 : -2147483648 ≤ l) (h4 : l < 2147483648) (h5 : -2147483648 ≤ h) (h6 : h < 2147483648) : M_Md_within (iI a) (iI l) (iI h) σ = some (bZ (decide (l ≤ a ∧ a ≤ h)), σ) := by
  unfold M_Md_within
  rw [E_Md_within_0]; simp (disch := omega) only [E_Md_within_1, E_Md_within_2, l_0, l_1, letT_eq, gd_true, bnd_some, iI_add, iI_sub, iI_mul, iI_neg, iI_lt, iI_eq, iI_cl, nI_iI, gd_in, bZ_0, bZ_1, bZ_eq, isB_bZ, isB_0, isB_1, nar_bZ, nar_0, nar_1, iI_s, iI_na, Int.toNat_natCast, Int.add_zero, Int.zero_add, Nat.reduceEqDiff, Nat.reduceAdd, Int.reduceAdd, Int.reduceNeg, Int.reduceSub, Int.reduceMul, Int.reduceLT, Int.reduceEq, Int.reduceToNat, reduceCtorEq, ↓reduceIte]
  by_cases q : a < l
  · rw [if_pos q, mw_of (Nat.le_refl _) (Nat.le_refl _), decide_eq_false (by omega)]; rfl
  · rw [if_neg q]
    by_cases q2 : h < a
    · rw [if_pos q2, mw_of (Nat.le_refl _) (Nat.le_refl _), decide_eq_false (by omega)]; rfl
    · rw [if_neg q2, mw_of (Nat.le_refl _) (Nat.le_refl _), decide_eq_true (by omega)]; rfl
theorem q_Md_isWhat {a : Int} (σ : AM) (h1 : -2147483648 ≤ a) (h2 : a < 2147483648) : M_Md_isWhat (iI a) σ = some (bZ (decide (0 ≤ a ∧ a ≤ 1)), σ) := by
  unfold M_Md_isWhat
  rw [E_Md_isWhat_0]; simp (disch := omega) only [l_0, l_1, letT_eq, gd_true, bnd_some, iI_add, iI_sub, iI_mul, iI_neg, iI_lt, iI_eq, iI_cl, nI_iI, gd_in, bZ_0, bZ_1, bZ_eq, isB_bZ, isB_0, isB_1, nar_bZ, nar_0, nar_1, iI_s, iI_na, Int.toNat_natCast, Int.add_zero, Int.zero_add, Nat.reduceEqDiff, Nat.reduceAdd, Int.reduceAdd, Int.reduceNeg, Int.reduceSub, Int.reduceMul, Int.reduceLT, Int.reduceEq, Int.reduceToNat, reduceCtorEq, ↓reduceIte, q_Md_within]
  exact mw_of (Nat.le_refl _) (Nat.le_refl _)
theorem q_Md_isSet {A : Nat → Nat} {σ : AM} (H : LM A σ) {m : VM} {d : TD} (hd : wfD d) (hm : MT d m) {a : Int} (h1 : -2147483648 ≤ a) (h2 : a < 2147483648) : M_Md_isSet (A 0) (iI a) (ov 40 A m σ) = some (bZ (decide (0 ≤ a ∧ a < (sN d : Nat))), (ov 40 A m σ)) := by
  unfold M_Md_isSet
  have := sN_le hd
  rw [E_Md_isSet_0]; simp (disch := omega) only [E_Md_isSet_1, E_Md_isSet_2, l_0, l_1, mK_0 H, letT_eq, gd_true, bnd_some, aR_ov, aK_ov, aN_ov, okO_ov, aI_ov H.1, aL_ov H.1, sI_ov H.1, sL_ov H.1, sV_eq, sV_ne, sV_2, sW_eq, sW_ne, sW_1, iI_add, iI_sub, iI_mul, iI_neg, iI_lt, iI_eq, iI_cl, nI_iI, gd_in, bZ_0, bZ_1, bZ_eq, isB_bZ, isB_0, isB_1, nar_bZ, nar_0, nar_1, mw_ov, iI_s, iI_na, Int.toNat_natCast, Int.add_zero, Int.zero_add, Nat.reduceEqDiff, Nat.reduceAdd, Int.reduceAdd, Int.reduceNeg, Int.reduceSub, Int.reduceMul, Int.reduceLT, Int.reduceEq, Int.reduceToNat, reduceCtorEq, ↓reduceIte, q_Md_sets H hd hm]
  by_cases q : a < 0
  · rw [if_pos q, mw_ov, decide_eq_false (by omega)]; rfl
  · rw [if_neg q]
    by_cases q2 : a < (sN d : Nat)
    · rw [if_pos q2, mw_ov, decide_eq_true (by omega)]; rfl
    · rw [if_neg q2, mw_ov, decide_eq_false (by omega)]; rfl
theorem q_Md_isWeights {A : Nat → Nat} {σ : AM} (H : LM A σ) {m : VM} {d : TD} (hd : wfD d) (hm : MT d m) {a : Int} (h1 : -2147483648 ≤ a) (h2 : a < 2147483648) : M_Md_isWeights (A 0) (iI a) (ov 40 A m σ) = some (bZ (decide (0 ≤ a ∧ a < (dW d : Int))), (ov 40 A m σ)) := by
  unfold M_Md_isWeights
  have := hd.2.2.2.2.2.2
  rw [E_Md_isWeights_0]; simp (disch := omega) only [E_Md_isWeights_1, E_Md_isWeights_2, l_0, l_1, mK_0 H, letT_eq, gd_true, bnd_some, aR_ov, aK_ov, aN_ov, okO_ov, aI_ov H.1, aL_ov H.1, sI_ov H.1, sL_ov H.1, sV_eq, sV_ne, sV_2, sW_eq, sW_ne, sW_1, iI_add, iI_sub, iI_mul, iI_neg, iI_lt, iI_eq, iI_cl, nI_iI, gd_in, bZ_0, bZ_1, bZ_eq, isB_bZ, isB_0, isB_1, nar_bZ, nar_0, nar_1, mw_ov, iI_s, iI_na, Int.toNat_natCast, Int.add_zero, Int.zero_add, Nat.reduceEqDiff, Nat.reduceAdd, Int.reduceAdd, Int.reduceNeg, Int.reduceSub, Int.reduceMul, Int.reduceLT, Int.reduceEq, Int.reduceToNat, reduceCtorEq, ↓reduceIte, hm.1.2.2.2.2.1]
  by_cases q : a < 0
  · rw [if_pos q, mw_ov, decide_eq_false (by omega)]; rfl
  · rw [if_neg q]
    by_cases q2 : a < (dW d : Int)
    · rw [if_pos q2, mw_ov, decide_eq_true (by omega)]; rfl
    · rw [if_neg q2, mw_ov, decide_eq_false (by omega)]; rfl
theorem p_Md_findMust {A : Nat → Nat} {σ : AM} (H : LM A σ) {m : VM} {d : TD} {b : BD} (hb : wfB d b) (hB : MB b m) : ∃ m' : VM, M_Md_findMust (A 0) (ov 40 A m σ) = some ((), (ov 40 A m' σ)) ∧ m'.1 = m.1 ∧ (∀ c, c ≠ 0 → m'.2 c = m.2 c) ∧ m'.2 0 40 = must b ∧ m'.2 0 41 = mustN b := by
  have hn := hb.1
  have h := up_loopI (fun k m1 => L_Md_findMust_1 (A 0) (iI (k : Int)) (ov 40 A m1 σ)) (fun k m1 => m1.1 = m.1 ∧ (∀ c, c ≠ 0 → m1.2 c = m.2 c) ∧ m1.2 0 40 = tol b true 0 k ∧ m1.2 0 41 = tol b false 0 k) (fun x => ∃ m' : VM, x = some ((), (ov 40 A m' σ)) ∧ m'.1 = m.1 ∧ (∀ c, c ≠ 0 → m'.2 c = m.2 c) ∧ m'.2 0 40 = must b ∧ m'.2 0 41 = mustN b) (nT b) (fun k m1 hk ⟨i1, i2, i3, i4⟩ ih => by
      have h37 : m1.1 0 37 = iI (nT b : Int) := by rw [i1]; exact hB.1.1
      have h22 : m1.1 22 k = bZ (tR b k) := by rw [i1]; exact hB.2.2.1 k (by omega)
      have h21 : m1.1 21 k = iI (tS b k : Int) := by rw [i1]; exact hB.2.1 k (by omega)
      have hs := hb.2.2.1 k (by omega)
      show ∃ m' : VM, L_Md_findMust_1 _ _ _ = _ ∧ _
      cases hr : tR b k
      · rw [hr] at h22
        rw [E_Md_findMust_1]; simp (disch := omega) only [E_Md_findMust_2, E_Md_findMust_3, l_0, l_1, mK_0 H, mR_38 H, mK_21 H, mN_21 H, mR_39 H, mK_22 H, mN_22 H, letT_eq, gd_true, bnd_some, aR_ov, aK_ov, aN_ov, okO_ov, aI_ov H.1, aL_ov H.1, sI_ov H.1, sL_ov H.1, sV_eq, sV_ne, sV_2, sW_eq, sW_ne, sW_1, iI_add, iI_sub, iI_mul, iI_neg, iI_lt, iI_eq, iI_cl, nI_iI, gd_in, bZ_0, bZ_1, bZ_eq, isB_bZ, isB_0, isB_1, nar_bZ, nar_0, nar_1, mw_ov, iI_s, iI_na, Int.toNat_natCast, Int.add_zero, Int.zero_add, Nat.reduceEqDiff, Nat.reduceAdd, Int.reduceAdd, Int.reduceNeg, Int.reduceSub, Int.reduceMul, Int.reduceLT, Int.reduceEq, Int.reduceToNat, reduceCtorEq, ↓reduceIte, h37, h22, h21, i3, i4, shl_b1 hs, or0]
        rw [if_pos (by omega)]
        refine ih _ ⟨?_, fun c hc => ?_, ?_, ?_⟩
        · simp only [sW_1]; exact i1
        · rw [sW_ne _ _ _ _ hc, sW_ne _ _ _ _ hc]; exact i2 c hc
        · simp (disch := decide) only [sV_eq, sW_eq, sV_ne, sW_ne, sV_2, sW_1, Nat.reduceEqDiff, ↓reduceIte]; rw [tol, if_neg (by rw [hr]; simp)]
        · simp (disch := decide) only [sV_eq, sW_eq, sV_ne, sW_ne, sV_2, sW_1, Nat.reduceEqDiff, ↓reduceIte]; rw [tol, if_pos ⟨by omega, hr⟩]; rfl
      · rw [hr] at h22
        rw [E_Md_findMust_1]; simp (disch := omega) only [E_Md_findMust_2, E_Md_findMust_3, l_0, l_1, mK_0 H, mR_38 H, mK_21 H, mN_21 H, mR_39 H, mK_22 H, mN_22 H, letT_eq, gd_true, bnd_some, aR_ov, aK_ov, aN_ov, okO_ov, aI_ov H.1, aL_ov H.1, sI_ov H.1, sL_ov H.1, sV_eq, sV_ne, sV_2, sW_eq, sW_ne, sW_1, iI_add, iI_sub, iI_mul, iI_neg, iI_lt, iI_eq, iI_cl, nI_iI, gd_in, bZ_0, bZ_1, bZ_eq, isB_bZ, isB_0, isB_1, nar_bZ, nar_0, nar_1, mw_ov, iI_s, iI_na, Int.toNat_natCast, Int.add_zero, Int.zero_add, Nat.reduceEqDiff, Nat.reduceAdd, Int.reduceAdd, Int.reduceNeg, Int.reduceSub, Int.reduceMul, Int.reduceLT, Int.reduceEq, Int.reduceToNat, reduceCtorEq, ↓reduceIte, h37, h22, h21, i3, i4, shl_b1 hs, or0]
        rw [if_pos (by omega)]
        refine ih _ ⟨?_, fun c hc => ?_, ?_, ?_⟩
        · simp only [sW_1]; exact i1
        · rw [sW_ne _ _ _ _ hc, sW_ne _ _ _ _ hc]; exact i2 c hc
        · simp (disch := decide) only [sV_eq, sW_eq, sV_ne, sW_ne, sV_2, sW_1, Nat.reduceEqDiff, ↓reduceIte]; rw [tol, if_pos ⟨by omega, hr⟩]; rfl
        · simp (disch := decide) only [sV_eq, sW_eq, sV_ne, sW_ne, sV_2, sW_1, Nat.reduceEqDiff, ↓reduceIte]; rw [tol, if_neg (by rw [hr]; simp)]) (fun m1 ⟨i1, i2, i3, i4⟩ => by
      have h37 : m1.1 0 37 = iI (nT b : Int) := by rw [i1]; exact hB.1.1
      show ∃ m' : VM, L_Md_findMust_1 _ _ _ = _ ∧ _
      rw [E_Md_findMust_1]; simp (disch := omega) only [E_Md_findMust_2, E_Md_findMust_3, l_0, l_1, mK_0 H, mR_38 H, mK_21 H, mN_21 H, mR_39 H, mK_22 H, mN_22 H, letT_eq, gd_true, bnd_some, aR_ov, aK_ov, aN_ov, okO_ov, aI_ov H.1, aL_ov H.1, sI_ov H.1, sL_ov H.1, sV_eq, sV_ne, sV_2, sW_eq, sW_ne, sW_1, iI_add, iI_sub, iI_mul, iI_neg, iI_lt, iI_eq, iI_cl, nI_iI, gd_in, bZ_0, bZ_1, bZ_eq, isB_bZ, isB_0, isB_1, nar_bZ, nar_0, nar_1, mw_ov, iI_s, iI_na, Int.toNat_natCast, Int.add_zero, Int.zero_add, Nat.reduceEqDiff, Nat.reduceAdd, Int.reduceAdd, Int.reduceNeg, Int.reduceSub, Int.reduceMul, Int.reduceLT, Int.reduceEq, Int.reduceToNat, reduceCtorEq, ↓reduceIte, h37]
      rw [if_neg (by omega)]
      exact ⟨m1, rfl, i1, i2, i3, i4⟩) 0 (sW (sW m 0 40 0) 0 41 0) (by omega) ⟨rfl, fun c hc => by rw [sW_ne _ _ _ _ hc, sW_ne _ _ _ _ hc], by simp (disch := decide) only [sV_eq, sW_eq, sV_ne, sW_ne, sV_2, sW_1, Nat.reduceEqDiff, ↓reduceIte]; rfl, by simp (disch := decide) only [sV_eq, sW_eq, sV_ne, sW_ne, sV_2, sW_1, Nat.reduceEqDiff, ↓reduceIte]; rfl⟩
  obtain ⟨m', e, q⟩ := h
  refine ⟨m', ?_, q⟩
  unfold M_Md_findMust
  rw [E_Md_findMust_0]; simp (disch := omega) only [l_0, mK_0 H, letT_eq, gd_true, bnd_some, aR_ov, aK_ov, aN_ov, okO_ov, aI_ov H.1, aL_ov H.1, sI_ov H.1, sL_ov H.1, sV_eq, sV_ne, sV_2, sW_eq, sW_ne, sW_1, iI_add, iI_sub, iI_mul, iI_neg, iI_lt, iI_eq, iI_cl, nI_iI, gd_in, bZ_0, bZ_1, bZ_eq, isB_bZ, isB_0, isB_1, nar_bZ, nar_0, nar_1, mw_ov, iI_s, iI_na, Int.toNat_natCast, Int.add_zero, Int.zero_add, Nat.reduceEqDiff, Nat.reduceAdd, Int.reduceAdd, Int.reduceNeg, Int.reduceSub, Int.reduceMul, Int.reduceLT, Int.reduceEq, Int.reduceToNat, reduceCtorEq, ↓reduceIte]
  exact (congrArg (mw _) e).trans (mw_ov _ _ _ _ _ _)
theorem q_Md_fits {A : Nat → Nat} {σ : AM} (H : LM A σ) {m : VM} {b : BD} (h1 : m.2 0 40 = must b) (h2 : m.2 0 41 = mustN b) (x : Int64) : M_Md_fits (A 0) x (ov 40 A m σ) = some (bZ (fitT b x), (ov 40 A m σ)) := by
  unfold M_Md_fits
  rw [E_Md_fits_0]; simp (disch := omega) only [E_Md_fits_1, E_Md_fits_2, l_0, l_1, mK_0 H, letT_eq, gd_true, bnd_some, aR_ov, aK_ov, aN_ov, okO_ov, aI_ov H.1, aL_ov H.1, sI_ov H.1, sL_ov H.1, sV_eq, sV_ne, sV_2, sW_eq, sW_ne, sW_1, iI_add, iI_sub, iI_mul, iI_neg, iI_lt, iI_eq, iI_cl, nI_iI, gd_in, bZ_0, bZ_1, bZ_eq, isB_bZ, isB_0, isB_1, nar_bZ, nar_0, nar_1, mw_ov, iI_s, iI_na, Int.toNat_natCast, Int.add_zero, Int.zero_add, Nat.reduceEqDiff, Nat.reduceAdd, Int.reduceAdd, Int.reduceNeg, Int.reduceSub, Int.reduceMul, Int.reduceLT, Int.reduceEq, Int.reduceToNat, reduceCtorEq, ↓reduceIte, h1, h2, lgc0]
  unfold fitT
  by_cases q : x &&& must b = must b
  · rw [if_pos q, decide_eq_true ((fitT_iff b x).mp q)]
    by_cases q2 : x &&& mustN b = 0
    · rw [if_pos q2, mw_ov, decide_eq_true q2]; rfl
    · rw [if_neg q2, mw_ov, decide_eq_false q2]; rfl
  · rw [if_neg q, mw_ov, decide_eq_false (fun z => q ((fitT_iff b x).mpr z)), Bool.and_false]; rfl
theorem q_Md_ringOfSize {A : Nat → Nat} {σ : AM} (H : LM A σ) {m : VM} {d : TD} (hd : wfD d) (hm : MT d m) {x : Int64} (hx : low d x) {z : Nat} (hz : z ≤ 6) : M_Md_ringOfSize (A 0) x (iI (z : Int)) (ov 40 A m σ) = some (iI (cntS x z : Int), (ov 40 A m σ)) := by
  have hp := sN_le hd
  have h := up_loop (fun k => L_Md_ringOfSize_1 (A 0) x (iI (z : Int)) (iI (cntN k (fun s => bt x s && decide (pc6 s = z)) : Int)) (iI (k : Int)) (ov 40 A m σ)) (sN d) (some (iI (cntS x z : Int), (ov 40 A m σ))) (fun k hk ih => by
    have h64 : k < 64 := by omega
    have := pc6_le k
    show L_Md_ringOfSize_1 _ _ _ _ _ _ = _
    rw [E_Md_ringOfSize_1]; simp (disch := omega) only [E_Md_ringOfSize_2, E_Md_ringOfSize_3, l_0, l_1, mK_0 H, letT_eq, gd_true, bnd_some, aR_ov, aK_ov, aN_ov, okO_ov, aI_ov H.1, aL_ov H.1, sI_ov H.1, sL_ov H.1, sV_eq, sV_ne, sV_2, sW_eq, sW_ne, sW_1, iI_add, iI_sub, iI_mul, iI_neg, iI_lt, iI_eq, iI_cl, nI_iI, gd_in, bZ_0, bZ_1, bZ_eq, isB_bZ, isB_0, isB_1, nar_bZ, nar_0, nar_1, mw_ov, iI_s, iI_na, Int.toNat_natCast, Int.add_zero, Int.zero_add, Nat.reduceEqDiff, Nat.reduceAdd, Int.reduceAdd, Int.reduceNeg, Int.reduceSub, Int.reduceMul, Int.reduceLT, Int.reduceEq, Int.reduceToNat, reduceCtorEq, ↓reduceIte, q_Md_sets H hd hm, q_Md_bits h64, q_Md_doesRing x h64]
    rw [if_pos (by omega)]
    replace ih : L_Md_ringOfSize_1 _ _ _ _ _ _ = _ := ih
    rw [cntN_s] at ih
    by_cases e : pc6 k = z
    · rw [if_pos (by omega)]
      cases q : bt x k
      · rw [q] at ih; exact ih
      · rw [q, decide_eq_true e] at ih; exact ih
    · rw [if_neg (by omega)]
      rw [decide_eq_false e, Bool.and_false] at ih; exact ih) (by
    show L_Md_ringOfSize_1 _ _ _ _ _ _ = _
    rw [E_Md_ringOfSize_1]; simp (disch := omega) only [E_Md_ringOfSize_2, E_Md_ringOfSize_3, l_0, l_1, mK_0 H, letT_eq, gd_true, bnd_some, aR_ov, aK_ov, aN_ov, okO_ov, aI_ov H.1, aL_ov H.1, sI_ov H.1, sL_ov H.1, sV_eq, sV_ne, sV_2, sW_eq, sW_ne, sW_1, iI_add, iI_sub, iI_mul, iI_neg, iI_lt, iI_eq, iI_cl, nI_iI, gd_in, bZ_0, bZ_1, bZ_eq, isB_bZ, isB_0, isB_1, nar_bZ, nar_0, nar_1, mw_ov, iI_s, iI_na, Int.toNat_natCast, Int.add_zero, Int.zero_add, Nat.reduceEqDiff, Nat.reduceAdd, Int.reduceAdd, Int.reduceNeg, Int.reduceSub, Int.reduceMul, Int.reduceLT, Int.reduceEq, Int.reduceToNat, reduceCtorEq, ↓reduceIte, q_Md_sets H hd hm]
    rw [if_neg (by omega), cntS_low hd hx]) 0 (by omega)
  unfold M_Md_ringOfSize
  rw [E_Md_ringOfSize_0]
  exact (congrArg (mw _) h).trans (mw_ov _ _ _ _ _ _)
