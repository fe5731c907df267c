/-! ===== how heavy a thing is by what is left ===== -/
theorem LTt {A : Nat → Nat} {σ : AM} (H : LC A σ) : LT 10 A σ := ⟨H, Or.inr rfl⟩
theorem LTd {A : Nat → Nat} {σ : AM} (H : LC A σ) : LT 3 A σ := ⟨H, Or.inl rfl⟩
theorem RQ_K {d : TD} {b : BD} {A : Nat → Nat} {σ : AM} {m m' : VM} (h : Ks [0, 1] m m') (R : RQ d b A σ m) : RQ d b A σ m' := ⟨R.1, R.2.1, R.2.2.1, CTw_K (h 0 (by decide)) R.2.2.2.1, RV_K (h 1 (by decide)) R.2.2.2.2.1, R.2.2.2.2.2⟩
theorem Ks_fV {gs : List Nat} {m m' : VM} (h : Ks gs m m') {c : Nat} (n : Nat) (v : Int32) (hc : gs.all (fun g => !(gC g).contains c && (gF g).all (fun q => !(q.1 == c))) = true) : Ks gs m (fillV m' c n v) := fun g hg => by
  have h1 := List.all_eq_true.mp hc g hg
  rw [Bool.and_eq_true, Bool.not_eq_true'] at h1
  obtain ⟨a1, a2, a3, a4⟩ := h g hg
  refine ⟨fun q hq => ?_, fun q hq => ?_, a3, a4⟩
  · have := List.all_eq_true.mp h1.2 q hq
    rw [← a1 q hq, fillV_ne _ _ _ _ (by simpa using this)]
  · rw [← a2 q hq, fillV_ne _ _ _ _ (fun e => by subst e; rw [List.contains_iff_mem.mpr hq] at h1; exact absurd h1.1 (by simp))]
theorem Ks_fW {gs : List Nat} {m m' : VM} (h : Ks gs m m') {c : Nat} (n : Nat) (v : Int64) (hc : gs.all (fun g => !(gM g).contains c && (gL g).all (fun q => !(q.1 == c))) = true) : Ks gs m (fillW m' c n v) := fun g hg => by
  have h1 := List.all_eq_true.mp hc g hg
  rw [Bool.and_eq_true, Bool.not_eq_true'] at h1
  obtain ⟨a1, a2, a3, a4⟩ := h g hg
  refine ⟨a1, a2, fun q hq => ?_, fun q hq => ?_⟩
  · have := List.all_eq_true.mp h1.2 q hq
    rw [← a3 q hq, fillW_ne _ _ _ _ (by simpa using this)]
  · rw [← a4 q hq, fillW_ne _ _ _ _ (fun e => by subst e; rw [List.contains_iff_mem.mpr hq] at h1; exact absurd h1.1 (by simp))]
def talN (d : TD) (b : BD) (t v n : Nat) : Nat := cntN n (fun w => lfW d b w && decide (dg d w t = v))
theorem dg_lt {d : TD} (hd : wfD d) (w t : Nat) : dg d w t < 10 := by
  unfold dg
  have := hd.2.2.1
  split
  · have := Nat.mod_lt (w / (dM d + 1) ^ t) (show 0 < dM d + 1 by omega); omega
  · omega
theorem dgp_le {d : TD} {t : Nat} (ht : t ≤ dT d) : (dM d + 1) ^ t ≤ dW d := Nat.pow_le_pow_right (by omega) ht
theorem Rs_cw2 {d : TD} {b : BD} {A : Nat → Nat} {σ : AM} {m : VM} (R : RQ d b A σ m) {t : Nat} (ht : t < dT d) (k : Nat) (hk : k < dW d) (hI : ∀ v, v < 10 → m.1 36 v = iI (talN d b t v k : Int)) : ∃ m' : VM, Ks [0, 1, 2, 3, 4, 5] m m' ∧ (∀ v, v < 10 → m'.1 36 v = iI (talN d b t v (k + 1) : Int)) ∧ L_Rs_countWeightsOf_2 (A 35) (iI ((dM d + 1 : Nat) : Int)) (iI (((dM d + 1) ^ t : Nat) : Int)) (iI (dW d : Int)) (iI (k : Int)) (ov 68 A m σ) = L_Rs_countWeightsOf_2 (A 35) (iI ((dM d + 1 : Nat) : Int)) (iI (((dM d + 1) ^ t : Nat) : Int)) (iI (dW d : Int)) (iI ((k + 1 : Nat) : Int)) (ov 68 A (m') σ) := by
  have hh := q_Rs_holds R hk
  have H := R.1
  have hd := R.2.1
  have hW := hd.2.2.2.2.2.2
  have hM := hd.2.2.1
  have hp := dgp_le (d := d) (Nat.le_of_lt ht)
  have hp0 : 0 < (dM d + 1) ^ t := Nat.pow_pos (by omega)
  have hdg := dg_lt hd k t
  have edg : k / (dM d + 1) ^ t % (dM d + 1) = dg d k t := by unfold dg; rw [if_pos ht]
  cases q : lfW d b k
  · refine ⟨m, Ks_r _ _, fun v hv => ?_, ?_⟩
    · rw [hI v hv]; unfold talN; rw [cntN_s, q]; simp
    · rw [q] at hh
      rw [E_Rs_countWeightsOf_2]; simp (disch := omega) only [E_Rs_countWeightsOf_3, E_Rs_countWeightsOf_4, l_0, l_1, cK_35 H, cR_35_2 H, cK_36 H, cN_36 H, letT_eq, gd_true, bnd_some, aR_ov, aK_ov, aN_ov, okO_ov, aI_ov H.1, aL_ov H.1, sI_ov H.1, sL_ov H.1, sV_eq, sV_ne, sV_2, sW_eq, sW_ne, sW_1, iI_add, iI_sub, iI_mul, iI_neg, iI_lt, iI_eq, iI_cl, nI_iI, gd_in, bZ_0, bZ_1, bZ_eq, isB_bZ, isB_0, isB_1, nar_bZ, nar_0, nar_1, mw_ov, iI_s, iI_na, iI_nm, Int.toNat_natCast, Int.add_zero, Int.zero_add, Nat.reduceEqDiff, Nat.reduceAdd, Int.reduceAdd, Int.reduceNeg, Int.reduceSub, Int.reduceMul, Int.reduceLT, Int.reduceEq, Int.reduceToNat, reduceCtorEq, ↓reduceIte, hh]
      rw [if_pos (by omega), if_pos (by omega)]
  · refine ⟨sV m 36 (dg d k t) (iI ((talN d b t (dg d k t) k + 1 : Nat) : Int)), Ks_A (Ks_r _ _) _ _ (by decide), fun v hv => ?_, ?_⟩
    · rw [sV_eq]
      unfold talN
      rw [cntN_s, q]
      by_cases e : v = dg d k t
      · rw [if_pos e, e, decide_eq_true rfl]; rfl
      · rw [if_neg e, hI v hv, decide_eq_false (fun z => e z.symm)]; rfl
    · rw [q] at hh
      have hq : k / (dM d + 1) ^ t ≤ k := Nat.div_le_self _ _
      have e36 := hI (dg d k t) hdg
      generalize (dM d + 1) ^ t = u at *
      generalize hx : k / u = x at *
      have ex : iI (k : Int) / iI (u : Int) = iI (x : Int) := by rw [iI_div (by omega) (by omega), hx]
      have e1 : iI (x : Int) - iI (x : Int) / iI ((dM d + 1 : Nat) : Int) * iI ((dM d + 1 : Nat) : Int) = iI (dg d k t : Int) := by
        rw [iI_div (by omega) (by omega), iI_mod (by omega) (by omega), edg]
      rw [E_Rs_countWeightsOf_2]; simp (disch := omega) only [E_Rs_countWeightsOf_3, E_Rs_countWeightsOf_4, l_0, l_1, cK_35 H, cR_35_2 H, cK_36 H, cN_36 H, letT_eq, gd_true, bnd_some, aR_ov, aK_ov, aN_ov, okO_ov, aI_ov H.1, aL_ov H.1, sI_ov H.1, sL_ov H.1, sV_eq, sV_ne, sV_2, sW_eq, sW_ne, sW_1, iI_add, iI_sub, iI_mul, iI_neg, iI_lt, iI_eq, iI_cl, nI_iI, gd_in, bZ_0, bZ_1, bZ_eq, isB_bZ, isB_0, isB_1, nar_bZ, nar_0, nar_1, mw_ov, iI_s, iI_na, iI_nm, Int.toNat_natCast, Int.add_zero, Int.zero_add, Nat.reduceEqDiff, Nat.reduceAdd, Int.reduceAdd, Int.reduceNeg, Int.reduceSub, Int.reduceMul, Int.reduceLT, Int.reduceEq, Int.reduceToNat, reduceCtorEq, ↓reduceIte, hh, nzI_iI, ex, e1, e36]
      rw [if_pos (by omega), if_pos (by omega)]
theorem p_Rs_countWeightsOf {d : TD} {b : BD} {A : Nat → Nat} {σ : AM} {m : VM} (R : RQ d b A σ m) {t : Nat} (ht : t < dT d) : ∃ m' : VM, M_Rs_countWeightsOf (A 35) (iI (t : Int)) (A 10) (ov 68 A m σ) = some ((), (ov 68 A (m') σ)) ∧ Ks [0, 1, 2, 3, 4, 5] m m' ∧ ∀ v, v < 10 → m'.1 36 v = iI (talN d b t v (dW d) : Int) := by
  have H := R.1
  have hd := R.2.1
  have hW := hd.2.2.2.2.2.2
  have hM := hd.2.2.1
  have hT6 := hd.1
  have hf := q_fill2 H.1 m (c := 36) (by decide) (H.2.2.1 (36, 101) (by decide)) (by rw [cN_36 H]; decide) (iI 0)
  rw [cN_36 H] at hf
  have hK0 : Ks [0, 1, 2, 3, 4, 5] m (fillV m 36 10 (iI 0)) := Ks_fV (Ks_r _ _) _ _ (by decide)
  have R1 : RQ d b A σ (fillV m 36 10 (iI 0)) := RQ_K (Ks_sub hK0 (by decide)) R
  have hT1 := R1.2.2.2.1
  have hall := q_Tw_all H hd hT1
  have l2 := up_loopI (fun k m1 => L_Rs_countWeightsOf_2 (A 35) (iI ((dM d + 1 : Nat) : Int)) (iI (((dM d + 1) ^ t : Nat) : Int)) (iI (dW d : Int)) (iI (k : Int)) (ov 68 A m1 σ)) (fun k m1 => Ks [0, 1, 2, 3, 4, 5] m m1 ∧ ∀ v, v < 10 → m1.1 36 v = iI (talN d b t v k : Int)) (fun x => ∃ m' : VM, x = some ((), (ov 68 A (m') σ)) ∧ Ks [0, 1, 2, 3, 4, 5] m m' ∧ ∀ v, v < 10 → m'.1 36 v = iI (talN d b t v (dW d) : Int)) (dW d) (fun k m1 hk hI ih => by
    obtain ⟨m2, j1, j2, j3⟩ := Rs_cw2 (RQ_K (Ks_sub hI.1 (by decide)) R) ht k hk hI.2
    show ∃ m' : VM, L_Rs_countWeightsOf_2 _ _ _ _ _ _ = _ ∧ _
    rw [j3]
    exact ih m2 ⟨Ks_t hI.1 j1, j2⟩) (fun m1 hI => ⟨m1, by
      show L_Rs_countWeightsOf_2 _ _ _ _ _ _ = _
      rw [E_Rs_countWeightsOf_2]
      simp (disch := omega) only [iI_lt, E_Rs_countWeightsOf_4]
      rw [if_neg (by omega)], hI⟩) 0 (fillV m 36 10 (iI 0)) (Nat.zero_le _) ⟨hK0, fun v hv => by rw [fillV_at, if_pos hv]; rfl⟩
  obtain ⟨m', e, q⟩ := l2
  refine ⟨m', ?_, q⟩
  have l1 := up_loop (fun k => L_Rs_countWeightsOf_1 (A 35) (iI (t : Int)) (A 10) (iI ((dM d + 1 : Nat) : Int)) (iI (((dM d + 1) ^ k : Nat) : Int)) (iI (k : Int)) (ov 68 A (fillV m 36 10 (iI 0)) σ)) t (some ((), (ov 68 A (m') σ))) (fun k hk ih => by
    show L_Rs_countWeightsOf_1 _ _ _ _ _ _ _ = _
    rw [E_Rs_countWeightsOf_1]
    simp (disch := omega) only [iI_lt, letT_eq, iI_nm, iI_mul, iI_add, l_1]
    rw [if_pos (by omega)]
    exact ih) (by
    show L_Rs_countWeightsOf_1 _ _ _ _ _ _ _ = _
    rw [E_Rs_countWeightsOf_1]
    simp (disch := omega) only [iI_lt, okO_ov, cK_10 H, gd_true, hall, bnd_some, l_0]
    rw [if_neg (by omega)]
    exact e) 0 (Nat.zero_le _)
  have emx : mxI (iI (dM d : Int) + iI 1) (iI 1) = iI ((dM d + 1 : Nat) : Int) := by
    rw [iI_add, mxI_iI (by omega) (by omega) (by omega) (by omega), if_neg (by omega)]; rfl
  unfold M_Rs_countWeightsOf
  rw [E_Rs_countWeightsOf_0]
  simp (disch := omega) only [okO_ov, aR_ov, cK_35 H, cR_35_2 H, cK_36 H, gd_true, l_0, l_1, hf, bnd_some, cK_10 H, q_Tw_most (LTt H), hT1.1.2.1, emx, letT_eq]
  exact (congrArg (mw _) l1).trans (mw_ov _ _ _ _ _ _)
def bsN (f : Nat → Nat) : Nat → Nat
  | 0 => 0
  | k + 1 => if f (bsN f k) < f k then k else bsN f k
theorem bsN_lt (f : Nat → Nat) {k : Nat} (h : 0 < k) : bsN f k < k := by
  induction k with
  | zero => omega
  | succ k ih =>
    unfold bsN
    split
    · omega
    · by_cases e : k = 0
      · subst e; exact Nat.zero_lt_one
      · have := ih (by omega); omega
/-- the last below n that is so, or -1 -/
def lsN : Nat → (Nat → Bool) → Int
  | 0, _ => -1
  | n + 1, p => if p n = true then (n : Int) else lsN n p
theorem q_Rs_likeliest {A : Nat → Nat} {σ : AM} (H : LC A σ) {m : VM} {f : Nat → Nat} (hf : ∀ v, v < 10 → m.1 36 v = iI (f v : Int)) (hb : ∀ v, f v ≤ 16384) : M_Rs_likeliest (A 35) (ov 68 A m σ) = some (iI (bsN f 10 : Int), (ov 68 A m σ)) := by
  have h := up_loop (fun k => L_Rs_likeliest_1 (A 35) (iI (bsN f (k + 1) : Int)) (iI ((k + 1 : Nat) : Int)) (ov 68 A m σ)) 9 (some (iI (bsN f 10 : Int), (ov 68 A m σ))) (fun k hk ih => by
    have hl := bsN_lt f (k := k + 1) (by omega)
    have h1 := hf (k + 1) (by omega)
    have h2 := hf (bsN f (k + 1)) (by omega)
    have b1 := hb (k + 1)
    have b2 := hb (bsN f (k + 1))
    show L_Rs_likeliest_1 _ _ _ _ = _
    replace ih : L_Rs_likeliest_1 _ (iI ((if f (bsN f (k + 1)) < f (k + 1) then k + 1 else bsN f (k + 1) : Nat) : Int)) _ _ = _ := ih
    rw [E_Rs_likeliest_1]; simp (disch := omega) only [E_Rs_likeliest_2, l_1, cK_35 H, cR_35_2 H, cK_36 H, cN_36 H, letT_eq, gd_true, bnd_some, aR_ov, aK_ov, aN_ov, okO_ov, aI_ov H.1, aL_ov H.1, sI_ov H.1, sL_ov H.1, sV_eq, sV_ne, sV_2, sW_eq, sW_ne, sW_1, iI_add, iI_sub, iI_mul, iI_neg, iI_lt, iI_eq, iI_cl, nI_iI, gd_in, bZ_0, bZ_1, bZ_eq, isB_bZ, isB_0, isB_1, nar_bZ, nar_0, nar_1, mw_ov, iI_s, iI_na, iI_nm, Int.toNat_natCast, Int.add_zero, Int.zero_add, Nat.reduceEqDiff, Nat.reduceAdd, Int.reduceAdd, Int.reduceNeg, Int.reduceSub, Int.reduceMul, Int.reduceLT, Int.reduceEq, Int.reduceToNat, reduceCtorEq, ↓reduceIte, h1, h2]
    rw [if_pos (by omega)]
    by_cases e : f (bsN f (k + 1)) < f (k + 1)
    · rw [if_pos (by omega)]; rw [if_pos e] at ih; exact ih
    · rw [if_neg (by omega)]; rw [if_neg e] at ih; exact ih) (by
    show L_Rs_likeliest_1 _ _ _ _ = _
    rw [E_Rs_likeliest_1]; simp (disch := omega) only [E_Rs_likeliest_2, l_1, cK_35 H, cR_35_2 H, cK_36 H, cN_36 H, letT_eq, gd_true, bnd_some, aR_ov, aK_ov, aN_ov, okO_ov, aI_ov H.1, aL_ov H.1, sI_ov H.1, sL_ov H.1, sV_eq, sV_ne, sV_2, sW_eq, sW_ne, sW_1, iI_add, iI_sub, iI_mul, iI_neg, iI_lt, iI_eq, iI_cl, nI_iI, gd_in, bZ_0, bZ_1, bZ_eq, isB_bZ, isB_0, isB_1, nar_bZ, nar_0, nar_1, mw_ov, iI_s, iI_na, iI_nm, Int.toNat_natCast, Int.add_zero, Int.zero_add, Nat.reduceEqDiff, Nat.reduceAdd, Int.reduceAdd, Int.reduceNeg, Int.reduceSub, Int.reduceMul, Int.reduceLT, Int.reduceEq, Int.reduceToNat, reduceCtorEq, ↓reduceIte]
    rw [if_neg (by omega)]) 0 (Nat.zero_le _)
  replace h : L_Rs_likeliest_1 (A 35) (iI ((if f 0 < f 0 then 0 else 0 : Nat) : Int)) (iI 1) (ov 68 A m σ) = _ := h
  rw [if_neg (by omega)] at h
  unfold M_Rs_likeliest
  rw [E_Rs_likeliest_0]
  simp only [l_0, l_1]
  exact (congrArg (mw _) h).trans (mw_ov _ _ _ _ _ _)
theorem q_Rs_lightest {A : Nat → Nat} {σ : AM} (H : LC A σ) {m : VM} {f : Nat → Nat} (hf : ∀ v, v < 10 → m.1 36 v = iI (f v : Int)) (hb : ∀ v, f v ≤ 16384) : M_Rs_lightest (A 35) (ov 68 A m σ) = some (iI (fsN 10 (fun v => decide (0 < f v))), (ov 68 A m σ)) := by
  have h := up_loopI (fun k (_ : Unit) => L_Rs_lightest_1 (A 35) (iI (k : Int)) (ov 68 A m σ)) (fun k _ => ∀ i, i < k → decide (0 < f i) = false) (fun y => y = some (iI (fsN 10 (fun v => decide (0 < f v))), (ov 68 A m σ))) 10 (fun k _ hk hI ih => by
    have h1 := hf k hk
    have b1 := hb k
    show L_Rs_lightest_1 _ _ _ = _
    rw [E_Rs_lightest_1]; simp (disch := omega) only [l_0, l_1, cK_35 H, cR_35_2 H, cK_36 H, cN_36 H, letT_eq, gd_true, bnd_some, aR_ov, aK_ov, aN_ov, okO_ov, aI_ov H.1, aL_ov H.1, sI_ov H.1, sL_ov H.1, sV_eq, sV_ne, sV_2, sW_eq, sW_ne, sW_1, iI_add, iI_sub, iI_mul, iI_neg, iI_lt, iI_eq, iI_cl, nI_iI, gd_in, bZ_0, bZ_1, bZ_eq, isB_bZ, isB_0, isB_1, nar_bZ, nar_0, nar_1, mw_ov, iI_s, iI_na, iI_nm, Int.toNat_natCast, Int.add_zero, Int.zero_add, Nat.reduceEqDiff, Nat.reduceAdd, Int.reduceAdd, Int.reduceNeg, Int.reduceSub, Int.reduceMul, Int.reduceLT, Int.reduceEq, Int.reduceToNat, reduceCtorEq, ↓reduceIte, h1]
    rw [if_pos (by omega)]
    by_cases e : 0 < f k
    · rw [if_pos (by omega), fsN_of hk (decide_eq_true e) hI]
    · rw [if_neg (by omega)]
      refine ih () fun i hi => ?_
      by_cases ei : i = k
      · rw [ei]; exact decide_eq_false e
      · exact hI i (by omega)) (fun _ hI => by
    show L_Rs_lightest_1 _ _ _ = _
    rw [fsN_none hI]
    rw [E_Rs_lightest_1]; simp (disch := omega) only [l_0, l_1, cK_35 H, cR_35_2 H, cK_36 H, cN_36 H, letT_eq, gd_true, bnd_some, aR_ov, aK_ov, aN_ov, okO_ov, aI_ov H.1, aL_ov H.1, sI_ov H.1, sL_ov H.1, sV_eq, sV_ne, sV_2, sW_eq, sW_ne, sW_1, iI_add, iI_sub, iI_mul, iI_neg, iI_lt, iI_eq, iI_cl, nI_iI, gd_in, bZ_0, bZ_1, bZ_eq, isB_bZ, isB_0, isB_1, nar_bZ, nar_0, nar_1, mw_ov, iI_s, iI_na, iI_nm, Int.toNat_natCast, Int.add_zero, Int.zero_add, Nat.reduceEqDiff, Nat.reduceAdd, Int.reduceAdd, Int.reduceNeg, Int.reduceSub, Int.reduceMul, Int.reduceLT, Int.reduceEq, Int.reduceToNat, reduceCtorEq, ↓reduceIte]
    rw [if_neg (by omega)]) 0 () (Nat.zero_le _) (fun i hi => absurd hi (Nat.not_lt_zero i))
  unfold M_Rs_lightest
  rw [E_Rs_lightest_0]
  simp only [l_0]
  exact (congrArg (mw _) h).trans (mw_ov _ _ _ _ _ _)
theorem Rs_heavy1 {A : Nat → Nat} {σ : AM} (H : LC A σ) {m : VM} {f : Nat → Nat} (hf : ∀ v, v < 10 → m.1 36 v = iI (f v : Int)) (hb : ∀ v, f v ≤ 16384) : ∀ k : Nat, k ≤ 10 → L_Rs_heaviest_1 (A 35) (iI ((k : Int) - 1)) (ov 68 A m σ) = some (iI (lsN k (fun v => decide (0 < f v))), (ov 68 A m σ)) := by
  intro k
  induction k with
  | zero =>
    intro _
    rw [E_Rs_heaviest_1]
    rfl
  | succ k ih =>
    intro hk
    have h1 := hf k (by omega)
    have b1 := hb k
    have e0 : ((k + 1 : Nat) : Int) - 1 = (k : Int) := by omega
    have e1 : (k : Int) + -1 = (k : Int) - 1 := by omega
    unfold lsN
    rw [e0]
    rw [E_Rs_heaviest_1]; simp (disch := omega) only [l_0, l_1, cK_35 H, cR_35_2 H, cK_36 H, cN_36 H, letT_eq, gd_true, bnd_some, aR_ov, aK_ov, aN_ov, okO_ov, aI_ov H.1, aL_ov H.1, sI_ov H.1, sL_ov H.1, sV_eq, sV_ne, sV_2, sW_eq, sW_ne, sW_1, iI_add, iI_sub, iI_mul, iI_neg, iI_lt, iI_eq, iI_cl, nI_iI, gd_in, bZ_0, bZ_1, bZ_eq, isB_bZ, isB_0, isB_1, nar_bZ, nar_0, nar_1, mw_ov, iI_s, iI_na, iI_nm, Int.toNat_natCast, Int.add_zero, Int.zero_add, Nat.reduceEqDiff, Nat.reduceAdd, Int.reduceAdd, Int.reduceNeg, Int.reduceSub, Int.reduceMul, Int.reduceLT, Int.reduceEq, Int.reduceToNat, reduceCtorEq, ↓reduceIte, h1, e1]
    rw [if_neg (by omega)]
    by_cases e : 0 < f k
    · rw [if_pos (by omega), if_pos (decide_eq_true e)]
    · rw [if_neg (by omega), if_neg (by rw [decide_eq_false e]; decide)]
      exact ih (by omega)
theorem q_Rs_heaviest {A : Nat → Nat} {σ : AM} (H : LC A σ) {m : VM} {f : Nat → Nat} (hf : ∀ v, v < 10 → m.1 36 v = iI (f v : Int)) (hb : ∀ v, f v ≤ 16384) : M_Rs_heaviest (A 35) (ov 68 A m σ) = some (iI (lsN 10 (fun v => decide (0 < f v))), (ov 68 A m σ)) := by
  have h := Rs_heavy1 H hf hb 10 (Nat.le_refl _)
  unfold M_Rs_heaviest
  rw [E_Rs_heaviest_0]; simp (disch := omega) only [l_1, cK_35 H, cR_35_2 H, cK_36 H, cN_36 H, letT_eq, gd_true, bnd_some, aR_ov, aK_ov, aN_ov, okO_ov, aI_ov H.1, aL_ov H.1, sI_ov H.1, sL_ov H.1, sV_eq, sV_ne, sV_2, sW_eq, sW_ne, sW_1, iI_add, iI_sub, iI_mul, iI_neg, iI_lt, iI_eq, iI_cl, nI_iI, gd_in, bZ_0, bZ_1, bZ_eq, isB_bZ, isB_0, isB_1, nar_bZ, nar_0, nar_1, mw_ov, iI_s, iI_na, iI_nm, Int.toNat_natCast, Int.add_zero, Int.zero_add, Nat.reduceEqDiff, Nat.reduceAdd, Int.reduceAdd, Int.reduceNeg, Int.reduceSub, Int.reduceMul, Int.reduceLT, Int.reduceEq, Int.reduceToNat, reduceCtorEq, ↓reduceIte]
  exact (congrArg (mw _) h).trans (mw_ov _ _ _ _ _ _)
