/-! ===== the reference's answers about what is left ===== -/
theorem q_Md_sureOf {n all : Nat} (h1 : n < 2147483648) (h2 : all < 2147483648) (σ : AM) : M_Md_sureOf (iI (n : Int)) (iI (all : Int)) σ = some (iI (sur n all), σ) := by
  unfold M_Md_sureOf
  rw [E_Md_sureOf_0]; simp (disch := omega) only [E_Md_sureOf_1, l_0, l_1, l_2, letT_eq, gd_true, bnd_some, iI_add, iI_sub, iI_mul, iI_neg, iI_lt, iI_eq, iI_cl, nI_iI, gd_in, bZ_0, bZ_1, bZ_eq, isB_bZ, isB_0, isB_1, nar_bZ, nar_0, nar_1, iI_s, iI_na, iI_nm, Int.toNat_natCast, Int.add_zero, Int.zero_add, Nat.reduceEqDiff, Nat.reduceAdd, Int.reduceAdd, Int.reduceNeg, Int.reduceSub, Int.reduceMul, Int.reduceLT, Int.reduceEq, Int.reduceToNat, reduceCtorEq, ↓reduceIte]
  by_cases q : all = 0
  · rw [if_pos (by omega), sur, if_pos q]; exact mw_of (Nat.le_refl _) (Nat.le_refl _)
  · rw [if_neg (by omega), sur, if_neg q]
    by_cases q2 : n = all
    · rw [if_pos (by omega), if_pos q2]; exact mw_of (Nat.le_refl _) (Nat.le_refl _)
    · rw [if_neg (by omega), if_neg q2]
      by_cases q3 : n = 0
      · rw [if_pos (by omega), if_pos q3]; exact mw_of (Nat.le_refl _) (Nat.le_refl _)
      · rw [if_neg (by omega), if_neg q3]; exact mw_of (Nat.le_refl _) (Nat.le_refl _)
theorem Lf_5 {d : TD} {b : BD} {A : Nat → Nat} {σ : AM} {m : VM} (M : MS0 d b A σ m) (l : LeftM d b m) : m.1 0 46 = iI (nLf d b : Int) ∧ nLf d b ≤ NL d ∧ NL d ≤ dW d ∧ dW d ≤ 16384 := ⟨l.2.2.1, nLf_le d b, NL_le d, M.2.1.2.2.2.2.2.2⟩
theorem Lf_x {d : TD} {b : BD} {A : Nat → Nat} {σ : AM} {m : VM} (M : MS0 d b A σ m) (l : LeftM d b m) {k : Nat} (hk : k < nLf d b) : m.1 25 k = iI (lf d b k : Int) ∧ lf d b k < NL d ∧ m.2 14 (lf d b k) = xL d b k ∧ m.1 15 (lf d b k) = iI (sh d (lf d b k) : Int) := ⟨l.2.2.2.2 k hk, lf_lt hk, M.2.2.1.2.2.2.1 _ (lf_lt hk), M.2.2.1.2.2.2.2.1 _ (lf_lt hk)⟩
theorem m_left {d : TD} {b : BD} {A : Nat → Nat} {σ : AM} {m : VM} (M : MS0 d b A σ m) {a : Int} (h1 : -2147483648 ≤ a) (h2 : a < 2147483648) : Mf A σ m (M_Md_left (A 0) (iI a) (ov 40 A m σ)) (iI (leftS d b a)) := by
  have H := M.1
  by_cases q : 0 ≤ a ∧ a ≤ 2
  · obtain ⟨m', e, k, l, M'⟩ := p_findL M
    refine ⟨m', ?_, k⟩
    have h5 := Lf_5 M' l
    have h47 := l.2.2.2.1
    have hl := up_loopI (fun k (_ : Unit) => L_Md_left_2 (A 0) (iI (k : Int)) (ov 40 A (m') σ)) (fun k _ => ∀ w, w < k → lfW d b w = false) (fun y => y = some (iI (fsN (dW d) (lfW d b)), (ov 40 A (m') σ))) (dW d) (fun k _ hk hI ih => by
      have hq := q_Md_isLeft M' l.1 l.2.1 hk
      show L_Md_left_2 _ _ _ = _
      cases q : lfW d b k
      · rw [q] at hq
        rw [E_Md_left_2]; simp (disch := omega) only [l_0, l_1, mK_0 H, letT_eq, gd_true, bnd_some, aR_ov, aK_ov, aN_ov, okO_ov, aI_ov H.1, aL_ov H.1, sI_ov H.1, sL_ov H.1, sV_eq, sV_ne, sV_2, sW_eq, sW_ne, sW_1, iI_add, iI_sub, iI_mul, iI_neg, iI_lt, iI_eq, iI_cl, nI_iI, gd_in, bZ_0, bZ_1, bZ_eq, isB_bZ, isB_0, isB_1, nar_bZ, nar_0, nar_1, mw_ov, iI_s, iI_na, iI_nm, Int.toNat_natCast, Int.add_zero, Int.zero_add, Nat.reduceEqDiff, Nat.reduceAdd, Int.reduceAdd, Int.reduceNeg, Int.reduceSub, Int.reduceMul, Int.reduceLT, Int.reduceEq, Int.reduceToNat, reduceCtorEq, ↓reduceIte, M'.2.2.1.1.2.2.2.2.1, hq]
        rw [if_pos (by omega)]
        refine ih () fun w hw => ?_
        by_cases e : w = k
        · rw [e]; exact q
        · exact hI w (by omega)
      · rw [q] at hq
        rw [fsN_of hk q hI]
        rw [E_Md_left_2]; simp (disch := omega) only [l_0, l_1, mK_0 H, letT_eq, gd_true, bnd_some, aR_ov, aK_ov, aN_ov, okO_ov, aI_ov H.1, aL_ov H.1, sI_ov H.1, sL_ov H.1, sV_eq, sV_ne, sV_2, sW_eq, sW_ne, sW_1, iI_add, iI_sub, iI_mul, iI_neg, iI_lt, iI_eq, iI_cl, nI_iI, gd_in, bZ_0, bZ_1, bZ_eq, isB_bZ, isB_0, isB_1, nar_bZ, nar_0, nar_1, mw_ov, iI_s, iI_na, iI_nm, Int.toNat_natCast, Int.add_zero, Int.zero_add, Nat.reduceEqDiff, Nat.reduceAdd, Int.reduceAdd, Int.reduceNeg, Int.reduceSub, Int.reduceMul, Int.reduceLT, Int.reduceEq, Int.reduceToNat, reduceCtorEq, ↓reduceIte, M'.2.2.1.1.2.2.2.2.1, hq]
        rw [if_pos (by omega)]) (fun _ hI => by
      show L_Md_left_2 _ _ _ = _
      rw [fsN_none hI]
      rw [E_Md_left_2]; simp (disch := omega) only [l_0, l_1, mK_0 H, letT_eq, gd_true, bnd_some, aR_ov, aK_ov, aN_ov, okO_ov, aI_ov H.1, aL_ov H.1, sI_ov H.1, sL_ov H.1, sV_eq, sV_ne, sV_2, sW_eq, sW_ne, sW_1, iI_add, iI_sub, iI_mul, iI_neg, iI_lt, iI_eq, iI_cl, nI_iI, gd_in, bZ_0, bZ_1, bZ_eq, isB_bZ, isB_0, isB_1, nar_bZ, nar_0, nar_1, mw_ov, iI_s, iI_na, iI_nm, Int.toNat_natCast, Int.add_zero, Int.zero_add, Nat.reduceEqDiff, Nat.reduceAdd, Int.reduceAdd, Int.reduceNeg, Int.reduceSub, Int.reduceMul, Int.reduceLT, Int.reduceEq, Int.reduceToNat, reduceCtorEq, ↓reduceIte, M'.2.2.1.1.2.2.2.2.1]
      rw [if_neg (by omega)]) 0 () (Nat.zero_le _) (fun w hw => absurd hw (Nat.not_lt_zero w))
    replace hl : L_Md_left_2 (A 0) (iI 0) (ov 40 A (m') σ) = _ := hl
    unfold M_Md_left
    have hwi := q_Md_within (a := a) (l := 0) (h := 2) (ov 40 A (sV m 0 0 (iI 0)) σ) h1 h2 (by omega) (by omega) (by omega) (by omega)
    rw [decide_eq_true q] at hwi
    rw [E_Md_left_0]; simp (disch := omega) only [E_Md_left_1, l_0, l_1, l_2, mK_0 H, letT_eq, gd_true, bnd_some, aR_ov, aK_ov, aN_ov, okO_ov, aI_ov H.1, aL_ov H.1, sI_ov H.1, sL_ov H.1, sV_eq, sV_ne, sV_2, sW_eq, sW_ne, sW_1, iI_add, iI_sub, iI_mul, iI_neg, iI_lt, iI_eq, iI_cl, nI_iI, gd_in, bZ_0, bZ_1, bZ_eq, isB_bZ, isB_0, isB_1, nar_bZ, nar_0, nar_1, mw_ov, iI_s, iI_na, iI_nm, Int.toNat_natCast, Int.add_zero, Int.zero_add, Nat.reduceEqDiff, Nat.reduceAdd, Int.reduceAdd, Int.reduceNeg, Int.reduceSub, Int.reduceMul, Int.reduceLT, Int.reduceEq, Int.reduceToNat, reduceCtorEq, ↓reduceIte, hwi, e, h5.1, h47, hl]
    by_cases q2 : a < 2
    · rw [if_pos q2]
      by_cases q3 : a = 0
      · rw [if_pos q3, mw_ov, leftS, if_pos q3]
      · rw [if_neg q3, mw_ov, leftS, if_neg q3, if_pos (by omega)]
    · rw [if_neg q2, mw_ov, leftS, if_neg (by omega), if_neg (by omega), if_pos (by omega)]
  · refine ⟨_, ?_, KM_0 m⟩
    unfold M_Md_left
    have hwi := q_Md_within (a := a) (l := 0) (h := 2) (ov 40 A (sV m 0 0 (iI 0)) σ) h1 h2 (by omega) (by omega) (by omega) (by omega)
    rw [decide_eq_false q] at hwi
    rw [E_Md_left_0]; simp (disch := omega) only [E_Md_left_1, l_0, l_1, l_2, mK_0 H, letT_eq, gd_true, bnd_some, aR_ov, aK_ov, aN_ov, okO_ov, aI_ov H.1, aL_ov H.1, sI_ov H.1, sL_ov H.1, sV_eq, sV_ne, sV_2, sW_eq, sW_ne, sW_1, iI_add, iI_sub, iI_mul, iI_neg, iI_lt, iI_eq, iI_cl, nI_iI, gd_in, bZ_0, bZ_1, bZ_eq, isB_bZ, isB_0, isB_1, nar_bZ, nar_0, nar_1, mw_ov, iI_s, iI_na, iI_nm, Int.toNat_natCast, Int.add_zero, Int.zero_add, Nat.reduceEqDiff, Nat.reduceAdd, Int.reduceAdd, Int.reduceNeg, Int.reduceSub, Int.reduceMul, Int.reduceLT, Int.reduceEq, Int.reduceToNat, reduceCtorEq, ↓reduceIte, hwi]
    rw [leftS, if_neg (by omega), if_neg (by omega), if_neg (by omega)]
theorem m_sure {d : TD} {b : BD} {A : Nat → Nat} {σ : AM} {m : VM} (M : MS0 d b A σ m) {a : Int} (h1 : -2147483648 ≤ a) (h2 : a < 2147483648) : Mf A σ m (M_Md_sure (A 0) (iI a) (ov 40 A m σ)) (iI (sureS d b a)) := by
  have H := M.1
  have hs := q_Md_isSet H M.2.1 (MT_K (KM_0 m) M.2.2.1) h1 h2
  have hN := sN_le M.2.1
  unfold sureS
  by_cases q : 0 ≤ a ∧ a < (sN d : Int)
  · rw [decide_eq_true q] at hs
    rw [if_pos q]
    obtain ⟨n, rfl⟩ := Int.eq_ofNat_of_zero_le q.1
    have hn : n < 64 := by omega
    obtain ⟨m', e, k, l, M'⟩ := p_findL M
    refine ⟨m', ?_, k⟩
    have h5 := Lf_5 M' l
    have hr := q_Md_ringing M'.1 M'.2.1 M'.2.2.1 l hn
    have hc := cntN_le (nLf d b) (fun i => bt (LL d (lf d b i)) n)
    unfold M_Md_sure
    rw [E_Md_sure_0]; simp (disch := omega) only [l_0, l_1, mK_0 H, letT_eq, gd_true, bnd_some, aR_ov, aK_ov, aN_ov, okO_ov, aI_ov H.1, aL_ov H.1, sI_ov H.1, sL_ov H.1, sV_eq, sV_ne, sV_2, sW_eq, sW_ne, sW_1, iI_add, iI_sub, iI_mul, iI_neg, iI_lt, iI_eq, iI_cl, nI_iI, gd_in, bZ_0, bZ_1, bZ_eq, isB_bZ, isB_0, isB_1, nar_bZ, nar_0, nar_1, mw_ov, iI_s, iI_na, iI_nm, Int.toNat_natCast, Int.add_zero, Int.zero_add, Nat.reduceEqDiff, Nat.reduceAdd, Int.reduceAdd, Int.reduceNeg, Int.reduceSub, Int.reduceMul, Int.reduceLT, Int.reduceEq, Int.reduceToNat, reduceCtorEq, ↓reduceIte, hs, e, hr, h5.1, q_Md_sureOf]
    rfl
  · rw [decide_eq_false q] at hs
    rw [if_neg q]
    refine ⟨_, ?_, KM_0 m⟩
    unfold M_Md_sure
    rw [E_Md_sure_0]; simp (disch := omega) only [l_0, l_1, mK_0 H, letT_eq, gd_true, bnd_some, aR_ov, aK_ov, aN_ov, okO_ov, aI_ov H.1, aL_ov H.1, sI_ov H.1, sL_ov H.1, sV_eq, sV_ne, sV_2, sW_eq, sW_ne, sW_1, iI_add, iI_sub, iI_mul, iI_neg, iI_lt, iI_eq, iI_cl, nI_iI, gd_in, bZ_0, bZ_1, bZ_eq, isB_bZ, isB_0, isB_1, nar_bZ, nar_0, nar_1, mw_ov, iI_s, iI_na, iI_nm, Int.toNat_natCast, Int.add_zero, Int.zero_add, Nat.reduceEqDiff, Nat.reduceAdd, Int.reduceAdd, Int.reduceNeg, Int.reduceSub, Int.reduceMul, Int.reduceLT, Int.reduceEq, Int.reduceToNat, reduceCtorEq, ↓reduceIte, hs]
theorem anyN_low {d : TD} (hd : wfD d) {p : Nat → Bool} (h : ∀ s, sN d ≤ s → s < 64 → p s = false) : anyN (sN d) p = anyN 64 p := by
  unfold anyN
  rw [cntN_ext (sN_le hd) h]
theorem q_Md_doesMatter {A : Nat → Nat} {σ : AM} (H : LM A σ) {m : VM} {d : TD} (hd : wfD d) (hm : MT d m) {x : Int64} (hx : low d x) {t : Nat} (ht : t < dT d) : M_Md_doesMatter (A 0) x (iI (t : Int)) (ov 40 A m σ) = some (bZ (mtr x t), (ov 40 A m σ)) := by
  have hp := sN_le hd
  have hT6 := hd.1
  have h := up_loop (fun k => L_Md_doesMatter_1 (A 0) x (iI (t : Int)) (bZ (anyN k (swB x t))) (iI (k : Int)) (ov 40 A m σ)) (sN d) (some (bZ (mtr x t), (ov 40 A m σ))) (fun k hk ih => by
    have h64 : k < 64 := by omega
    have hbI := bitI (s := k) (k := t) h64 (by omega)
    have hor := bitOr (s := k) (t := t) h64 (by omega)
    show L_Md_doesMatter_1 _ _ _ _ _ _ = _
    replace ih : L_Md_doesMatter_1 _ _ _ _ _ _ = _ := ih
    rw [anyN_s] at ih
    cases q : anyN k (swB x t)
    · rw [q, Bool.false_or] at ih
      unfold swB at ih
      cases q1 : k.testBit t
      · have ho := or_add (by omega : t < 6) h64 q1
        rw [q1] at ih hbI
        replace hbI : (iI (k : Int) >>> (iI (t : Int) &&& iI 31)) &&& iI 1 = iI 0 := hbI
        rw [E_Md_doesMatter_1]; simp (disch := omega) only [E_Md_doesMatter_2, E_Md_doesMatter_3, E_Md_doesMatter_4, l_0, l_1, l_31, mK_0 H, letT_eq, gd_true, bnd_some, aR_ov, aK_ov, aN_ov, okO_ov, aI_ov H.1, aL_ov H.1, sI_ov H.1, sL_ov H.1, sV_eq, sV_ne, sV_2, sW_eq, sW_ne, sW_1, iI_add, iI_sub, iI_mul, iI_neg, iI_lt, iI_eq, iI_cl, nI_iI, gd_in, bZ_0, bZ_1, bZ_eq, isB_bZ, isB_0, isB_1, nar_bZ, nar_0, nar_1, mw_ov, iI_s, iI_na, iI_nm, Int.toNat_natCast, Int.add_zero, Int.zero_add, Nat.reduceEqDiff, Nat.reduceAdd, Int.reduceAdd, Int.reduceNeg, Int.reduceSub, Int.reduceMul, Int.reduceLT, Int.reduceEq, Int.reduceToNat, reduceCtorEq, ↓reduceIte, q_Md_sets H hd hm, hbI, hor, q_Md_doesRing x ho.2, q_Md_doesRing x h64]
        rw [if_pos (by omega)]
        cases q2 : bt x (k ||| 2 ^ t) <;> cases q3 : bt x k <;> (rw [q2, q3] at ih; exact ih)
      · rw [q1] at ih hbI
        replace hbI : (iI (k : Int) >>> (iI (t : Int) &&& iI 31)) &&& iI 1 = iI 1 := hbI
        rw [E_Md_doesMatter_1]; simp (disch := omega) only [E_Md_doesMatter_2, E_Md_doesMatter_3, E_Md_doesMatter_4, l_0, l_1, l_31, mK_0 H, letT_eq, gd_true, bnd_some, aR_ov, aK_ov, aN_ov, okO_ov, aI_ov H.1, aL_ov H.1, sI_ov H.1, sL_ov H.1, sV_eq, sV_ne, sV_2, sW_eq, sW_ne, sW_1, iI_add, iI_sub, iI_mul, iI_neg, iI_lt, iI_eq, iI_cl, nI_iI, gd_in, bZ_0, bZ_1, bZ_eq, isB_bZ, isB_0, isB_1, nar_bZ, nar_0, nar_1, mw_ov, iI_s, iI_na, iI_nm, Int.toNat_natCast, Int.add_zero, Int.zero_add, Nat.reduceEqDiff, Nat.reduceAdd, Int.reduceAdd, Int.reduceNeg, Int.reduceSub, Int.reduceMul, Int.reduceLT, Int.reduceEq, Int.reduceToNat, reduceCtorEq, ↓reduceIte, q_Md_sets H hd hm, hbI]
        rw [if_pos (by omega)]
        exact ih
    · rw [q, Bool.true_or] at ih
      rw [E_Md_doesMatter_1]; simp (disch := omega) only [E_Md_doesMatter_2, E_Md_doesMatter_3, E_Md_doesMatter_4, l_0, l_1, l_31, mK_0 H, letT_eq, gd_true, bnd_some, aR_ov, aK_ov, aN_ov, okO_ov, aI_ov H.1, aL_ov H.1, sI_ov H.1, sL_ov H.1, sV_eq, sV_ne, sV_2, sW_eq, sW_ne, sW_1, iI_add, iI_sub, iI_mul, iI_neg, iI_lt, iI_eq, iI_cl, nI_iI, gd_in, bZ_0, bZ_1, bZ_eq, isB_bZ, isB_0, isB_1, nar_bZ, nar_0, nar_1, mw_ov, iI_s, iI_na, iI_nm, Int.toNat_natCast, Int.add_zero, Int.zero_add, Nat.reduceEqDiff, Nat.reduceAdd, Int.reduceAdd, Int.reduceNeg, Int.reduceSub, Int.reduceMul, Int.reduceLT, Int.reduceEq, Int.reduceToNat, reduceCtorEq, ↓reduceIte, q_Md_sets H hd hm]
      rw [if_pos (by omega)]
      exact ih) (by
    show L_Md_doesMatter_1 _ _ _ _ _ _ = _
    rw [anyN_low hd fun s h1 h2 => by
      unfold swB
      rw [hx (s ||| 2 ^ t) (Nat.le_trans h1 Nat.left_le_or)]; simp]
    rw [E_Md_doesMatter_1]; simp (disch := omega) only [E_Md_doesMatter_2, E_Md_doesMatter_3, E_Md_doesMatter_4, l_0, l_1, l_31, mK_0 H, letT_eq, gd_true, bnd_some, aR_ov, aK_ov, aN_ov, okO_ov, aI_ov H.1, aL_ov H.1, sI_ov H.1, sL_ov H.1, sV_eq, sV_ne, sV_2, sW_eq, sW_ne, sW_1, iI_add, iI_sub, iI_mul, iI_neg, iI_lt, iI_eq, iI_cl, nI_iI, gd_in, bZ_0, bZ_1, bZ_eq, isB_bZ, isB_0, isB_1, nar_bZ, nar_0, nar_1, mw_ov, iI_s, iI_na, iI_nm, Int.toNat_natCast, Int.add_zero, Int.zero_add, Nat.reduceEqDiff, Nat.reduceAdd, Int.reduceAdd, Int.reduceNeg, Int.reduceSub, Int.reduceMul, Int.reduceLT, Int.reduceEq, Int.reduceToNat, reduceCtorEq, ↓reduceIte, q_Md_sets H hd hm]
    rw [if_neg (by omega)]
    rfl) 0 (by omega)
  unfold M_Md_doesMatter
  rw [E_Md_doesMatter_0]
  exact (congrArg (mw _) h).trans (mw_ov _ _ _ _ _ _)
theorem allN_s (n : Nat) (p : Nat → Bool) : allN (n + 1) p = (allN n p && p n) := rfl
theorem allN_ext {n N : Nat} {p : Nat → Bool} (h : n ≤ N) (hp : ∀ i, n ≤ i → i < N → p i = true) : allN N p = allN n p := by
  rw [Bool.eq_iff_iff, allN_iff, allN_iff]
  constructor
  · intro k i hi; exact k i (by omega)
  · intro k i hi
    by_cases e : i < n
    · exact k i e
    · exact hp i (by omega) hi
theorem q_Md_areAlike {A : Nat → Nat} {σ : AM} (H : LM A σ) {m : VM} {d : TD} (hd : wfD d) (hm : MT d m) {x : Int64} (hx : low d x) {a c : Nat} (ha : a < dT d) (hc : c < dT d) : M_Md_areAlike (A 0) x (iI (a : Int)) (iI (c : Int)) (ov 40 A m σ) = some (bZ (alB x a c), (ov 40 A m σ)) := by
  have hp := sN_le hd
  have hT6 := hd.1
  have h := up_loop (fun k => L_Md_areAlike_1 (A 0) x (iI (a : Int)) (iI (c : Int)) (bZ (allN k (fun s => !(s.testBit a && !s.testBit c) || (bt x s == bt x (swp s a c))))) (iI (k : Int)) (ov 40 A m σ)) (sN d) (some (bZ (alB x a c), (ov 40 A m σ))) (fun k hk ih => by
    have h64 : k < 64 := by omega
    have hbI := bitI (s := k) (k := a) h64 (by omega)
    have hbJ := bitI (s := k) (k := c) h64 (by omega)
    show L_Md_areAlike_1 _ _ _ _ _ _ _ = _
    replace ih : L_Md_areAlike_1 _ _ _ _ _ _ _ = _ := ih
    rw [allN_s] at ih
    cases q : allN k (fun s => !(s.testBit a && !s.testBit c) || (bt x s == bt x (swp s a c)))
    · rw [q, Bool.false_and] at ih
      rw [E_Md_areAlike_1]; simp (disch := omega) only [E_Md_areAlike_2, E_Md_areAlike_3, E_Md_areAlike_4, E_Md_areAlike_5, E_Md_areAlike_6, l_0, l_1, l_31, mK_0 H, letT_eq, gd_true, bnd_some, aR_ov, aK_ov, aN_ov, okO_ov, aI_ov H.1, aL_ov H.1, sI_ov H.1, sL_ov H.1, sV_eq, sV_ne, sV_2, sW_eq, sW_ne, sW_1, iI_add, iI_sub, iI_mul, iI_neg, iI_lt, iI_eq, iI_cl, nI_iI, gd_in, bZ_0, bZ_1, bZ_eq, isB_bZ, isB_0, isB_1, nar_bZ, nar_0, nar_1, mw_ov, iI_s, iI_na, iI_nm, Int.toNat_natCast, Int.add_zero, Int.zero_add, Nat.reduceEqDiff, Nat.reduceAdd, Int.reduceAdd, Int.reduceNeg, Int.reduceSub, Int.reduceMul, Int.reduceLT, Int.reduceEq, Int.reduceToNat, reduceCtorEq, ↓reduceIte, q_Md_sets H hd hm, hbI, hbJ]
      rw [if_pos (by omega)]
      cases q1 : k.testBit a
      · exact ih
      · cases q2 : k.testBit c <;> exact ih
    · rw [q, Bool.true_and] at ih
      cases q1 : k.testBit a
      · rw [q1] at hbI
        replace hbI : (iI (k : Int) >>> (iI (a : Int) &&& iI 31)) &&& iI 1 = iI 0 := hbI
        rw [E_Md_areAlike_1]; simp (disch := omega) only [E_Md_areAlike_2, E_Md_areAlike_3, E_Md_areAlike_4, E_Md_areAlike_5, E_Md_areAlike_6, l_0, l_1, l_31, mK_0 H, letT_eq, gd_true, bnd_some, aR_ov, aK_ov, aN_ov, okO_ov, aI_ov H.1, aL_ov H.1, sI_ov H.1, sL_ov H.1, sV_eq, sV_ne, sV_2, sW_eq, sW_ne, sW_1, iI_add, iI_sub, iI_mul, iI_neg, iI_lt, iI_eq, iI_cl, nI_iI, gd_in, bZ_0, bZ_1, bZ_eq, isB_bZ, isB_0, isB_1, nar_bZ, nar_0, nar_1, mw_ov, iI_s, iI_na, iI_nm, Int.toNat_natCast, Int.add_zero, Int.zero_add, Nat.reduceEqDiff, Nat.reduceAdd, Int.reduceAdd, Int.reduceNeg, Int.reduceSub, Int.reduceMul, Int.reduceLT, Int.reduceEq, Int.reduceToNat, reduceCtorEq, ↓reduceIte, q_Md_sets H hd hm, hbI]
        rw [if_pos (by omega)]
        rw [q1] at ih
        exact ih
      · rw [q1] at hbI
        replace hbI : (iI (k : Int) >>> (iI (a : Int) &&& iI 31)) &&& iI 1 = iI 1 := hbI
        cases q2 : k.testBit c
        · rw [q2] at hbJ
          replace hbJ : (iI (k : Int) >>> (iI (c : Int) &&& iI 31)) &&& iI 1 = iI 0 := hbJ
          have hsw := bitSwp h64 (by omega : a < 6) (by omega : c < 6) q1 q2
          have hok := swp_ok h64 (by omega : a < 6) (by omega : c < 6) q1 q2
          rw [q1, q2] at ih
          rw [E_Md_areAlike_1]; simp (disch := omega) only [E_Md_areAlike_2, E_Md_areAlike_3, E_Md_areAlike_4, E_Md_areAlike_5, E_Md_areAlike_6, l_0, l_1, l_31, mK_0 H, letT_eq, gd_true, bnd_some, aR_ov, aK_ov, aN_ov, okO_ov, aI_ov H.1, aL_ov H.1, sI_ov H.1, sL_ov H.1, sV_eq, sV_ne, sV_2, sW_eq, sW_ne, sW_1, iI_add, iI_sub, iI_mul, iI_neg, iI_lt, iI_eq, iI_cl, nI_iI, gd_in, bZ_0, bZ_1, bZ_eq, isB_bZ, isB_0, isB_1, nar_bZ, nar_0, nar_1, mw_ov, iI_s, iI_na, iI_nm, Int.toNat_natCast, Int.add_zero, Int.zero_add, Nat.reduceEqDiff, Nat.reduceAdd, Int.reduceAdd, Int.reduceNeg, Int.reduceSub, Int.reduceMul, Int.reduceLT, Int.reduceEq, Int.reduceToNat, reduceCtorEq, ↓reduceIte, q_Md_sets H hd hm, hbI, hbJ, hsw, q_Md_doesRing x hok.1, q_Md_doesRing x h64]
          rw [if_pos (by omega)]
          cases q3 : bt x k <;> cases q4 : bt x (swp k a c) <;> (rw [q3, q4] at ih; exact ih)
        · rw [q2] at hbJ
          replace hbJ : (iI (k : Int) >>> (iI (c : Int) &&& iI 31)) &&& iI 1 = iI 1 := hbJ
          rw [q1, q2] at ih
          rw [E_Md_areAlike_1]; simp (disch := omega) only [E_Md_areAlike_2, E_Md_areAlike_3, E_Md_areAlike_4, E_Md_areAlike_5, E_Md_areAlike_6, l_0, l_1, l_31, mK_0 H, letT_eq, gd_true, bnd_some, aR_ov, aK_ov, aN_ov, okO_ov, aI_ov H.1, aL_ov H.1, sI_ov H.1, sL_ov H.1, sV_eq, sV_ne, sV_2, sW_eq, sW_ne, sW_1, iI_add, iI_sub, iI_mul, iI_neg, iI_lt, iI_eq, iI_cl, nI_iI, gd_in, bZ_0, bZ_1, bZ_eq, isB_bZ, isB_0, isB_1, nar_bZ, nar_0, nar_1, mw_ov, iI_s, iI_na, iI_nm, Int.toNat_natCast, Int.add_zero, Int.zero_add, Nat.reduceEqDiff, Nat.reduceAdd, Int.reduceAdd, Int.reduceNeg, Int.reduceSub, Int.reduceMul, Int.reduceLT, Int.reduceEq, Int.reduceToNat, reduceCtorEq, ↓reduceIte, q_Md_sets H hd hm, hbI, hbJ]
          rw [if_pos (by omega)]
          exact ih) (by
    show L_Md_areAlike_1 _ _ _ _ _ _ _ = _
    rw [← allN_ext hp fun s h1 h2 => by
      show (!(s.testBit a && !s.testBit c) || (bt x s == bt x (swp s a c))) = true
      cases q1 : s.testBit a
      · rfl
      · cases q2 : s.testBit c
        · rw [hx s h1, hx _ (swp_hi h2 hT6 ha hc q1 q2 h1)]; rfl
        · rfl]
    rw [E_Md_areAlike_1]; simp (disch := omega) only [E_Md_areAlike_2, E_Md_areAlike_3, E_Md_areAlike_4, E_Md_areAlike_5, E_Md_areAlike_6, l_0, l_1, l_31, mK_0 H, letT_eq, gd_true, bnd_some, aR_ov, aK_ov, aN_ov, okO_ov, aI_ov H.1, aL_ov H.1, sI_ov H.1, sL_ov H.1, sV_eq, sV_ne, sV_2, sW_eq, sW_ne, sW_1, iI_add, iI_sub, iI_mul, iI_neg, iI_lt, iI_eq, iI_cl, nI_iI, gd_in, bZ_0, bZ_1, bZ_eq, isB_bZ, isB_0, isB_1, nar_bZ, nar_0, nar_1, mw_ov, iI_s, iI_na, iI_nm, Int.toNat_natCast, Int.add_zero, Int.zero_add, Nat.reduceEqDiff, Nat.reduceAdd, Int.reduceAdd, Int.reduceNeg, Int.reduceSub, Int.reduceMul, Int.reduceLT, Int.reduceEq, Int.reduceToNat, reduceCtorEq, ↓reduceIte, q_Md_sets H hd hm]
    rw [if_neg (by omega)]
    rfl) 0 (by omega)
  unfold M_Md_areAlike
  rw [E_Md_areAlike_0]
  exact (congrArg (mw _) h).trans (mw_ov _ _ _ _ _ _)
theorem Md_mattersX {d : TD} {b : BD} {A : Nat → Nat} {σ : AM} {m' : VM} (M' : MS0 d b A σ m') (l : LeftM d b m') (n : Nat) {c : Nat} (hc : c ≤ nLf d b) : L_Md_matters_1 (A 0) (iI (n : Int)) (iI (c : Int)) (iI (nLf d b : Int)) (ov 40 A m' σ) = some (iI (sur c (nLf d b)), (ov 40 A m' σ)) := by
  have H := M'.1
  have h5 := Lf_5 M' l
  rw [E_Md_matters_1]
  simp (disch := omega) only [mK_0 H, okO_ov, gd_true, aI_ov H.1, h5.1, iI_lt, q_Md_sureOf, bnd_some]
  rw [if_neg (by omega)]
theorem Md_mattersL {d : TD} {b : BD} {A : Nat → Nat} {σ : AM} {m' : VM} (M' : MS0 d b A σ m') (l : LeftM d b m') {n : Nat} (hn : n < dT d) : L_Md_matters_1 (A 0) (iI (n : Int)) (iI ((0 : Nat) : Int)) (iI ((0 : Nat) : Int)) (ov 40 A m' σ) = some (iI (sur (cntN (nLf d b) (fun i => mtr (xL d b i) n)) (nLf d b)), (ov 40 A m' σ)) := by
  have H := M'.1
  have h5 := Lf_5 M' l
  have hc := cntN_le (nLf d b) (fun i => mtr (xL d b i) n)
  exact up_loop (fun k => L_Md_matters_1 (A 0) (iI (n : Int)) (iI (cntN k (fun i => mtr (xL d b i) n) : Int)) (iI (k : Int)) (ov 40 A (m') σ)) (nLf d b) (some (iI (sur (cntN (nLf d b) (fun i => mtr (xL d b i) n)) (nLf d b)), (ov 40 A (m') σ))) (fun k hk ih => by
    obtain ⟨x1, x2, x3, x4⟩ := Lf_x M' l hk
    have hq := q_Md_doesMatter M'.1 M'.2.1 M'.2.2.1 (xL_low M'.2.1 b k) hn
    show L_Md_matters_1 _ _ _ _ _ = _
    replace ih : L_Md_matters_1 _ _ _ _ _ = _ := ih
    rw [cntN_s] at ih
    rw [E_Md_matters_1]; simp (disch := omega) only [E_Md_matters_2, l_0, l_1, mK_0 H, mR_30 H, mK_14 H, mN_14 H, mR_45 H, mK_25 H, mN_25 H, letT_eq, gd_true, bnd_some, aR_ov, aK_ov, aN_ov, okO_ov, aI_ov H.1, aL_ov H.1, sI_ov H.1, sL_ov H.1, sV_eq, sV_ne, sV_2, sW_eq, sW_ne, sW_1, iI_add, iI_sub, iI_mul, iI_neg, iI_lt, iI_eq, iI_cl, nI_iI, gd_in, bZ_0, bZ_1, bZ_eq, isB_bZ, isB_0, isB_1, nar_bZ, nar_0, nar_1, mw_ov, iI_s, iI_na, iI_nm, Int.toNat_natCast, Int.add_zero, Int.zero_add, Nat.reduceEqDiff, Nat.reduceAdd, Int.reduceAdd, Int.reduceNeg, Int.reduceSub, Int.reduceMul, Int.reduceLT, Int.reduceEq, Int.reduceToNat, reduceCtorEq, ↓reduceIte, h5.1, x1, x3, hq]
    rw [if_pos (by omega)]
    cases q : mtr (xL d b k) n <;> (rw [q] at ih; exact ih)) (Md_mattersX M' l n hc) 0 (Nat.zero_le _)
theorem m_matters {d : TD} {b : BD} {A : Nat → Nat} {σ : AM} {m : VM} (M : MS0 d b A σ m) {a : Int} (h1 : -2147483648 ≤ a) (h2 : a < 2147483648) : Mf A σ m (M_Md_matters (A 0) (iI a) (ov 40 A m σ)) (iI (mattersS d b a)) := by
  have H := M.1
  have hs := q_Md_isThing H M.2.1 (MT_K (KM_0 m) M.2.2.1) h1 h2
  unfold mattersS
  by_cases q : 0 ≤ a ∧ a < (dT d : Int)
  · rw [decide_eq_true q] at hs
    rw [if_pos q]
    obtain ⟨n, rfl⟩ := Int.eq_ofNat_of_zero_le q.1
    have hn : n < dT d := by omega
    obtain ⟨m', e, k, l, M'⟩ := p_findL M
    refine ⟨m', ?_, k⟩
    have h5 := Lf_5 M' l
    have hc := cntN_le (nLf d b) (fun i => mtr (xL d b i) n)
    have hl := Md_mattersL M' l hn
    replace hl : L_Md_matters_1 (A 0) (iI (n : Int)) (iI 0) (iI 0) (ov 40 A (m') σ) = _ := hl
    unfold M_Md_matters
    rw [E_Md_matters_0]; simp (disch := omega) only [l_0, l_1, mK_0 H, letT_eq, gd_true, bnd_some, aR_ov, aK_ov, aN_ov, okO_ov, aI_ov H.1, aL_ov H.1, sI_ov H.1, sL_ov H.1, sV_eq, sV_ne, sV_2, sW_eq, sW_ne, sW_1, iI_add, iI_sub, iI_mul, iI_neg, iI_lt, iI_eq, iI_cl, nI_iI, gd_in, bZ_0, bZ_1, bZ_eq, isB_bZ, isB_0, isB_1, nar_bZ, nar_0, nar_1, mw_ov, iI_s, iI_na, iI_nm, Int.toNat_natCast, Int.add_zero, Int.zero_add, Nat.reduceEqDiff, Nat.reduceAdd, Int.reduceAdd, Int.reduceNeg, Int.reduceSub, Int.reduceMul, Int.reduceLT, Int.reduceEq, Int.reduceToNat, reduceCtorEq, ↓reduceIte, hs, e, hl]
  · rw [decide_eq_false q] at hs
    rw [if_neg q]
    refine ⟨_, ?_, KM_0 m⟩
    unfold M_Md_matters
    rw [E_Md_matters_0]; simp (disch := omega) only [l_0, l_1, mK_0 H, letT_eq, gd_true, bnd_some, aR_ov, aK_ov, aN_ov, okO_ov, aI_ov H.1, aL_ov H.1, sI_ov H.1, sL_ov H.1, sV_eq, sV_ne, sV_2, sW_eq, sW_ne, sW_1, iI_add, iI_sub, iI_mul, iI_neg, iI_lt, iI_eq, iI_cl, nI_iI, gd_in, bZ_0, bZ_1, bZ_eq, isB_bZ, isB_0, isB_1, nar_bZ, nar_0, nar_1, mw_ov, iI_s, iI_na, iI_nm, Int.toNat_natCast, Int.add_zero, Int.zero_add, Nat.reduceEqDiff, Nat.reduceAdd, Int.reduceAdd, Int.reduceNeg, Int.reduceSub, Int.reduceMul, Int.reduceLT, Int.reduceEq, Int.reduceToNat, reduceCtorEq, ↓reduceIte, hs]
theorem Md_alikeX {d : TD} {b : BD} {A : Nat → Nat} {σ : AM} {m' : VM} (M' : MS0 d b A σ m') (l : LeftM d b m') (n j : Nat) {c : Nat} (hc : c ≤ nLf d b) : L_Md_alike_2 (A 0) (iI (n : Int)) (iI (j : Int)) (iI (c : Int)) (iI (nLf d b : Int)) (ov 40 A m' σ) = some (iI (sur c (nLf d b)), (ov 40 A m' σ)) := by
  have H := M'.1
  have h5 := Lf_5 M' l
  rw [E_Md_alike_2]
  simp (disch := omega) only [mK_0 H, okO_ov, gd_true, aI_ov H.1, h5.1, iI_lt, q_Md_sureOf, bnd_some]
  rw [if_neg (by omega)]
theorem Md_alikeL {d : TD} {b : BD} {A : Nat → Nat} {σ : AM} {m' : VM} (M' : MS0 d b A σ m') (l : LeftM d b m') {n j : Nat} (hn : n < dT d) (hj : j < dT d) : L_Md_alike_2 (A 0) (iI (n : Int)) (iI (j : Int)) (iI ((0 : Nat) : Int)) (iI ((0 : Nat) : Int)) (ov 40 A m' σ) = some (iI (sur (cntN (nLf d b) (fun i => alB (xL d b i) n j)) (nLf d b)), (ov 40 A m' σ)) := by
  have H := M'.1
  have h5 := Lf_5 M' l
  have hc := cntN_le (nLf d b) (fun i => alB (xL d b i) n j)
  exact up_loop (fun k => L_Md_alike_2 (A 0) (iI (n : Int)) (iI (j : Int)) (iI (cntN k (fun i => alB (xL d b i) n j) : Int)) (iI (k : Int)) (ov 40 A (m') σ)) (nLf d b) (some (iI (sur (cntN (nLf d b) (fun i => alB (xL d b i) n j)) (nLf d b)), (ov 40 A (m') σ))) (fun k hk ih => by
    obtain ⟨x1, x2, x3, x4⟩ := Lf_x M' l hk
    have hq := q_Md_areAlike M'.1 M'.2.1 M'.2.2.1 (xL_low M'.2.1 b k) (a := n) (c := j) (by omega) (by omega)
    show L_Md_alike_2 _ _ _ _ _ _ = _
    replace ih : L_Md_alike_2 _ _ _ _ _ _ = _ := ih
    rw [cntN_s] at ih
    rw [E_Md_alike_2]; simp (disch := omega) only [E_Md_alike_3, l_0, l_1, mK_0 H, mR_30 H, mK_14 H, mN_14 H, mR_45 H, mK_25 H, mN_25 H, letT_eq, gd_true, bnd_some, aR_ov, aK_ov, aN_ov, okO_ov, aI_ov H.1, aL_ov H.1, sI_ov H.1, sL_ov H.1, sV_eq, sV_ne, sV_2, sW_eq, sW_ne, sW_1, iI_add, iI_sub, iI_mul, iI_neg, iI_lt, iI_eq, iI_cl, nI_iI, gd_in, bZ_0, bZ_1, bZ_eq, isB_bZ, isB_0, isB_1, nar_bZ, nar_0, nar_1, mw_ov, iI_s, iI_na, iI_nm, Int.toNat_natCast, Int.add_zero, Int.zero_add, Nat.reduceEqDiff, Nat.reduceAdd, Int.reduceAdd, Int.reduceNeg, Int.reduceSub, Int.reduceMul, Int.reduceLT, Int.reduceEq, Int.reduceToNat, reduceCtorEq, ↓reduceIte, h5.1, x1, x3, hq]
    rw [if_pos (by omega)]
    cases q : alB (xL d b k) n j <;> (rw [q] at ih; exact ih)) (Md_alikeX M' l n j hc) 0 (Nat.zero_le _)
theorem m_alike {d : TD} {b : BD} {A : Nat → Nat} {σ : AM} {m : VM} (M : MS0 d b A σ m) {a c : Int} (h1 : -2147483648 ≤ a) (h2 : a < 2147483648) (h3 : -2147483648 ≤ c) (h4 : c < 2147483648) : Mf A σ m (M_Md_alike (A 0) (iI a) (iI c) (ov 40 A m σ)) (iI (alikeS d b a c)) := by
  have H := M.1
  have hs := q_Md_isThing H M.2.1 (MT_K (KM_0 m) M.2.2.1) h1 h2
  have hs2 := q_Md_isThing H M.2.1 (MT_K (KM_0 m) M.2.2.1) h3 h4
  unfold alikeS
  by_cases q : 0 ≤ a ∧ a < (dT d : Int)
  · rw [decide_eq_true q] at hs
    by_cases q2 : 0 ≤ c ∧ c < (dT d : Int)
    · rw [decide_eq_true q2] at hs2
      by_cases q3 : a = c
      · rw [if_neg (fun z => z.2.2 q3)]
        refine ⟨_, ?_, KM_0 m⟩
        unfold M_Md_alike
        rw [E_Md_alike_0]; simp (disch := omega) only [E_Md_alike_1, l_0, l_1, mK_0 H, letT_eq, gd_true, bnd_some, aR_ov, aK_ov, aN_ov, okO_ov, aI_ov H.1, aL_ov H.1, sI_ov H.1, sL_ov H.1, sV_eq, sV_ne, sV_2, sW_eq, sW_ne, sW_1, iI_add, iI_sub, iI_mul, iI_neg, iI_lt, iI_eq, iI_cl, nI_iI, gd_in, bZ_0, bZ_1, bZ_eq, isB_bZ, isB_0, isB_1, nar_bZ, nar_0, nar_1, mw_ov, iI_s, iI_na, iI_nm, Int.toNat_natCast, Int.add_zero, Int.zero_add, Nat.reduceEqDiff, Nat.reduceAdd, Int.reduceAdd, Int.reduceNeg, Int.reduceSub, Int.reduceMul, Int.reduceLT, Int.reduceEq, Int.reduceToNat, reduceCtorEq, ↓reduceIte, hs, hs2]
        rw [if_pos q3, mw_ov]
      · rw [if_pos ⟨q, q2, q3⟩]
        obtain ⟨n, rfl⟩ := Int.eq_ofNat_of_zero_le q.1
        obtain ⟨j, rfl⟩ := Int.eq_ofNat_of_zero_le q2.1
        obtain ⟨m', e, k, l, M'⟩ := p_findL M
        refine ⟨m', ?_, k⟩
        have h5 := Lf_5 M' l
        have hc := cntN_le (nLf d b) (fun i => alB (xL d b i) n j)
        have hl := Md_alikeL M' l (n := n) (j := j) (by omega) (by omega)
        replace hl : L_Md_alike_2 (A 0) (iI (n : Int)) (iI (j : Int)) (iI 0) (iI 0) (ov 40 A (m') σ) = _ := hl
        unfold M_Md_alike
        rw [E_Md_alike_0]; simp (disch := omega) only [E_Md_alike_1, l_0, l_1, mK_0 H, letT_eq, gd_true, bnd_some, aR_ov, aK_ov, aN_ov, okO_ov, aI_ov H.1, aL_ov H.1, sI_ov H.1, sL_ov H.1, sV_eq, sV_ne, sV_2, sW_eq, sW_ne, sW_1, iI_add, iI_sub, iI_mul, iI_neg, iI_lt, iI_eq, iI_cl, nI_iI, gd_in, bZ_0, bZ_1, bZ_eq, isB_bZ, isB_0, isB_1, nar_bZ, nar_0, nar_1, mw_ov, iI_s, iI_na, iI_nm, Int.toNat_natCast, Int.add_zero, Int.zero_add, Nat.reduceEqDiff, Nat.reduceAdd, Int.reduceAdd, Int.reduceNeg, Int.reduceSub, Int.reduceMul, Int.reduceLT, Int.reduceEq, Int.reduceToNat, reduceCtorEq, ↓reduceIte, hs, hs2, e, hl]
        rw [if_neg q3, mw_ov]
    · rw [decide_eq_false q2] at hs2
      rw [if_neg (fun z => q2 z.2.1)]
      refine ⟨_, ?_, KM_0 m⟩
      unfold M_Md_alike
      rw [E_Md_alike_0]; simp (disch := omega) only [E_Md_alike_1, l_0, l_1, mK_0 H, letT_eq, gd_true, bnd_some, aR_ov, aK_ov, aN_ov, okO_ov, aI_ov H.1, aL_ov H.1, sI_ov H.1, sL_ov H.1, sV_eq, sV_ne, sV_2, sW_eq, sW_ne, sW_1, iI_add, iI_sub, iI_mul, iI_neg, iI_lt, iI_eq, iI_cl, nI_iI, gd_in, bZ_0, bZ_1, bZ_eq, isB_bZ, isB_0, isB_1, nar_bZ, nar_0, nar_1, mw_ov, iI_s, iI_na, iI_nm, Int.toNat_natCast, Int.add_zero, Int.zero_add, Nat.reduceEqDiff, Nat.reduceAdd, Int.reduceAdd, Int.reduceNeg, Int.reduceSub, Int.reduceMul, Int.reduceLT, Int.reduceEq, Int.reduceToNat, reduceCtorEq, ↓reduceIte, hs, hs2]
  · rw [decide_eq_false q] at hs
    rw [if_neg (fun z => q z.1)]
    refine ⟨_, ?_, KM_0 m⟩
    unfold M_Md_alike
    rw [E_Md_alike_0]; simp (disch := omega) only [E_Md_alike_1, l_0, l_1, mK_0 H, letT_eq, gd_true, bnd_some, aR_ov, aK_ov, aN_ov, okO_ov, aI_ov H.1, aL_ov H.1, sI_ov H.1, sL_ov H.1, sV_eq, sV_ne, sV_2, sW_eq, sW_ne, sW_1, iI_add, iI_sub, iI_mul, iI_neg, iI_lt, iI_eq, iI_cl, nI_iI, gd_in, bZ_0, bZ_1, bZ_eq, isB_bZ, isB_0, isB_1, nar_bZ, nar_0, nar_1, mw_ov, iI_s, iI_na, iI_nm, Int.toNat_natCast, Int.add_zero, Int.zero_add, Nat.reduceEqDiff, Nat.reduceAdd, Int.reduceAdd, Int.reduceNeg, Int.reduceSub, Int.reduceMul, Int.reduceLT, Int.reduceEq, Int.reduceToNat, reduceCtorEq, ↓reduceIte, hs]
