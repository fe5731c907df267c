/-! ===== the told tower, the lists, the book ===== -/
theorem q_Tw_sets {A : Nat → Nat} {σ : AM} (H : LC A σ) {m : VM} {d : TD} (hd : wfD d) (hm : CTw d m) : M_Tw_sets (A 10) (ov 68 A m σ) = some (iI (sN d : Int), (ov 68 A m σ)) := by
  unfold M_Tw_sets
  have := hd.1
  rw [E_Tw_sets_0]; simp (disch := omega) only [l_1, l_31, cK_10 H, letT_eq, gd_true, bnd_some, aR_ov, aK_ov, aN_ov, okO_ov, aI_ov H.1, aL_ov H.1, sI_ov H.1, sL_ov H.1, sV_eq, sV_ne, sV_2, sW_eq, sW_ne, sW_1, iI_add, iI_sub, iI_mul, iI_neg, iI_lt, iI_eq, iI_cl, nI_iI, gd_in, bZ_0, bZ_1, bZ_eq, isB_bZ, isB_0, isB_1, nar_bZ, nar_0, nar_1, mw_ov, iI_s, iI_na, iI_nm, Int.toNat_natCast, Int.add_zero, Int.zero_add, Nat.reduceEqDiff, Nat.reduceAdd, Int.reduceAdd, Int.reduceNeg, Int.reduceSub, Int.reduceMul, Int.reduceLT, Int.reduceEq, Int.reduceToNat, reduceCtorEq, ↓reduceIte, hm.1.1]
  rw [iI_shl1 (by omega)]; rfl
theorem q_Tw_hasThing {A : Nat → Nat} {σ : AM} (H : LC A σ) {m : VM} {d : TD} (hd : wfD d) (hm : CTw d m) {a : Int} (h1 : -2147483648 ≤ a) (h2 : a < 2147483648) : M_Tw_hasThing (A 10) (iI a) (ov 68 A m σ) = some (bZ (decide (0 ≤ a ∧ a < dT d)), (ov 68 A m σ)) := by
  unfold M_Tw_hasThing
  have := hd.1
  rw [E_Tw_hasThing_0]; simp (disch := omega) only [E_Tw_hasThing_1, E_Tw_hasThing_2, l_0, l_1, cK_10 H, letT_eq, gd_true, bnd_some, aR_ov, aK_ov, aN_ov, okO_ov, aI_ov H.1, aL_ov H.1, sI_ov H.1, sL_ov H.1, sV_eq, sV_ne, sV_2, sW_eq, sW_ne, sW_1, iI_add, iI_sub, iI_mul, iI_neg, iI_lt, iI_eq, iI_cl, nI_iI, gd_in, bZ_0, bZ_1, bZ_eq, isB_bZ, isB_0, isB_1, nar_bZ, nar_0, nar_1, mw_ov, iI_s, iI_na, iI_nm, Int.toNat_natCast, Int.add_zero, Int.zero_add, Nat.reduceEqDiff, Nat.reduceAdd, Int.reduceAdd, Int.reduceNeg, Int.reduceSub, Int.reduceMul, Int.reduceLT, Int.reduceEq, Int.reduceToNat, reduceCtorEq, ↓reduceIte, hm.1.1]
  by_cases q : a < 0
  · rw [if_pos q, mw_ov, decide_eq_false (by omega)]; rfl
  · rw [if_neg q]
    by_cases q2 : a < dT d
    · rw [if_pos q2, mw_ov, decide_eq_true (by omega)]; rfl
    · rw [if_neg q2, mw_ov, decide_eq_false (by omega)]; rfl
theorem q_Tw_hasSet {A : Nat → Nat} {σ : AM} (H : LC A σ) {m : VM} {d : TD} (hd : wfD d) (hm : CTw d m) {a : Int} (h1 : -2147483648 ≤ a) (h2 : a < 2147483648) : M_Tw_hasSet (A 10) (iI a) (ov 68 A m σ) = some (bZ (decide (0 ≤ a ∧ a < (sN d : Int))), (ov 68 A m σ)) := by
  unfold M_Tw_hasSet
  have := sN_le hd
  rw [E_Tw_hasSet_0]; simp (disch := omega) only [E_Tw_hasSet_1, E_Tw_hasSet_2, l_0, l_1, cK_10 H, letT_eq, gd_true, bnd_some, aR_ov, aK_ov, aN_ov, okO_ov, aI_ov H.1, aL_ov H.1, sI_ov H.1, sL_ov H.1, sV_eq, sV_ne, sV_2, sW_eq, sW_ne, sW_1, iI_add, iI_sub, iI_mul, iI_neg, iI_lt, iI_eq, iI_cl, nI_iI, gd_in, bZ_0, bZ_1, bZ_eq, isB_bZ, isB_0, isB_1, nar_bZ, nar_0, nar_1, mw_ov, iI_s, iI_na, iI_nm, Int.toNat_natCast, Int.add_zero, Int.zero_add, Nat.reduceEqDiff, Nat.reduceAdd, Int.reduceAdd, Int.reduceNeg, Int.reduceSub, Int.reduceMul, Int.reduceLT, Int.reduceEq, Int.reduceToNat, reduceCtorEq, ↓reduceIte, q_Tw_sets H hd hm]
  by_cases q : a < 0
  · rw [if_pos q, mw_ov, decide_eq_false (by omega)]; rfl
  · rw [if_neg q]
    by_cases q2 : a < sN d
    · rw [if_pos q2, mw_ov, decide_eq_true (by omega)]; rfl
    · rw [if_neg q2, mw_ov, decide_eq_false (by omega)]; rfl
theorem q_Tw_all {A : Nat → Nat} {σ : AM} (H : LC A σ) {m : VM} {d : TD} (hd : wfD d) (hm : CTw d m) : M_Tw_all (A 10) (ov 68 A m σ) = some (iI (dW d : Int), (ov 68 A m σ)) := by
  have h6 := hd.1
  have h := up_loop (fun k => L_Tw_all_1 (A 10) (iI (((dM d + 1) ^ k : Nat) : Int)) (iI (k : Int)) (ov 68 A m σ)) (dT d) (some (iI (dW d : Int), (ov 68 A m σ))) (fun k hk ih => by
    show L_Tw_all_1 _ _ _ _ = _
    rw [E_Tw_all_1]; simp (disch := omega) only [l_1, cK_10 H, letT_eq, gd_true, bnd_some, aR_ov, aK_ov, aN_ov, okO_ov, aI_ov H.1, aL_ov H.1, sI_ov H.1, sL_ov H.1, sV_eq, sV_ne, sV_2, sW_eq, sW_ne, sW_1, iI_add, iI_sub, iI_mul, iI_neg, iI_lt, iI_eq, iI_cl, nI_iI, gd_in, bZ_0, bZ_1, bZ_eq, isB_bZ, isB_0, isB_1, nar_bZ, nar_0, nar_1, mw_ov, iI_s, iI_na, iI_nm, Int.toNat_natCast, Int.add_zero, Int.zero_add, Nat.reduceEqDiff, Nat.reduceAdd, Int.reduceAdd, Int.reduceNeg, Int.reduceSub, Int.reduceMul, Int.reduceLT, Int.reduceEq, Int.reduceToNat, reduceCtorEq, ↓reduceIte, hm.1.1, hm.1.2.1]
    rw [if_pos (by omega)]
    exact ih) (by
    show L_Tw_all_1 _ _ _ _ = _
    rw [E_Tw_all_1]; simp (disch := omega) only [cK_10 H, okO_ov, aR_ov, gd_true, bnd_some, aI_ov H.1, iI_lt, hm.1.1]; rw [if_neg (by omega)]
    rfl) 0 (Nat.zero_le _)
  unfold M_Tw_all
  rw [E_Tw_all_0]
  simp only [l_0, l_1]
  exact (congrArg (mw _) h).trans (mw_ov _ _ _ _ _ _)
theorem q_Tw_hasWeights {A : Nat → Nat} {σ : AM} (H : LC A σ) {m : VM} {d : TD} (hd : wfD d) (hm : CTw d m) {a : Int} (h1 : -2147483648 ≤ a) (h2 : a < 2147483648) : M_Tw_hasWeights (A 10) (iI a) (ov 68 A m σ) = some (bZ (decide (0 ≤ a ∧ a < (dW d : Int))), (ov 68 A m σ)) := by
  unfold M_Tw_hasWeights
  have := hd.2.2.2.2.2.2
  rw [E_Tw_hasWeights_0]; simp (disch := omega) only [E_Tw_hasWeights_1, E_Tw_hasWeights_2, l_0, l_1, cK_10 H, letT_eq, gd_true, bnd_some, aR_ov, aK_ov, aN_ov, okO_ov, aI_ov H.1, aL_ov H.1, sI_ov H.1, sL_ov H.1, sV_eq, sV_ne, sV_2, sW_eq, sW_ne, sW_1, iI_add, iI_sub, iI_mul, iI_neg, iI_lt, iI_eq, iI_cl, nI_iI, gd_in, bZ_0, bZ_1, bZ_eq, isB_bZ, isB_0, isB_1, nar_bZ, nar_0, nar_1, mw_ov, iI_s, iI_na, iI_nm, Int.toNat_natCast, Int.add_zero, Int.zero_add, Nat.reduceEqDiff, Nat.reduceAdd, Int.reduceAdd, Int.reduceNeg, Int.reduceSub, Int.reduceMul, Int.reduceLT, Int.reduceEq, Int.reduceToNat, reduceCtorEq, ↓reduceIte, q_Tw_all H hd hm]
  by_cases q : a < 0
  · rw [if_pos q, mw_ov, decide_eq_false (by omega)]; rfl
  · rw [if_neg q]
    by_cases q2 : a < dW d
    · rw [if_pos q2, mw_ov, decide_eq_true (by omega)]; rfl
    · rw [if_neg q2, mw_ov, decide_eq_false (by omega)]; rfl
/-- the lists' rows have room for all weights -/
def LD (d : TD) (A : Nat → Nat) (σ : AM) : Prop := dW d ≤ aN σ (A 21) ∧ aN σ (A 21) ≤ 16384
theorem q_Ls_at {A : Nat → Nat} {σ : AM} (H : LC A σ) {m : VM} {d : TD} (hd : wfD d) (hD : LD d A σ) (hm : CTw d m) {k : Nat} (hk : k < NL d) : M_Ls_at (A 17) (iI (k : Int)) (ov 68 A m σ) = some (LL d k, (ov 68 A m σ)) := by
  unfold M_Ls_at
  have := NL_le d
  have := hD.1
  have := hD.2
  rw [E_Ls_at_0]; simp (disch := omega) only [E_Ls_at_1, E_Ls_at_2, l_0, cK_17 H, cR_17_4 H, cK_21 H, letT_eq, gd_true, bnd_some, aR_ov, aK_ov, aN_ov, okO_ov, aI_ov H.1, aL_ov H.1, sI_ov H.1, sL_ov H.1, sV_eq, sV_ne, sV_2, sW_eq, sW_ne, sW_1, iI_add, iI_sub, iI_mul, iI_neg, iI_lt, iI_eq, iI_cl, nI_iI, gd_in, bZ_0, bZ_1, bZ_eq, isB_bZ, isB_0, isB_1, nar_bZ, nar_0, nar_1, mw_ov, iI_s, iI_na, iI_nm, Int.toNat_natCast, Int.add_zero, Int.zero_add, Nat.reduceEqDiff, Nat.reduceAdd, Int.reduceAdd, Int.reduceNeg, Int.reduceSub, Int.reduceMul, Int.reduceLT, Int.reduceEq, Int.reduceToNat, reduceCtorEq, ↓reduceIte, hm.1.2.2.2.2.1, hm.2.1 k hk]
  rw [if_neg (by omega), if_pos (by omega), mw_ov]
theorem q_Ls_share {A : Nat → Nat} {σ : AM} (H : LC A σ) {m : VM} {d : TD} (hd : wfD d) (hD : LD d A σ) (hm : CTw d m) {k : Nat} (hk : k < NL d) : M_Ls_share (A 17) (iI (k : Int)) (ov 68 A m σ) = some (iI (sh d k : Int), (ov 68 A m σ)) := by
  unfold M_Ls_share
  have := NL_le d
  have := hD.1
  have := hD.2
  rw [E_Ls_share_0]; simp (disch := omega) only [E_Ls_share_1, E_Ls_share_2, l_0, cK_17 H, cR_17_5 H, cK_22 H, cN_22 H, letT_eq, gd_true, bnd_some, aR_ov, aK_ov, aN_ov, okO_ov, aI_ov H.1, aL_ov H.1, sI_ov H.1, sL_ov H.1, sV_eq, sV_ne, sV_2, sW_eq, sW_ne, sW_1, iI_add, iI_sub, iI_mul, iI_neg, iI_lt, iI_eq, iI_cl, nI_iI, gd_in, bZ_0, bZ_1, bZ_eq, isB_bZ, isB_0, isB_1, nar_bZ, nar_0, nar_1, mw_ov, iI_s, iI_na, iI_nm, Int.toNat_natCast, Int.add_zero, Int.zero_add, Nat.reduceEqDiff, Nat.reduceAdd, Int.reduceAdd, Int.reduceNeg, Int.reduceSub, Int.reduceMul, Int.reduceLT, Int.reduceEq, Int.reduceToNat, reduceCtorEq, ↓reduceIte, hm.1.2.2.2.2.1, hm.2.2.1 k hk]
  rw [if_neg (by omega), if_pos (by omega), mw_ov]
theorem q_Ls_numberOf {A : Nat → Nat} {σ : AM} (H : LC A σ) {m : VM} {d : TD} (hd : wfD d) (hD : LD d A σ) (hm : CTw d m) {w : Nat} (hw : w < dW d) : M_Ls_numberOf (A 17) (iI (w : Int)) (ov 68 A m σ) = some (if dMay d w = true then iI (num d w : Int) else iI (-1), (ov 68 A m σ)) := by
  unfold M_Ls_numberOf
  have := hD.1
  have := hD.2
  rw [E_Ls_numberOf_0]; simp (disch := omega) only [E_Ls_numberOf_1, E_Ls_numberOf_2, l_0, l_1, cK_17 H, cR_17_6 H, cK_23 H, cN_23 H, letT_eq, gd_true, bnd_some, aR_ov, aK_ov, aN_ov, okO_ov, aI_ov H.1, aL_ov H.1, sI_ov H.1, sL_ov H.1, sV_eq, sV_ne, sV_2, sW_eq, sW_ne, sW_1, iI_add, iI_sub, iI_mul, iI_neg, iI_lt, iI_eq, iI_cl, nI_iI, gd_in, bZ_0, bZ_1, bZ_eq, isB_bZ, isB_0, isB_1, nar_bZ, nar_0, nar_1, mw_ov, iI_s, iI_na, iI_nm, Int.toNat_natCast, Int.add_zero, Int.zero_add, Nat.reduceEqDiff, Nat.reduceAdd, Int.reduceAdd, Int.reduceNeg, Int.reduceSub, Int.reduceMul, Int.reduceLT, Int.reduceEq, Int.reduceToNat, reduceCtorEq, ↓reduceIte, hm.2.2.2.1 w hw]
  rw [if_neg (by omega), if_pos (by omega), mw_ov]
theorem q_Ls_room {A : Nat → Nat} {σ : AM} (H : LC A σ) (m : VM) : M_Ls_room (A 17) (ov 68 A m σ) = some (iI (aN σ (A 21) : Int), (ov 68 A m σ)) := by
  unfold M_Ls_room
  rw [E_Ls_room_0]; simp (disch := omega) only [cK_17 H, cR_17_4 H, cK_21 H, letT_eq, gd_true, bnd_some, aR_ov, aK_ov, aN_ov, okO_ov, aI_ov H.1, aL_ov H.1, sI_ov H.1, sL_ov H.1, sV_eq, sV_ne, sV_2, sW_eq, sW_ne, sW_1, iI_add, iI_sub, iI_mul, iI_neg, iI_lt, iI_eq, iI_cl, nI_iI, gd_in, bZ_0, bZ_1, bZ_eq, isB_bZ, isB_0, isB_1, nar_bZ, nar_0, nar_1, mw_ov, iI_s, iI_na, iI_nm, Int.toNat_natCast, Int.add_zero, Int.zero_add, Nat.reduceEqDiff, Nat.reduceAdd, Int.reduceAdd, Int.reduceNeg, Int.reduceSub, Int.reduceMul, Int.reduceLT, Int.reduceEq, Int.reduceToNat, reduceCtorEq, ↓reduceIte]
theorem q_Bk_setsTold {A : Nat → Nat} {σ : AM} (H : LC A σ) {m : VM} {d : TD} {b : BD} (hb : wfB d b) (hm : CBk b m) (r : Bool) {lag : Nat} (hl : lag ≤ 64) : M_Bk_setsTold (A 27) (bZ r) (iI (lag : Int)) (ov 68 A m σ) = some (tol b r lag (nT b), (ov 68 A m σ)) := by
  have hn := hb.1
  have h0 : ∀ k, k ≤ lag → tol b r lag k = 0 := by
    intro k
    induction k with
    | zero => intro _; rfl
    | succ k ih => intro hk; unfold tol; rw [if_neg (by omega)]; exact ih (by omega)
  unfold M_Bk_setsTold
  rw [E_Bk_setsTold_0]
  by_cases hl2 : nT b < lag
  · rw [h0 _ (Nat.le_of_lt hl2)]
    rw [E_Bk_setsTold_1]; simp (disch := omega) only [cK_27 H, okO_ov, aR_ov, gd_true, bnd_some, aI_ov H.1, iI_lt, hm.1.1]; rw [if_neg (by omega)]
    exact mw_ov _ _ _ _ _ _
  have h := up_loopI (fun k (_ : Unit) => L_Bk_setsTold_1 (A 27) (bZ r) (iI (lag : Int)) (tol b r lag k) (iI (k : Int)) (ov 68 A m σ)) (fun k _ => lag ≤ k) (fun x => x = some (tol b r lag (nT b), (ov 68 A m σ))) (nT b) (fun k _ hk hlk ih => by
    have h7 := hm.1.1
    have h29 := hm.2.2.1 k (by omega)
    have h28 := hm.2.1 (k - lag) (by omega)
    have hs := hb.2.2.1 (k - lag) (by omega)
    have e : (k : Int) - (lag : Int) = ((k - lag : Nat) : Int) := by omega
    replace ih := ih () (by omega)
    replace ih : L_Bk_setsTold_1 _ _ _ (if lag ≤ k ∧ tR b k = r then tol b r lag k ||| b1 (tS b (k - lag)) else tol b r lag k) _ _ = _ := ih
    show L_Bk_setsTold_1 _ _ _ _ _ _ = _
    by_cases q : tR b k = r
    · rw [if_pos ⟨hlk, q⟩] at ih
      rw [q] at h29
      rw [E_Bk_setsTold_1]; simp (disch := omega) only [E_Bk_setsTold_2, l_1, cK_27 H, cR_27_0 H, cK_28 H, cN_28 H, cR_27_1 H, cK_29 H, cN_29 H, letT_eq, gd_true, bnd_some, aR_ov, aK_ov, aN_ov, okO_ov, aI_ov H.1, aL_ov H.1, sI_ov H.1, sL_ov H.1, sV_eq, sV_ne, sV_2, sW_eq, sW_ne, sW_1, iI_add, iI_sub, iI_mul, iI_neg, iI_lt, iI_eq, iI_cl, nI_iI, gd_in, bZ_0, bZ_1, bZ_eq, isB_bZ, isB_0, isB_1, nar_bZ, nar_0, nar_1, mw_ov, iI_s, iI_na, iI_nm, Int.toNat_natCast, Int.add_zero, Int.zero_add, Nat.reduceEqDiff, Nat.reduceAdd, Int.reduceAdd, Int.reduceNeg, Int.reduceSub, Int.reduceMul, Int.reduceLT, Int.reduceEq, Int.reduceToNat, reduceCtorEq, ↓reduceIte, h7, h29, e, h28, shl_b1 hs]
      rw [if_pos (by omega)]
      exact ih
    · rw [if_neg (fun z => q z.2)] at ih
      rw [E_Bk_setsTold_1]; simp (disch := omega) only [E_Bk_setsTold_2, l_1, cK_27 H, cR_27_0 H, cK_28 H, cN_28 H, cR_27_1 H, cK_29 H, cN_29 H, letT_eq, gd_true, bnd_some, aR_ov, aK_ov, aN_ov, okO_ov, aI_ov H.1, aL_ov H.1, sI_ov H.1, sL_ov H.1, sV_eq, sV_ne, sV_2, sW_eq, sW_ne, sW_1, iI_add, iI_sub, iI_mul, iI_neg, iI_lt, iI_eq, iI_cl, nI_iI, gd_in, bZ_0, bZ_1, bZ_eq, isB_bZ, isB_0, isB_1, nar_bZ, nar_0, nar_1, mw_ov, iI_s, iI_na, iI_nm, Int.toNat_natCast, Int.add_zero, Int.zero_add, Nat.reduceEqDiff, Nat.reduceAdd, Int.reduceAdd, Int.reduceNeg, Int.reduceSub, Int.reduceMul, Int.reduceLT, Int.reduceEq, Int.reduceToNat, reduceCtorEq, ↓reduceIte, h7, h29]
      rw [if_pos (by omega), if_neg q]
      exact ih) (fun _ _ => by
    show L_Bk_setsTold_1 _ _ _ _ _ _ = _
    rw [E_Bk_setsTold_1]; simp (disch := omega) only [cK_27 H, okO_ov, aR_ov, gd_true, bnd_some, aI_ov H.1, iI_lt, hm.1.1]; rw [if_neg (by omega)]) lag () (by omega) (Nat.le_refl _)
  rw [h0 lag (Nat.le_refl _)] at h
  exact (congrArg (mw _) h).trans (mw_ov _ _ _ _ _ _)
theorem q_Bk_hintsHold {A : Nat → Nat} {σ : AM} (H : LC A σ) {m : VM} {d : TD} {b : BD} (hb : wfB d b) (hm : CBk b m) (x : Int64) : M_Bk_hintsHold (A 27) x (ov 68 A m σ) = some (bZ (fitH b x), (ov 68 A m σ)) := by
  have hn := hb.2.1
  have h := up_loopI (fun k (_ : Unit) => L_Bk_hintsHold_1 (A 27) x (iI (k : Int)) (ov 68 A m σ)) (fun k _ => allN k (fun j => decide (cntS x (hS b j) = hN b j)) = true) (fun y => y = some (bZ (fitH b x), (ov 68 A m σ))) (nH b) (fun k _ hk hlk ih => by
    have h8 := hm.1.2
    have h30 := hm.2.2.2.1 k (by omega)
    have h31 := hm.2.2.2.2 k (by omega)
    have hk8 := hb.2.2.2.2 k (by omega)
    have hc : cntS x (hS b k) ≤ 64 := cntN_le 64 _
    show L_Bk_hintsHold_1 _ _ _ _ = _
    rw [E_Bk_hintsHold_1]; simp (disch := omega) only [l_0, l_1, cK_27 H, cR_27_2 H, cK_30 H, cN_30 H, cR_27_3 H, cK_31 H, cN_31 H, letT_eq, gd_true, bnd_some, aR_ov, aK_ov, aN_ov, okO_ov, aI_ov H.1, aL_ov H.1, sI_ov H.1, sL_ov H.1, sV_eq, sV_ne, sV_2, sW_eq, sW_ne, sW_1, iI_add, iI_sub, iI_mul, iI_neg, iI_lt, iI_eq, iI_cl, nI_iI, gd_in, bZ_0, bZ_1, bZ_eq, isB_bZ, isB_0, isB_1, nar_bZ, nar_0, nar_1, mw_ov, iI_s, iI_na, iI_nm, Int.toNat_natCast, Int.add_zero, Int.zero_add, Nat.reduceEqDiff, Nat.reduceAdd, Int.reduceAdd, Int.reduceNeg, Int.reduceSub, Int.reduceMul, Int.reduceLT, Int.reduceEq, Int.reduceToNat, reduceCtorEq, ↓reduceIte, h8, h30, h31, q_St_ofSize hk8.1, q_JLong_bitCount, pcl_OF hk8.1]
    rw [if_pos (by omega)]
    by_cases e : cntS x (hS b k) = hN b k
    · rw [if_pos (by omega)]
      exact ih () (by unfold allN; rw [hlk]; exact decide_eq_true e)
    · rw [if_neg (by omega)]
      have : fitH b x = false := by
        cases z : fitH b x
        · rfl
        · exact absurd (of_decide_eq_true (allN_iff.mp z k hk)) e
      rw [this]; rfl) (fun _ hq => by
    show L_Bk_hintsHold_1 _ _ _ _ = _
    rw [E_Bk_hintsHold_1]; simp (disch := omega) only [cK_27 H, okO_ov, aR_ov, gd_true, bnd_some, aI_ov H.1, iI_lt, hm.1.2]; rw [if_neg (by omega)]
    rw [show fitH b x = true from hq]; rfl) 0 () (Nat.zero_le _) rfl
  unfold M_Bk_hintsHold
  rw [E_Bk_hintsHold_0]
  simp only [l_0]
  exact (congrArg (mw _) h).trans (mw_ov _ _ _ _ _ _)
