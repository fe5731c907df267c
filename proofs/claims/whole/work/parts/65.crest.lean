/-! ===== what is asked of the rest ===== -/
def RQ (d : TD) (b : BD) (A : Nat → Nat) (σ : AM) (m : VM) : Prop := LC A σ ∧ wfD d ∧ LD d A σ ∧ CTw d m ∧ RV d b m ∧ NL d ≤ aN σ (A 38) ∧ aN σ (A 38) ≤ 16384
theorem RQ_5 {d : TD} {b : BD} {A : Nat → Nat} {σ : AM} {m : VM} (R : RQ d b A σ m) : m.1 35 5 = iI (nLf d b : Int) ∧ nLf d b ≤ NL d ∧ NL d ≤ dW d ∧ dW d ≤ 16384 := ⟨R.2.2.2.2.1.1, nLf_le d b, NL_le d, R.2.1.2.2.2.2.2.2⟩
theorem q_Rs_listAt {d : TD} {b : BD} {A : Nat → Nat} {σ : AM} {m : VM} (R : RQ d b A σ m) {i : Nat} (hi : i < nLf d b) : M_Rs_listAt (A 35) (iI (i : Int)) (ov 68 A m σ) = some (xL d b i, (ov 68 A m σ)) := by
  obtain ⟨H, hd, hD, hT, hv, hN, hz⟩ := R
  have hr : m.1 38 i = iI (lf d b i : Int) := hv.2.2.2.2.1 i hi
  have := nLf_le d b
  have hat := q_Ls_at H hd hD hT (lf_lt hi)
  unfold M_Rs_listAt
  rw [E_Rs_listAt_0]; simp (disch := omega) only [cK_35 H, cR_35_0 H, cK_17 H, cR_35_4 H, cK_38 H, letT_eq, gd_true, bnd_some, aR_ov, aK_ov, aN_ov, okO_ov, aI_ov H.1, aL_ov H.1, sI_ov H.1, sL_ov H.1, sV_eq, sV_ne, sV_2, sW_eq, sW_ne, sW_1, iI_add, iI_sub, iI_mul, iI_neg, iI_lt, iI_eq, iI_cl, nI_iI, gd_in, bZ_0, bZ_1, bZ_eq, isB_bZ, isB_0, isB_1, nar_bZ, nar_0, nar_1, mw_ov, iI_s, iI_na, iI_nm, Int.toNat_natCast, Int.add_zero, Int.zero_add, Nat.reduceEqDiff, Nat.reduceAdd, Int.reduceAdd, Int.reduceNeg, Int.reduceSub, Int.reduceMul, Int.reduceLT, Int.reduceEq, Int.reduceToNat, reduceCtorEq, ↓reduceIte, hr, hat]
  rfl
theorem q_Rs_holds {d : TD} {b : BD} {A : Nat → Nat} {σ : AM} {m : VM} (R : RQ d b A σ m) {w : Nat} (hw : w < dW d) : M_Rs_holds (A 35) (iI (w : Int)) (ov 68 A m σ) = some (bZ (lfW d b w), (ov 68 A m σ)) := by
  obtain ⟨H, hd, hD, hT, hv, hN, hz⟩ := R
  have hn := q_Ls_numberOf H hd hD hT hw
  have h37 := H.2.2.2.2.2.2.2.1
  unfold M_Rs_holds lfW
  cases hm : dMay d w
  · rw [hm] at hn
    rw [E_Rs_holds_0]; simp (disch := omega) only [E_Rs_holds_1, E_Rs_holds_2, l_0, l_1, cK_35 H, cR_35_0 H, cK_17 H, cR_35_3 H, cK_37 H, cN_37 H, letT_eq, gd_true, bnd_some, aR_ov, aK_ov, aN_ov, okO_ov, aI_ov H.1, aL_ov H.1, sI_ov H.1, sL_ov H.1, sV_eq, sV_ne, sV_2, sW_eq, sW_ne, sW_1, iI_add, iI_sub, iI_mul, iI_neg, iI_lt, iI_eq, iI_cl, nI_iI, gd_in, bZ_0, bZ_1, bZ_eq, isB_bZ, isB_0, isB_1, nar_bZ, nar_0, nar_1, mw_ov, iI_s, iI_na, iI_nm, Int.toNat_natCast, Int.add_zero, Int.zero_add, Nat.reduceEqDiff, Nat.reduceAdd, Int.reduceAdd, Int.reduceNeg, Int.reduceSub, Int.reduceMul, Int.reduceLT, Int.reduceEq, Int.reduceToNat, reduceCtorEq, ↓reduceIte, hn]
    rfl
  · have hlt := num_lt hw hm
    have hk : m.1 37 (num d w) = bZ (fitL b (lst d w)) := by rw [hv.2.2.2.2.2 _ hlt, fit_num hw hm]
    rw [hm] at hn
    cases q : fitL b (lst d w)
    · rw [q] at hk
      rw [E_Rs_holds_0]; simp (disch := omega) only [E_Rs_holds_1, E_Rs_holds_2, l_0, l_1, cK_35 H, cR_35_0 H, cK_17 H, cR_35_3 H, cK_37 H, cN_37 H, letT_eq, gd_true, bnd_some, aR_ov, aK_ov, aN_ov, okO_ov, aI_ov H.1, aL_ov H.1, sI_ov H.1, sL_ov H.1, sV_eq, sV_ne, sV_2, sW_eq, sW_ne, sW_1, iI_add, iI_sub, iI_mul, iI_neg, iI_lt, iI_eq, iI_cl, nI_iI, gd_in, bZ_0, bZ_1, bZ_eq, isB_bZ, isB_0, isB_1, nar_bZ, nar_0, nar_1, mw_ov, iI_s, iI_na, iI_nm, Int.toNat_natCast, Int.add_zero, Int.zero_add, Nat.reduceEqDiff, Nat.reduceAdd, Int.reduceAdd, Int.reduceNeg, Int.reduceSub, Int.reduceMul, Int.reduceLT, Int.reduceEq, Int.reduceToNat, reduceCtorEq, ↓reduceIte, hn, hk]
      rw [if_neg (by omega), mw_ov]
      rfl
    · rw [q] at hk
      rw [E_Rs_holds_0]; simp (disch := omega) only [E_Rs_holds_1, E_Rs_holds_2, l_0, l_1, cK_35 H, cR_35_0 H, cK_17 H, cR_35_3 H, cK_37 H, cN_37 H, letT_eq, gd_true, bnd_some, aR_ov, aK_ov, aN_ov, okO_ov, aI_ov H.1, aL_ov H.1, sI_ov H.1, sL_ov H.1, sV_eq, sV_ne, sV_2, sW_eq, sW_ne, sW_1, iI_add, iI_sub, iI_mul, iI_neg, iI_lt, iI_eq, iI_cl, nI_iI, gd_in, bZ_0, bZ_1, bZ_eq, isB_bZ, isB_0, isB_1, nar_bZ, nar_0, nar_1, mw_ov, iI_s, iI_na, iI_nm, Int.toNat_natCast, Int.add_zero, Int.zero_add, Nat.reduceEqDiff, Nat.reduceAdd, Int.reduceAdd, Int.reduceNeg, Int.reduceSub, Int.reduceMul, Int.reduceLT, Int.reduceEq, Int.reduceToNat, reduceCtorEq, ↓reduceIte, hn, hk]
      rw [if_neg (by omega), mw_ov]
      rfl
theorem q_Rs_leastWeights {d : TD} {b : BD} {A : Nat → Nat} {σ : AM} {m : VM} (R : RQ d b A σ m) : M_Rs_leastWeights (A 35) (ov 68 A m σ) = some (iI (fsN (dW d) (lfW d b)), (ov 68 A m σ)) := by
  have h5 := RQ_5 R
  obtain ⟨H, hd, hD, hT, hv, hN, hz⟩ := R
  unfold M_Rs_leastWeights
  by_cases q : nLf d b = 0
  · have : fsN (dW d) (lfW d b) = -1 := fsN_none fun w hw => by
      cases r : lfW d b w
      · rfl
      · unfold lfW at r
        rw [Bool.and_eq_true] at r
        obtain ⟨i, hi, _⟩ := flt_has (p := fitK d b) (num_lt hw r.1) ((fit_num hw r.1).trans r.2)
        unfold nLf lefts at q
        omega
    rw [this]
    rw [E_Rs_leastWeights_0]; simp (disch := omega) only [l_0, l_1, cK_35 H, letT_eq, gd_true, bnd_some, aR_ov, aK_ov, aN_ov, okO_ov, aI_ov H.1, aL_ov H.1, sI_ov H.1, sL_ov H.1, sV_eq, sV_ne, sV_2, sW_eq, sW_ne, sW_1, iI_add, iI_sub, iI_mul, iI_neg, iI_lt, iI_eq, iI_cl, nI_iI, gd_in, bZ_0, bZ_1, bZ_eq, isB_bZ, isB_0, isB_1, nar_bZ, nar_0, nar_1, mw_ov, iI_s, iI_na, iI_nm, Int.toNat_natCast, Int.add_zero, Int.zero_add, Nat.reduceEqDiff, Nat.reduceAdd, Int.reduceAdd, Int.reduceNeg, Int.reduceSub, Int.reduceMul, Int.reduceLT, Int.reduceEq, Int.reduceToNat, reduceCtorEq, ↓reduceIte, h5.1]
    rw [if_pos (by omega), mw_ov]
  · have h0 : 0 < nLf d b := by omega
    have hr : m.1 38 0 = iI (lf d b 0 : Int) := hv.2.2.2.2.1 0 h0
    have hlf := lf_lt h0
    have hD1 := hD.1
    have hD2 := hD.2
    have hl := up_loopI (fun k (_ : Unit) => L_Rs_leastWeights_1 (A 35) (iI (k : Int)) (ov 68 A m σ)) (fun k _ => ∀ w, w < k → dMay d w = true → num d w ≠ lf d b 0) (fun y => y = some (iI (fsN (dW d) (lfW d b)), (ov 68 A m σ))) (dW d) (fun k _ hk hI ih => by
      have hn := q_Ls_numberOf H hd hD hT hk
      show L_Rs_leastWeights_1 _ _ _ = _
      by_cases e : dMay d k = true ∧ num d k = lf d b 0
      · have hf : fsN (dW d) (lfW d b) = (k : Int) := fsN_of hk (by
          unfold lfW
          rw [e.1, ← fit_num hk e.1, e.2]
          exact (flt_mem h0).2) (fun w hw => by
          cases r : lfW d b w
          · rfl
          · unfold lfW at r
            rw [Bool.and_eq_true] at r
            have hw2 : w < dW d := by omega
            obtain ⟨v, hv1, hv2, hv3⟩ := first_of hw2 r.1 (k := lf d b 0) (flt_head (num_lt hw2 r.1) ((fit_num hw2 r.1).trans r.2))
            exact absurd hv3 (hI v (by omega) hv2))
        rw [hf]
        rw [if_pos e.1, e.2] at hn
        rw [E_Rs_leastWeights_1]; simp (disch := omega) only [l_0, l_1, cK_35 H, cR_35_0 H, cK_17 H, cR_35_4 H, cK_38 H, letT_eq, gd_true, bnd_some, aR_ov, aK_ov, aN_ov, okO_ov, aI_ov H.1, aL_ov H.1, sI_ov H.1, sL_ov H.1, sV_eq, sV_ne, sV_2, sW_eq, sW_ne, sW_1, iI_add, iI_sub, iI_mul, iI_neg, iI_lt, iI_eq, iI_cl, nI_iI, gd_in, bZ_0, bZ_1, bZ_eq, isB_bZ, isB_0, isB_1, nar_bZ, nar_0, nar_1, mw_ov, iI_s, iI_na, iI_nm, Int.toNat_natCast, Int.add_zero, Int.zero_add, Nat.reduceEqDiff, Nat.reduceAdd, Int.reduceAdd, Int.reduceNeg, Int.reduceSub, Int.reduceMul, Int.reduceLT, Int.reduceEq, Int.reduceToNat, reduceCtorEq, ↓reduceIte, hr, hn, q_Ls_room H]
        rw [if_pos (by omega)]
      · have hlt : dMay d k = true → num d k < NL d := num_lt hk
        rw [E_Rs_leastWeights_1]; simp (disch := omega) only [l_0, l_1, cK_35 H, cR_35_0 H, cK_17 H, cR_35_4 H, cK_38 H, letT_eq, gd_true, bnd_some, aR_ov, aK_ov, aN_ov, okO_ov, aI_ov H.1, aL_ov H.1, sI_ov H.1, sL_ov H.1, sV_eq, sV_ne, sV_2, sW_eq, sW_ne, sW_1, iI_add, iI_sub, iI_mul, iI_neg, iI_lt, iI_eq, iI_cl, nI_iI, gd_in, bZ_0, bZ_1, bZ_eq, isB_bZ, isB_0, isB_1, nar_bZ, nar_0, nar_1, mw_ov, iI_s, iI_na, iI_nm, Int.toNat_natCast, Int.add_zero, Int.zero_add, Nat.reduceEqDiff, Nat.reduceAdd, Int.reduceAdd, Int.reduceNeg, Int.reduceSub, Int.reduceMul, Int.reduceLT, Int.reduceEq, Int.reduceToNat, reduceCtorEq, ↓reduceIte, hr, hn, q_Ls_room H]
        rw [if_pos (by omega)]
        have hne : ¬ ((if dMay d k = true then iI (num d k : Int) else iI (-1)) = iI (lf d b 0 : Int)) := by
          by_cases hm : dMay d k = true
          · rw [if_pos hm, iI_eq (by omega) (by have := hlt hm; omega) (by omega) (by omega)]
            intro z
            exact e ⟨hm, by omega⟩
          · rw [if_neg hm, iI_eq (by omega) (by omega) (by omega) (by omega)]
            omega
        rw [if_neg hne]
        refine ih () fun w hw hm => ?_
        by_cases ew : w = k
        · subst ew; exact fun z => e ⟨hm, z⟩
        · exact hI w (by omega) hm) (fun _ hI => by
      exfalso
      obtain ⟨w, hw, hm, e⟩ := LLs_mem (LL_mem hlf)
      exact hI w hw hm (num_LL hlf e.symm)) 0 () (Nat.zero_le _) (fun w hw => absurd hw (Nat.not_lt_zero w))
    rw [E_Rs_leastWeights_0]; simp (disch := omega) only [l_0, l_1, cK_35 H, letT_eq, gd_true, bnd_some, aR_ov, aK_ov, aN_ov, okO_ov, aI_ov H.1, aL_ov H.1, sI_ov H.1, sL_ov H.1, sV_eq, sV_ne, sV_2, sW_eq, sW_ne, sW_1, iI_add, iI_sub, iI_mul, iI_neg, iI_lt, iI_eq, iI_cl, nI_iI, gd_in, bZ_0, bZ_1, bZ_eq, isB_bZ, isB_0, isB_1, nar_bZ, nar_0, nar_1, mw_ov, iI_s, iI_na, iI_nm, Int.toNat_natCast, Int.add_zero, Int.zero_add, Nat.reduceEqDiff, Nat.reduceAdd, Int.reduceAdd, Int.reduceNeg, Int.reduceSub, Int.reduceMul, Int.reduceLT, Int.reduceEq, Int.reduceToNat, reduceCtorEq, ↓reduceIte, h5.1]
    rw [if_neg (by omega)]
    exact (congrArg (mw _) hl).trans (mw_ov _ _ _ _ _ _)
theorem q_Rs_listsRinging {d : TD} {b : BD} {A : Nat → Nat} {σ : AM} {m : VM} (R : RQ d b A σ m) {n : Nat} (hn : n ≤ 64) : M_Rs_listsRinging (A 35) (iI (n : Int)) (ov 68 A m σ) = some (iI (cntN (nLf d b) (fun i => decide (pcl (xL d b i) = n)) : Int), (ov 68 A m σ)) := by
  have h5 := RQ_5 R
  have H := R.1
  have h := up_loop (fun k => L_Rs_listsRinging_1 (A 35) (iI (n : Int)) (iI (cntN k (fun i => decide (pcl (xL d b i) = n)) : Int)) (iI (k : Int)) (ov 68 A m σ)) (nLf d b) (some (iI (cntN (nLf d b) (fun i => decide (pcl (xL d b i) = n)) : Int), (ov 68 A m σ))) (fun k hk ih => by
    have hp : pcl (xL d b k) ≤ 64 := cntN_le _ _
    show L_Rs_listsRinging_1 _ _ _ _ _ = _
    replace ih : L_Rs_listsRinging_1 _ _ _ _ _ = _ := ih
    rw [cntN_s] at ih
    rw [E_Rs_listsRinging_1]; simp (disch := omega) only [E_Rs_listsRinging_2, l_1, cK_35 H, letT_eq, gd_true, bnd_some, aR_ov, aK_ov, aN_ov, okO_ov, aI_ov H.1, aL_ov H.1, sI_ov H.1, sL_ov H.1, sV_eq, sV_ne, sV_2, sW_eq, sW_ne, sW_1, iI_add, iI_sub, iI_mul, iI_neg, iI_lt, iI_eq, iI_cl, nI_iI, gd_in, bZ_0, bZ_1, bZ_eq, isB_bZ, isB_0, isB_1, nar_bZ, nar_0, nar_1, mw_ov, iI_s, iI_na, iI_nm, Int.toNat_natCast, Int.add_zero, Int.zero_add, Nat.reduceEqDiff, Nat.reduceAdd, Int.reduceAdd, Int.reduceNeg, Int.reduceSub, Int.reduceMul, Int.reduceLT, Int.reduceEq, Int.reduceToNat, reduceCtorEq, ↓reduceIte, h5.1, q_Rs_listAt R hk, q_JLong_bitCount]
    rw [if_pos (by omega)]
    by_cases e : pcl (xL d b k) = n
    · rw [if_pos (by omega)]; rw [decide_eq_true e] at ih; exact ih
    · rw [if_neg (by omega)]; rw [decide_eq_false e] at ih; exact ih) (by
    show L_Rs_listsRinging_1 _ _ _ _ _ = _
    rw [E_Rs_listsRinging_1]; simp (disch := omega) only [cK_35 H, okO_ov, aR_ov, gd_true, bnd_some, aI_ov H.1, iI_lt, h5.1]; rw [if_neg (by omega)]) 0 (Nat.zero_le _)
  unfold M_Rs_listsRinging
  rw [E_Rs_listsRinging_0]
  simp only [l_0]
  exact (congrArg (mw _) h).trans (mw_ov _ _ _ _ _ _)
def wRing (d : TD) (b : BD) (s n : Nat) : Nat := sumN n (fun i => if bt (xL d b i) s = true then sh d (lf d b i) else 0)
theorem wRing_le (d : TD) (b : BD) (s : Nat) : wRing d b s (nLf d b) ≤ wLf d b := by
  rw [wLf_eq]
  exact sumN_mono fun i _ => by split <;> omega
theorem q_Rs_weightsRinging {d : TD} {b : BD} {A : Nat → Nat} {σ : AM} {m : VM} (R : RQ d b A σ m) {s : Nat} (hs : s < 64) : M_Rs_weightsRinging (A 35) (iI (s : Int)) (ov 68 A m σ) = some (iI (wRing d b s (nLf d b) : Int), (ov 68 A m σ)) := by
  have h5 := RQ_5 R
  obtain ⟨H, hd, hD, hT, hv, hN, hz⟩ := id R
  have h := up_loop (fun k => L_Rs_weightsRinging_1 (A 35) (iI (s : Int)) (iI (wRing d b s k : Int)) (iI (k : Int)) (ov 68 A m σ)) (nLf d b) (some (iI (wRing d b s (nLf d b) : Int), (ov 68 A m σ))) (fun k hk ih => by
    show L_Rs_weightsRinging_1 _ _ _ _ _ = _
    have hr : m.1 38 k = iI (lf d b k : Int) := hv.2.2.2.2.1 k hk
    have hsh := q_Ls_share H hd hD hT (lf_lt hk)
    replace ih : L_Rs_weightsRinging_1 _ _ (iI ((wRing d b s k + if bt (xL d b k) s = true then sh d (lf d b k) else 0 : Nat) : Int)) _ _ = _ := ih
    rw [E_Rs_weightsRinging_1]; simp (disch := omega) only [E_Rs_weightsRinging_2, l_0, l_1, cK_35 H, cR_35_0 H, cK_17 H, cR_35_4 H, cK_38 H, letT_eq, gd_true, bnd_some, aR_ov, aK_ov, aN_ov, okO_ov, aI_ov H.1, aL_ov H.1, sI_ov H.1, sL_ov H.1, sV_eq, sV_ne, sV_2, sW_eq, sW_ne, sW_1, iI_add, iI_sub, iI_mul, iI_neg, iI_lt, iI_eq, iI_cl, nI_iI, gd_in, bZ_0, bZ_1, bZ_eq, isB_bZ, isB_0, isB_1, nar_bZ, nar_0, nar_1, mw_ov, iI_s, iI_na, iI_nm, Int.toNat_natCast, Int.add_zero, Int.zero_add, Nat.reduceEqDiff, Nat.reduceAdd, Int.reduceAdd, Int.reduceNeg, Int.reduceSub, Int.reduceMul, Int.reduceLT, Int.reduceEq, Int.reduceToNat, reduceCtorEq, ↓reduceIte, h5.1, q_Rs_listAt R hk, q_St_has (xL d b k) hs, hr, hsh]
    rw [if_pos (by omega)]
    cases q : bt (xL d b k) s
    · rw [q] at ih; exact ih
    · rw [q] at ih; exact ih) (by
    show L_Rs_weightsRinging_1 _ _ _ _ _ = _
    rw [E_Rs_weightsRinging_1]; simp (disch := omega) only [cK_35 H, okO_ov, aR_ov, gd_true, bnd_some, aI_ov H.1, iI_lt, h5.1]; rw [if_neg (by omega)]) 0 (Nat.zero_le _)
  unfold M_Rs_weightsRinging
  rw [E_Rs_weightsRinging_0]
  simp only [l_0]
  exact (congrArg (mw _) h).trans (mw_ov _ _ _ _ _ _)
def mnN (f : Nat → Nat) : Nat → Nat
  | 0 => 64
  | k + 1 => if f k < mnN f k then f k else mnN f k
def mxN (f : Nat → Nat) : Nat → Nat
  | 0 => 0
  | k + 1 => if mxN f k < f k then f k else mxN f k
theorem mnN_le (f : Nat → Nat) (k : Nat) : mnN f k ≤ 64 := by
  induction k with
  | zero => exact Nat.le_refl _
  | succ k ih => unfold mnN; split <;> omega
theorem mxN_le {f : Nat → Nat} (h : ∀ i, f i ≤ 64) (k : Nat) : mxN f k ≤ 64 := by
  induction k with
  | zero => exact Nat.zero_le _
  | succ k ih => unfold mxN; have := h k; split <;> omega
theorem pclx_le (d : TD) (b : BD) (i : Nat) : pcl (xL d b i) ≤ 64 := cntN_le _ _
theorem q_Rs_fewestRinging {d : TD} {b : BD} {A : Nat → Nat} {σ : AM} {m : VM} (R : RQ d b A σ m) : M_Rs_fewestRinging (A 35) (ov 68 A m σ) = some (iI (mnN (fun i => pcl (xL d b i)) (nLf d b) : Int), (ov 68 A m σ)) := by
  have h5 := RQ_5 R
  have H := R.1
  have h := up_loop (fun k => L_Rs_fewestRinging_1 (A 35) (iI (mnN (fun i => pcl (xL d b i)) k : Int)) (iI (k : Int)) (ov 68 A m σ)) (nLf d b) (some (iI (mnN (fun i => pcl (xL d b i)) (nLf d b) : Int), (ov 68 A m σ))) (fun k hk ih => by
    have hp := pclx_le d b k
    have hq := mnN_le (fun i => pcl (xL d b i)) k
    show L_Rs_fewestRinging_1 _ _ _ _ = _
    replace ih : L_Rs_fewestRinging_1 _ (iI ((if pcl (xL d b k) < mnN (fun i => pcl (xL d b i)) k then pcl (xL d b k) else mnN (fun i => pcl (xL d b i)) k : Nat) : Int)) _ _ = _ := ih
    rw [E_Rs_fewestRinging_1]; simp (disch := omega) only [l_1, cK_35 H, letT_eq, gd_true, bnd_some, aR_ov, aK_ov, aN_ov, okO_ov, aI_ov H.1, aL_ov H.1, sI_ov H.1, sL_ov H.1, sV_eq, sV_ne, sV_2, sW_eq, sW_ne, sW_1, iI_add, iI_sub, iI_mul, iI_neg, iI_lt, iI_eq, iI_cl, nI_iI, gd_in, bZ_0, bZ_1, bZ_eq, isB_bZ, isB_0, isB_1, nar_bZ, nar_0, nar_1, mw_ov, iI_s, iI_na, iI_nm, Int.toNat_natCast, Int.add_zero, Int.zero_add, Nat.reduceEqDiff, Nat.reduceAdd, Int.reduceAdd, Int.reduceNeg, Int.reduceSub, Int.reduceMul, Int.reduceLT, Int.reduceEq, Int.reduceToNat, reduceCtorEq, ↓reduceIte, h5.1, q_Rs_listAt R hk, q_JLong_bitCount, mnI_iI]
    rw [if_pos (by omega)]
    by_cases e : pcl (xL d b k) < mnN (fun i => pcl (xL d b i)) k
    · rw [if_pos (by omega)]; rw [if_pos e] at ih; exact ih
    · rw [if_neg (by omega)]; rw [if_neg e] at ih; exact ih) (by
    show L_Rs_fewestRinging_1 _ _ _ _ = _
    rw [E_Rs_fewestRinging_1]; simp (disch := omega) only [cK_35 H, okO_ov, aR_ov, gd_true, bnd_some, aI_ov H.1, iI_lt, h5.1]; rw [if_neg (by omega)]) 0 (Nat.zero_le _)
  unfold M_Rs_fewestRinging
  rw [E_Rs_fewestRinging_0]
  simp only [l_0, l_64]
  exact (congrArg (mw _) h).trans (mw_ov _ _ _ _ _ _)
theorem q_Rs_mostRinging {d : TD} {b : BD} {A : Nat → Nat} {σ : AM} {m : VM} (R : RQ d b A σ m) : M_Rs_mostRinging (A 35) (ov 68 A m σ) = some (iI (mxN (fun i => pcl (xL d b i)) (nLf d b) : Int), (ov 68 A m σ)) := by
  have h5 := RQ_5 R
  have H := R.1
  have h := up_loop (fun k => L_Rs_mostRinging_1 (A 35) (iI (mxN (fun i => pcl (xL d b i)) k : Int)) (iI (k : Int)) (ov 68 A m σ)) (nLf d b) (some (iI (mxN (fun i => pcl (xL d b i)) (nLf d b) : Int), (ov 68 A m σ))) (fun k hk ih => by
    have hp := pclx_le d b k
    have hq := mxN_le (fun i => pclx_le d b i) k
    show L_Rs_mostRinging_1 _ _ _ _ = _
    replace ih : L_Rs_mostRinging_1 _ (iI ((if mxN (fun i => pcl (xL d b i)) k < pcl (xL d b k) then pcl (xL d b k) else mxN (fun i => pcl (xL d b i)) k : Nat) : Int)) _ _ = _ := ih
    rw [E_Rs_mostRinging_1]; simp (disch := omega) only [l_1, cK_35 H, letT_eq, gd_true, bnd_some, aR_ov, aK_ov, aN_ov, okO_ov, aI_ov H.1, aL_ov H.1, sI_ov H.1, sL_ov H.1, sV_eq, sV_ne, sV_2, sW_eq, sW_ne, sW_1, iI_add, iI_sub, iI_mul, iI_neg, iI_lt, iI_eq, iI_cl, nI_iI, gd_in, bZ_0, bZ_1, bZ_eq, isB_bZ, isB_0, isB_1, nar_bZ, nar_0, nar_1, mw_ov, iI_s, iI_na, iI_nm, Int.toNat_natCast, Int.add_zero, Int.zero_add, Nat.reduceEqDiff, Nat.reduceAdd, Int.reduceAdd, Int.reduceNeg, Int.reduceSub, Int.reduceMul, Int.reduceLT, Int.reduceEq, Int.reduceToNat, reduceCtorEq, ↓reduceIte, h5.1, q_Rs_listAt R hk, q_JLong_bitCount, mxI_iI]
    rw [if_pos (by omega)]
    by_cases e : mxN (fun i => pcl (xL d b i)) k < pcl (xL d b k)
    · rw [if_pos (by omega)]; rw [if_pos e] at ih; exact ih
    · rw [if_neg (by omega)]; rw [if_neg e] at ih; exact ih) (by
    show L_Rs_mostRinging_1 _ _ _ _ = _
    rw [E_Rs_mostRinging_1]; simp (disch := omega) only [cK_35 H, okO_ov, aR_ov, gd_true, bnd_some, aI_ov H.1, iI_lt, h5.1]; rw [if_neg (by omega)]) 0 (Nat.zero_le _)
  unfold M_Rs_mostRinging
  rw [E_Rs_mostRinging_0]
  simp only [l_0]
  exact (congrArg (mw _) h).trans (mw_ov _ _ _ _ _ _)
