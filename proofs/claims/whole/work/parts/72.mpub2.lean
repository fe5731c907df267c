def ofN (f : Nat → Nat) (w k : Nat) : Int := if k = 0 then -1 else if w = 0 then (mnN f k : Int) else (mxN f k : Int)
theorem ofN_lo {f : Nat → Nat} (hf : ∀ i, f i ≤ 64) (w k : Nat) : -1 ≤ ofN f w k ∧ ofN f w k ≤ 64 := by
  unfold ofN
  have := mnN_le f k
  have := mxN_le hf k
  split
  · omega
  · split <;> omega
theorem ofN_1 {f : Nat → Nat} (hf : ∀ i, f i ≤ 64) (w : Nat) : ofN f w 1 = f 0 := by
  unfold ofN
  rw [if_neg (by omega)]
  have := hf 0
  split
  · unfold mnN mnN; split <;> omega
  · unfold mxN mxN; split <;> omega
theorem Md_often1 {d : TD} {b : BD} {A : Nat → Nat} {σ : AM} {m : VM} (M : MS0 d b A σ m) (l : LeftM d b m) {w : Nat} (hw : w ≤ 1) (k : Nat) (hk : k < nLf d b) : L_Md_often_1 (A 0) (iI (w : Int)) (iI (ofN (fun i => pcl (xL d b i)) w k)) (iI (k : Int)) (ov 40 A m σ) = L_Md_often_1 (A 0) (iI (w : Int)) (iI (ofN (fun i => pcl (xL d b i)) w (k + 1))) (iI ((k + 1 : Nat) : Int)) (ov 40 A m σ) := by
  have H := M.1
  have h5 := Lf_5 M l
  obtain ⟨x1, x2, x3, x4⟩ := Lf_x M l hk
  have hq := q_Md_ringCount M.1 M.2.1 M.2.2.1 (xL_low M.2.1 b k)
  have hp := pclx_le d b k
  have hlo := ofN_lo (fun i => pclx_le d b i) w k
  by_cases e0 : k = 0
  · subst e0
    rw [ofN_1 (fun i => pclx_le d b i)]
    have e1 : ofN (fun i => pcl (xL d b i)) w 0 = -1 := rfl
    rw [e1]
    rw [E_Md_often_1]; simp (disch := omega) only [E_Md_often_2, E_Md_often_3, E_Md_often_4, E_Md_often_5, l_0, l_1, mK_0 H, mR_30 H, mK_14 H, mN_14 H, mR_45 H, mK_25 H, mN_25 H, letT_eq, gd_true, bnd_some, aR_ov, aK_ov, aN_ov, okO_ov, aI_ov H.1, aL_ov H.1, sI_ov H.1, sL_ov H.1, sV_eq, sV_ne, sV_2, sW_eq, sW_ne, sW_1, iI_add, iI_sub, iI_mul, iI_neg, iI_lt, iI_eq, iI_cl, nI_iI, gd_in, bZ_0, bZ_1, bZ_eq, isB_bZ, isB_0, isB_1, nar_bZ, nar_0, nar_1, mw_ov, iI_s, iI_na, iI_nm, Int.toNat_natCast, Int.add_zero, Int.zero_add, Nat.reduceEqDiff, Nat.reduceAdd, Int.reduceAdd, Int.reduceNeg, Int.reduceSub, Int.reduceMul, Int.reduceLT, Int.reduceEq, Int.reduceToNat, reduceCtorEq, ↓reduceIte, h5.1, x1, x3, hq]
    rw [if_pos (by omega)]
  · generalize hv : ofN (fun i => pcl (xL d b i)) w k = v at *
    by_cases ew : w = 0
    · subst ew
      have ev : v = (mnN (fun i => pcl (xL d b i)) k : Int) := by rw [← hv]; unfold ofN; rw [if_neg e0, if_pos rfl]
      have e2 : ofN (fun i => pcl (xL d b i)) 0 (k + 1) = if (pcl (xL d b k) : Int) < v then (pcl (xL d b k) : Int) else v := by
        have hs : mnN (fun i => pcl (xL d b i)) (k + 1) = if pcl (xL d b k) < mnN (fun i => pcl (xL d b i)) k then pcl (xL d b k) else mnN (fun i => pcl (xL d b i)) k := rfl
        unfold ofN; rw [if_neg (by omega), if_pos rfl, ev, hs]
        by_cases c : pcl (xL d b k) < mnN (fun i => pcl (xL d b i)) k
        · rw [if_pos c, if_pos (by omega)]
        · rw [if_neg c, if_neg (by omega)]
      rw [e2]
      rw [E_Md_often_1]; simp (disch := omega) only [E_Md_often_2, E_Md_often_3, E_Md_often_4, E_Md_often_5, l_0, l_1, mK_0 H, mR_30 H, mK_14 H, mN_14 H, mR_45 H, mK_25 H, mN_25 H, letT_eq, gd_true, bnd_some, aR_ov, aK_ov, aN_ov, okO_ov, aI_ov H.1, aL_ov H.1, sI_ov H.1, sL_ov H.1, sV_eq, sV_ne, sV_2, sW_eq, sW_ne, sW_1, iI_add, iI_sub, iI_mul, iI_neg, iI_lt, iI_eq, iI_cl, nI_iI, gd_in, bZ_0, bZ_1, bZ_eq, isB_bZ, isB_0, isB_1, nar_bZ, nar_0, nar_1, mw_ov, iI_s, iI_na, iI_nm, Int.toNat_natCast, Int.add_zero, Int.zero_add, Nat.reduceEqDiff, Nat.reduceAdd, Int.reduceAdd, Int.reduceNeg, Int.reduceSub, Int.reduceMul, Int.reduceLT, Int.reduceEq, Int.reduceToNat, reduceCtorEq, ↓reduceIte, h5.1, x1, x3, hq]
      rw [if_pos (show (k : Int) < (nLf d b : Int) by omega), if_neg (show ¬ v < 0 by omega)]
      by_cases c : (pcl (xL d b k) : Int) < v
      · simp only [if_pos c]
        rfl
      · simp only [if_neg c]
        rfl
    · obtain rfl : w = 1 := by omega
      have ev : v = (mxN (fun i => pcl (xL d b i)) k : Int) := by rw [← hv]; unfold ofN; rw [if_neg e0, if_neg (by omega)]
      have e2 : ofN (fun i => pcl (xL d b i)) 1 (k + 1) = if v < (pcl (xL d b k) : Int) then (pcl (xL d b k) : Int) else v := by
        have hs : mxN (fun i => pcl (xL d b i)) (k + 1) = if mxN (fun i => pcl (xL d b i)) k < pcl (xL d b k) then pcl (xL d b k) else mxN (fun i => pcl (xL d b i)) k := rfl
        unfold ofN; rw [if_neg (by omega), if_neg (by omega), ev, hs]
        by_cases c : mxN (fun i => pcl (xL d b i)) k < pcl (xL d b k)
        · rw [if_pos c, if_pos (by omega)]
        · rw [if_neg c, if_neg (by omega)]
      rw [e2]
      rw [E_Md_often_1]; simp (disch := omega) only [E_Md_often_2, E_Md_often_3, E_Md_often_4, E_Md_often_5, l_0, l_1, mK_0 H, mR_30 H, mK_14 H, mN_14 H, mR_45 H, mK_25 H, mN_25 H, letT_eq, gd_true, bnd_some, aR_ov, aK_ov, aN_ov, okO_ov, aI_ov H.1, aL_ov H.1, sI_ov H.1, sL_ov H.1, sV_eq, sV_ne, sV_2, sW_eq, sW_ne, sW_1, iI_add, iI_sub, iI_mul, iI_neg, iI_lt, iI_eq, iI_cl, nI_iI, gd_in, bZ_0, bZ_1, bZ_eq, isB_bZ, isB_0, isB_1, nar_bZ, nar_0, nar_1, mw_ov, iI_s, iI_na, iI_nm, Int.toNat_natCast, Int.add_zero, Int.zero_add, Nat.reduceEqDiff, Nat.reduceAdd, Int.reduceAdd, Int.reduceNeg, Int.reduceSub, Int.reduceMul, Int.reduceLT, Int.reduceEq, Int.reduceToNat, reduceCtorEq, ↓reduceIte, h5.1, x1, x3, hq]
      rw [if_pos (show (k : Int) < (nLf d b : Int) by omega), if_neg (show ¬ v < 0 by omega)]
      by_cases c : v < (pcl (xL d b k) : Int)
      · simp only [if_pos c]
        rfl
      · simp only [if_neg c]
        rfl
theorem m_often {d : TD} {b : BD} {A : Nat → Nat} {σ : AM} {m : VM} (M : MS0 d b A σ m) {a : Int} (h1 : -2147483648 ≤ a) (h2 : a < 2147483648) : Mf A σ m (M_Md_often (A 0) (iI a) (ov 40 A m σ)) (iI (oftenS d b a)) := by
  have H := M.1
  have hwi := q_Md_isWhat (a := a) (ov 40 A (sV m 0 0 (iI 0)) σ) h1 h2
  by_cases q : 0 ≤ a ∧ a ≤ 1
  · obtain ⟨m', e, k, l, M'⟩ := p_findL M
    refine ⟨m', ?_, k⟩
    rw [decide_eq_true q] at hwi
    obtain ⟨n, rfl⟩ := Int.eq_ofNat_of_zero_le q.1
    have h5 := Lf_5 M' l
    have hl := up_loop (fun k => L_Md_often_1 (A 0) (iI (n : Int)) (iI (ofN (fun i => pcl (xL d b i)) n k)) (iI (k : Int)) (ov 40 A (m') σ)) (nLf d b) (some (iI (ofN (fun i => pcl (xL d b i)) n (nLf d b)), (ov 40 A (m') σ))) (fun k hk ih => (Md_often1 M' l (by omega) k hk).trans ih) (by
      show L_Md_often_1 _ _ _ _ _ = _
      rw [E_Md_often_1]; simp (disch := omega) only [mK_0 H, okO_ov, aR_ov, gd_true, bnd_some, aI_ov H.1, iI_lt, h5.1]; rw [if_neg (by omega)]) 0 (Nat.zero_le _)
    replace hl : L_Md_often_1 (A 0) (iI (n : Int)) (iI (-1)) (iI 0) (ov 40 A (m') σ) = _ := hl
    unfold M_Md_often
    rw [E_Md_often_0]; simp (disch := omega) only [l_0, l_1, mK_0 H, letT_eq, gd_true, bnd_some, aR_ov, aK_ov, aN_ov, okO_ov, aI_ov H.1, aL_ov H.1, sI_ov H.1, sL_ov H.1, sV_eq, sV_ne, sV_2, sW_eq, sW_ne, sW_1, iI_add, iI_sub, iI_mul, iI_neg, iI_lt, iI_eq, iI_cl, nI_iI, gd_in, bZ_0, bZ_1, bZ_eq, isB_bZ, isB_0, isB_1, nar_bZ, nar_0, nar_1, mw_ov, iI_s, iI_na, iI_nm, Int.toNat_natCast, Int.add_zero, Int.zero_add, Nat.reduceEqDiff, Nat.reduceAdd, Int.reduceAdd, Int.reduceNeg, Int.reduceSub, Int.reduceMul, Int.reduceLT, Int.reduceEq, Int.reduceToNat, reduceCtorEq, ↓reduceIte, hwi, e, hl]
    by_cases q0 : nLf d b = 0
    · rw [ofN, if_pos q0, oftenS, if_neg (fun z => z.2 q0)]
    · by_cases q1 : n = 0
      · rw [ofN, if_neg q0, if_pos q1, oftenS, if_pos (show (0 ≤ (n : Int) ∧ (n : Int) ≤ 1) ∧ nLf d b ≠ 0 from ⟨q, q0⟩), if_pos (show (n : Int) = 0 by omega)]
      · rw [ofN, if_neg q0, if_neg q1, oftenS, if_pos (show (0 ≤ (n : Int) ∧ (n : Int) ≤ 1) ∧ nLf d b ≠ 0 from ⟨q, q0⟩), if_neg (show ¬ (n : Int) = 0 by omega)]
  · rw [decide_eq_false q] at hwi
    refine ⟨_, ?_, KM_0 m⟩
    unfold M_Md_often
    rw [E_Md_often_0]; simp (disch := omega) only [l_0, l_1, mK_0 H, letT_eq, gd_true, bnd_some, aR_ov, aK_ov, aN_ov, okO_ov, aI_ov H.1, aL_ov H.1, sI_ov H.1, sL_ov H.1, sV_eq, sV_ne, sV_2, sW_eq, sW_ne, sW_1, iI_add, iI_sub, iI_mul, iI_neg, iI_lt, iI_eq, iI_cl, nI_iI, gd_in, bZ_0, bZ_1, bZ_eq, isB_bZ, isB_0, isB_1, nar_bZ, nar_0, nar_1, mw_ov, iI_s, iI_na, iI_nm, Int.toNat_natCast, Int.add_zero, Int.zero_add, Nat.reduceEqDiff, Nat.reduceAdd, Int.reduceAdd, Int.reduceNeg, Int.reduceSub, Int.reduceMul, Int.reduceLT, Int.reduceEq, Int.reduceToNat, reduceCtorEq, ↓reduceIte, hwi]
    rw [oftenS, if_neg (fun z => q z.1)]
theorem Md_ringsL {d : TD} {b : BD} {A : Nat → Nat} {σ : AM} {m : VM} (M : MS0 d b A σ m) (l : LeftM d b m) {n : Nat} (hn : n ≤ 64) : L_Md_rings_1 (A 0) (iI (n : Int)) (iI ((0 : Nat) : Int)) (iI ((0 : Nat) : Int)) (ov 40 A m σ) = some (iI (cntN (nLf d b) (fun i => decide (pcl (xL d b i) = n)) : Int), (ov 40 A m σ)) := by
  have H := M.1
  have h5 := Lf_5 M l
  exact up_loop (fun k => L_Md_rings_1 (A 0) (iI (n : Int)) (iI (cntN k (fun i => decide (pcl (xL d b i) = n)) : Int)) (iI (k : Int)) (ov 40 A m σ)) (nLf d b) (some (iI (cntN (nLf d b) (fun i => decide (pcl (xL d b i) = n)) : Int), (ov 40 A m σ))) (fun k hk ih => by
    obtain ⟨x1, x2, x3, x4⟩ := Lf_x M l hk
    have hq := q_Md_ringCount M.1 M.2.1 M.2.2.1 (xL_low M.2.1 b k)
    have hp := pclx_le d b k
    show L_Md_rings_1 _ _ _ _ _ = _
    replace ih : L_Md_rings_1 _ _ _ _ _ = _ := ih
    rw [cntN_s] at ih
    rw [E_Md_rings_1]; simp (disch := omega) only [E_Md_rings_2, l_0, l_1, mK_0 H, mR_30 H, mK_14 H, mN_14 H, mR_45 H, mK_25 H, mN_25 H, letT_eq, gd_true, bnd_some, aR_ov, aK_ov, aN_ov, okO_ov, aI_ov H.1, aL_ov H.1, sI_ov H.1, sL_ov H.1, sV_eq, sV_ne, sV_2, sW_eq, sW_ne, sW_1, iI_add, iI_sub, iI_mul, iI_neg, iI_lt, iI_eq, iI_cl, nI_iI, gd_in, bZ_0, bZ_1, bZ_eq, isB_bZ, isB_0, isB_1, nar_bZ, nar_0, nar_1, mw_ov, iI_s, iI_na, iI_nm, Int.toNat_natCast, Int.add_zero, Int.zero_add, Nat.reduceEqDiff, Nat.reduceAdd, Int.reduceAdd, Int.reduceNeg, Int.reduceSub, Int.reduceMul, Int.reduceLT, Int.reduceEq, Int.reduceToNat, reduceCtorEq, ↓reduceIte, h5.1, x1, x3, hq]
    rw [if_pos (by omega)]
    by_cases c : pcl (xL d b k) = n
    · rw [if_pos (by omega)]; rw [decide_eq_true c] at ih; exact ih
    · rw [if_neg (by omega)]; rw [decide_eq_false c] at ih; exact ih) (by
    show L_Md_rings_1 _ _ _ _ _ = _
    rw [E_Md_rings_1]; simp (disch := omega) only [mK_0 H, okO_ov, aR_ov, gd_true, bnd_some, aI_ov H.1, iI_lt, h5.1]; rw [if_neg (by omega)]) 0 (Nat.zero_le _)
theorem m_rings {d : TD} {b : BD} {A : Nat → Nat} {σ : AM} {m : VM} (M : MS0 d b A σ m) {a : Int} (h1 : -2147483648 ≤ a) (h2 : a < 2147483648) : Mf A σ m (M_Md_rings (A 0) (iI a) (ov 40 A m σ)) (iI (ringsS d b a)) := by
  have H := M.1
  have hwi := q_Md_within (a := a) (l := 0) (h := 64) (ov 40 A (sV m 0 0 (iI 0)) σ) h1 h2 (by omega) (by omega) (by omega) (by omega)
  by_cases q : 0 ≤ a ∧ a ≤ 64
  · obtain ⟨m', e, k, l, M'⟩ := p_findL M
    refine ⟨m', ?_, k⟩
    rw [decide_eq_true q] at hwi
    obtain ⟨n, rfl⟩ := Int.eq_ofNat_of_zero_le q.1
    have hl := Md_ringsL M' l (n := n) (by omega)
    replace hl : L_Md_rings_1 (A 0) (iI (n : Int)) (iI 0) (iI 0) (ov 40 A (m') σ) = _ := hl
    unfold M_Md_rings
    rw [E_Md_rings_0]; simp (disch := omega) only [l_0, l_1, l_64, mK_0 H, letT_eq, gd_true, bnd_some, aR_ov, aK_ov, aN_ov, okO_ov, aI_ov H.1, aL_ov H.1, sI_ov H.1, sL_ov H.1, sV_eq, sV_ne, sV_2, sW_eq, sW_ne, sW_1, iI_add, iI_sub, iI_mul, iI_neg, iI_lt, iI_eq, iI_cl, nI_iI, gd_in, bZ_0, bZ_1, bZ_eq, isB_bZ, isB_0, isB_1, nar_bZ, nar_0, nar_1, mw_ov, iI_s, iI_na, iI_nm, Int.toNat_natCast, Int.add_zero, Int.zero_add, Nat.reduceEqDiff, Nat.reduceAdd, Int.reduceAdd, Int.reduceNeg, Int.reduceSub, Int.reduceMul, Int.reduceLT, Int.reduceEq, Int.reduceToNat, reduceCtorEq, ↓reduceIte, hwi, e, hl]
    rw [ringsS, if_pos q]; rfl
  · rw [decide_eq_false q] at hwi
    refine ⟨_, ?_, KM_0 m⟩
    unfold M_Md_rings
    rw [E_Md_rings_0]; simp (disch := omega) only [l_0, l_1, l_64, mK_0 H, letT_eq, gd_true, bnd_some, aR_ov, aK_ov, aN_ov, okO_ov, aI_ov H.1, aL_ov H.1, sI_ov H.1, sL_ov H.1, sV_eq, sV_ne, sV_2, sW_eq, sW_ne, sW_1, iI_add, iI_sub, iI_mul, iI_neg, iI_lt, iI_eq, iI_cl, nI_iI, gd_in, bZ_0, bZ_1, bZ_eq, isB_bZ, isB_0, isB_1, nar_bZ, nar_0, nar_1, mw_ov, iI_s, iI_na, iI_nm, Int.toNat_natCast, Int.add_zero, Int.zero_add, Nat.reduceEqDiff, Nat.reduceAdd, Int.reduceAdd, Int.reduceNeg, Int.reduceSub, Int.reduceMul, Int.reduceLT, Int.reduceEq, Int.reduceToNat, reduceCtorEq, ↓reduceIte, hwi]
    rw [ringsS, if_neg q]
theorem Md_oddsX {d : TD} {b : BD} {A : Nat → Nat} {σ : AM} {m : VM} (M : MS0 d b A σ m) (l : LeftM d b m) (n : Nat) {w : Nat} (hw : w ≤ 1) {c : Nat} (hc : c ≤ 16384) : L_Md_odds_2 (A 0) (iI (n : Int)) (iI (w : Int)) (jI (c : Int)) (iI (nLf d b : Int)) (ov 40 A m σ) = some (iI (if nLf d b = 0 then -1 else (lowS c (wLf d b) w : Int)), (ov 40 A m σ)) := by
  have H := M.1
  have h5 := Lf_5 M l
  have h47 := l.2.2.2.1
  have hwl := wLf_le d b
  have h0 := wLf_0 d b
  rw [E_Md_odds_2]
  by_cases q : wLf d b = 0
  · simp (disch := omega) only [E_Md_odds_4, mK_0 H, okO_ov, gd_true, aI_ov H.1, h5.1, h47, iI_lt, iI_eq, l_0, l_1, iI_neg]
    rw [if_neg (by omega), if_pos (by omega), if_pos (h0.mp q)]
  · simp (disch := omega) only [E_Md_odds_4, mK_0 H, okO_ov, gd_true, aI_ov H.1, h5.1, h47, iI_lt, iI_eq, l_0, l_1, iI_neg, iI_j, q_Md_lowest, bnd_some]
    rw [if_neg (by omega), if_neg (by omega), if_neg (fun z => q (h0.mpr z))]
theorem Md_oddsL {d : TD} {b : BD} {A : Nat → Nat} {σ : AM} {m : VM} (M : MS0 d b A σ m) (l : LeftM d b m) {n : Nat} (hn : n < 64) {w : Nat} (hw : w ≤ 1) : L_Md_odds_2 (A 0) (iI (n : Int)) (iI (w : Int)) (jI ((0 : Nat) : Int)) (iI ((0 : Nat) : Int)) (ov 40 A m σ) = some (iI (if nLf d b = 0 then -1 else (lowS (wRing d b n (nLf d b)) (wLf d b) w : Int)), (ov 40 A m σ)) := by
  have H := M.1
  have h5 := Lf_5 M l
  have hwl := wLf_le d b
  have hr := wRing_le d b n
  exact up_loop (fun k => L_Md_odds_2 (A 0) (iI (n : Int)) (iI (w : Int)) (jI (wRing d b n k : Int)) (iI (k : Int)) (ov 40 A m σ)) (nLf d b) (some (iI (if nLf d b = 0 then -1 else (lowS (wRing d b n (nLf d b)) (wLf d b) w : Int)), (ov 40 A m σ))) (fun k hk ih => by
    obtain ⟨x1, x2, x3, x4⟩ := Lf_x M l hk
    have hsh := sh_le d (lf d b k)
    show L_Md_odds_2 _ _ _ _ _ _ = _
    replace ih : L_Md_odds_2 _ _ _ (jI ((wRing d b n k + if bt (xL d b k) n = true then sh d (lf d b k) else 0 : Nat) : Int)) _ _ = _ := ih
    rw [E_Md_odds_2]; simp (disch := omega) only [E_Md_odds_3, E_Md_odds_4, l_0, l_1, mK_0 H, mR_30 H, mK_14 H, mN_14 H, mR_31 H, mK_15 H, mN_15 H, mR_45 H, mK_25 H, mN_25 H, letT_eq, gd_true, bnd_some, aR_ov, aK_ov, aN_ov, okO_ov, aI_ov H.1, aL_ov H.1, sI_ov H.1, sL_ov H.1, sV_eq, sV_ne, sV_2, sW_eq, sW_ne, sW_1, iI_add, iI_sub, iI_mul, iI_neg, iI_lt, iI_eq, iI_cl, nI_iI, gd_in, bZ_0, bZ_1, bZ_eq, isB_bZ, isB_0, isB_1, nar_bZ, nar_0, nar_1, mw_ov, iI_s, iI_na, iI_nm, Int.toNat_natCast, Int.add_zero, Int.zero_add, Nat.reduceEqDiff, Nat.reduceAdd, Int.reduceAdd, Int.reduceNeg, Int.reduceSub, Int.reduceMul, Int.reduceLT, Int.reduceEq, Int.reduceToNat, reduceCtorEq, ↓reduceIte, h5.1, x1, x3, x4, q_Md_doesRing (xL d b k) hn, iI_j, j_0, jI_add]
    rw [if_pos (by omega)]
    cases c : bt (xL d b k) n
    · rw [c] at ih; exact ih
    · rw [c] at ih; exact ih) (Md_oddsX M l n hw (by omega)) 0 (Nat.zero_le _)
theorem m_odds {d : TD} {b : BD} {A : Nat → Nat} {σ : AM} {m : VM} (M : MS0 d b A σ m) {a c : Int} (h1 : -2147483648 ≤ a) (h2 : a < 2147483648) (h3 : -2147483648 ≤ c) (h4 : c < 2147483648) : Mf A σ m (M_Md_odds (A 0) (iI a) (iI c) (ov 40 A m σ)) (iI (oddsS d b a c)) := by
  have H := M.1
  have hs := q_Md_isSet H M.2.1 (MT_K (KM_0 m) M.2.2.1) h1 h2
  have hN := sN_le M.2.1
  have hwi := q_Md_isWhat (a := c) (ov 40 A (sV m 0 0 (iI 0)) σ) h3 h4
  by_cases q : 0 ≤ a ∧ a < (sN d : Int)
  · rw [decide_eq_true q] at hs
    by_cases q2 : 0 ≤ c ∧ c ≤ 1
    · rw [decide_eq_true q2] at hwi
      obtain ⟨n, rfl⟩ := Int.eq_ofNat_of_zero_le q.1
      obtain ⟨w, rfl⟩ := Int.eq_ofNat_of_zero_le q2.1
      obtain ⟨m', e, k, l, M'⟩ := p_findL M
      refine ⟨m', ?_, k⟩
      have hl := Md_oddsL M' l (n := n) (by omega) (w := w) (by omega)
      replace hl : L_Md_odds_2 (A 0) (iI (n : Int)) (iI (w : Int)) 0 (iI 0) (ov 40 A (m') σ) = _ := hl
      unfold M_Md_odds
      rw [E_Md_odds_0]; simp (disch := omega) only [E_Md_odds_1, l_0, l_1, mK_0 H, letT_eq, gd_true, bnd_some, aR_ov, aK_ov, aN_ov, okO_ov, aI_ov H.1, aL_ov H.1, sI_ov H.1, sL_ov H.1, sV_eq, sV_ne, sV_2, sW_eq, sW_ne, sW_1, iI_add, iI_sub, iI_mul, iI_neg, iI_lt, iI_eq, iI_cl, nI_iI, gd_in, bZ_0, bZ_1, bZ_eq, isB_bZ, isB_0, isB_1, nar_bZ, nar_0, nar_1, mw_ov, iI_s, iI_na, iI_nm, Int.toNat_natCast, Int.add_zero, Int.zero_add, Nat.reduceEqDiff, Nat.reduceAdd, Int.reduceAdd, Int.reduceNeg, Int.reduceSub, Int.reduceMul, Int.reduceLT, Int.reduceEq, Int.reduceToNat, reduceCtorEq, ↓reduceIte, hs, hwi, e, hl]
      unfold oddsS
      by_cases q0 : nLf d b = 0
      · rw [if_pos q0, if_neg (fun z => z.2.2 q0)]
      · rw [if_neg q0, if_pos ⟨q, q2, q0⟩]; rfl
    · rw [decide_eq_false q2] at hwi
      refine ⟨_, ?_, KM_0 m⟩
      unfold M_Md_odds
      rw [E_Md_odds_0]; simp (disch := omega) only [E_Md_odds_1, l_0, l_1, mK_0 H, letT_eq, gd_true, bnd_some, aR_ov, aK_ov, aN_ov, okO_ov, aI_ov H.1, aL_ov H.1, sI_ov H.1, sL_ov H.1, sV_eq, sV_ne, sV_2, sW_eq, sW_ne, sW_1, iI_add, iI_sub, iI_mul, iI_neg, iI_lt, iI_eq, iI_cl, nI_iI, gd_in, bZ_0, bZ_1, bZ_eq, isB_bZ, isB_0, isB_1, nar_bZ, nar_0, nar_1, mw_ov, iI_s, iI_na, iI_nm, Int.toNat_natCast, Int.add_zero, Int.zero_add, Nat.reduceEqDiff, Nat.reduceAdd, Int.reduceAdd, Int.reduceNeg, Int.reduceSub, Int.reduceMul, Int.reduceLT, Int.reduceEq, Int.reduceToNat, reduceCtorEq, ↓reduceIte, hs, hwi]
      rw [oddsS, if_neg (fun z => q2 z.2.1)]
  · rw [decide_eq_false q] at hs
    refine ⟨_, ?_, KM_0 m⟩
    unfold M_Md_odds
    rw [E_Md_odds_0]; simp (disch := omega) only [E_Md_odds_1, l_0, l_1, mK_0 H, letT_eq, gd_true, bnd_some, aR_ov, aK_ov, aN_ov, okO_ov, aI_ov H.1, aL_ov H.1, sI_ov H.1, sL_ov H.1, sV_eq, sV_ne, sV_2, sW_eq, sW_ne, sW_1, iI_add, iI_sub, iI_mul, iI_neg, iI_lt, iI_eq, iI_cl, nI_iI, gd_in, bZ_0, bZ_1, bZ_eq, isB_bZ, isB_0, isB_1, nar_bZ, nar_0, nar_1, mw_ov, iI_s, iI_na, iI_nm, Int.toNat_natCast, Int.add_zero, Int.zero_add, Nat.reduceEqDiff, Nat.reduceAdd, Int.reduceAdd, Int.reduceNeg, Int.reduceSub, Int.reduceMul, Int.reduceLT, Int.reduceEq, Int.reduceToNat, reduceCtorEq, ↓reduceIte, hs]
    rw [oddsS, if_neg (fun z => q z.1)]
/-! guess -/
theorem Md_guess2 {A : Nat → Nat} {σ : AM} (H : LM A σ) {m : VM} (t w : Int32) : L_Md_guess_2 (A 0) t w (iI 0) (ov 40 A m σ) = L_Md_guess_3 (A 0) t w (iI 0) (ov 40 A (fillV m 35 10 (iI 0)) σ) := by
  have h := up_loop (fun k => L_Md_guess_2 (A 0) t w (iI (k : Int)) (ov 40 A (fillV m 35 k (iI 0)) σ)) 10 (L_Md_guess_3 (A 0) t w (iI 0) (ov 40 A (fillV m 35 10 (iI 0)) σ)) (fun k hk ih => by
    show L_Md_guess_2 _ _ _ _ _ = _
    rw [E_Md_guess_2]; simp (disch := omega) only [l_0, l_1, l_10, mK_0 H, mR_69 H, mK_35 H, mN_35 H, letT_eq, gd_true, bnd_some, aR_ov, aK_ov, aN_ov, okO_ov, aI_ov H.1, aL_ov H.1, sI_ov H.1, sL_ov H.1, sV_eq, sV_ne, sV_2, sW_eq, sW_ne, sW_1, iI_add, iI_sub, iI_mul, iI_neg, iI_lt, iI_eq, iI_cl, nI_iI, gd_in, bZ_0, bZ_1, bZ_eq, isB_bZ, isB_0, isB_1, nar_bZ, nar_0, nar_1, mw_ov, iI_s, iI_na, iI_nm, Int.toNat_natCast, Int.add_zero, Int.zero_add, Nat.reduceEqDiff, Nat.reduceAdd, Int.reduceAdd, Int.reduceNeg, Int.reduceSub, Int.reduceMul, Int.reduceLT, Int.reduceEq, Int.reduceToNat, reduceCtorEq, ↓reduceIte, fillV_s]
    rw [if_pos (by omega)]
    exact ih) (by
    show L_Md_guess_2 _ _ _ _ _ = _
    rw [E_Md_guess_2]
    simp (disch := omega) only [l_10, l_0, iI_lt]
    rw [if_neg (by omega)]) 0 (Nat.zero_le _)
  replace h : L_Md_guess_2 (A 0) t w (iI 0) (ov 40 A (fillV m 35 0 (iI 0)) σ) = _ := h
  rw [fillV_0] at h
  exact h
theorem KM_fV {m m' : VM} (h : KM m m') {c : Nat} (n : Nat) (v : Int32) (hc : (decide (c ∈ persC) || decide (c = 0)) = false) : KM m (fillV m' c n v) := by
  rw [Bool.or_eq_false_iff, decide_eq_false_iff_not, decide_eq_false_iff_not] at hc
  refine ⟨fun i hi => ?_, fun i hi => ?_, h.2.2⟩
  · rw [← h.1 i hi, fillV_ne _ _ _ _ (fun e => hc.2 e.symm)]
  · rw [← h.2.1 i hi, fillV_ne _ _ _ _ (fun e => hc.1 (by rw [← e]; exact hi))]
def gsI (d : TD) (b : BD) (t : Nat) (m0 : VM) (k : Nat) (m : VM) : Prop := KM m0 m ∧ m.2 0 40 = must b ∧ m.2 0 41 = mustN b ∧ ∀ v, v < 10 → m.1 35 v = iI (talN d b t v k : Int)
theorem Md_guess3 {d : TD} {b : BD} {A : Nat → Nat} {σ : AM} {m0 m : VM} (M : MS0 d b A σ m0) {t : Nat} (ht : t < dT d) (w : Int32) (k : Nat) (hk : k < dW d) (hI : gsI d b t m0 k m) : ∃ m' : VM, gsI d b t m0 (k + 1) m' ∧ L_Md_guess_3 (A 0) (iI (t : Int)) w (iI (k : Int)) (ov 40 A m σ) = L_Md_guess_3 (A 0) (iI (t : Int)) w (iI ((k + 1 : Nat) : Int)) (ov 40 A (m') σ) := by
  obtain ⟨i1, i2, i3, i4⟩ := hI
  have M1 := MS0_K i1 M
  have H := M1.1
  have hT6 := M1.2.1.1
  have hW := M1.2.1.2.2.2.2.2.2
  have hq := q_Md_isLeft M1 i2 i3 hk
  have h26 := M1.2.2.1.1.2.2.2.2.1
  cases q : lfW d b k
  · rw [q] at hq
    refine ⟨m, ⟨i1, i2, i3, fun v hv => ?_⟩, ?_⟩
    · rw [i4 v hv]; unfold talN; rw [cntN_s, q]; simp
    · rw [E_Md_guess_3]; simp (disch := omega) only [E_Md_guess_4, l_0, l_1, mK_0 H, mR_34 H, mK_18 H, mN_18 H, mR_69 H, mK_35 H, mN_35 H, letT_eq, gd_true, bnd_some, aR_ov, aK_ov, aN_ov, okO_ov, aI_ov H.1, aL_ov H.1, sI_ov H.1, sL_ov H.1, sV_eq, sV_ne, sV_2, sW_eq, sW_ne, sW_1, iI_add, iI_sub, iI_mul, iI_neg, iI_lt, iI_eq, iI_cl, nI_iI, gd_in, bZ_0, bZ_1, bZ_eq, isB_bZ, isB_0, isB_1, nar_bZ, nar_0, nar_1, mw_ov, iI_s, iI_na, iI_nm, Int.toNat_natCast, Int.add_zero, Int.zero_add, Nat.reduceEqDiff, Nat.reduceAdd, Int.reduceAdd, Int.reduceNeg, Int.reduceSub, Int.reduceMul, Int.reduceLT, Int.reduceEq, Int.reduceToNat, reduceCtorEq, ↓reduceIte, h26, hq]
      rw [if_pos (by omega)]
  · rw [q] at hq
    obtain ⟨m2, e2, j1, j2, j3⟩ := p_Md_unpacks H M1.2.1 M1.2.2.1.1.1 M1.2.2.1.1.2.1 (w := k) (by omega)
    have hdg := dg_lt M1.2.1 k t
    have e18 := j2 t ht
    have e35 : m2.1 35 (dg d k t) = iI (talN d b t (dg d k t) k : Int) := by rw [j1.1 35 (by decide) (by decide)]; exact i4 _ hdg
    refine ⟨sV m2 35 (dg d k t) (iI ((talN d b t (dg d k t) k + 1 : Nat) : Int)), ⟨KM_A (KM_t i1 (OnW_KM j1)) _ _ (by decide), ?_, ?_, fun v hv => ?_⟩, ?_⟩
    · rw [sV_2, j1.2]; exact i2
    · rw [sV_2, j1.2]; exact i3
    · rw [sV_eq]
      unfold talN
      rw [cntN_s, q]
      by_cases e : v = dg d k t
      · rw [if_pos e, e, decide_eq_true rfl]; rfl
      · rw [if_neg e, j1.1 35 (by decide) (by decide), i4 v hv, decide_eq_false (fun z => e z.symm)]; rfl
    · rw [E_Md_guess_3]; simp (disch := omega) only [E_Md_guess_4, l_0, l_1, mK_0 H, mR_34 H, mK_18 H, mN_18 H, mR_69 H, mK_35 H, mN_35 H, letT_eq, gd_true, bnd_some, aR_ov, aK_ov, aN_ov, okO_ov, aI_ov H.1, aL_ov H.1, sI_ov H.1, sL_ov H.1, sV_eq, sV_ne, sV_2, sW_eq, sW_ne, sW_1, iI_add, iI_sub, iI_mul, iI_neg, iI_lt, iI_eq, iI_cl, nI_iI, gd_in, bZ_0, bZ_1, bZ_eq, isB_bZ, isB_0, isB_1, nar_bZ, nar_0, nar_1, mw_ov, iI_s, iI_na, iI_nm, Int.toNat_natCast, Int.add_zero, Int.zero_add, Nat.reduceEqDiff, Nat.reduceAdd, Int.reduceAdd, Int.reduceNeg, Int.reduceSub, Int.reduceMul, Int.reduceLT, Int.reduceEq, Int.reduceToNat, reduceCtorEq, ↓reduceIte, h26, hq, e2, e18, e35]
      rw [if_pos (by omega)]
def gB (f : Nat → Nat) (k : Nat) : Int := if (∀ i, i < k → f i = 0) then -1 else bsN f k
theorem gB_s {f : Nat → Nat} {k : Nat} : gB f (k + 1) = if 0 < f k then (if gB f k < 0 then (k : Int) else if f (gB f k).toNat < f k then (k : Int) else gB f k) else gB f k := by
  have hz : ∀ n, (∀ i, i < n → f i = 0) → bsN f n = 0 := by
    intro n
    induction n with
    | zero => intro _; rfl
    | succ n ih =>
      intro h
      unfold bsN
      rw [ih fun i hi => h i (by omega)]
      by_cases e : n = 0
      · subst e; rw [if_neg (by omega)]
      · rw [h n (by omega), if_neg (by omega)]
  by_cases h0 : ∀ i, i < k → f i = 0
  · have g0 : gB f k = -1 := if_pos h0
    by_cases hk : 0 < f k
    · rw [if_pos hk, g0, if_pos (show (-1 : Int) < 0 by decide)]
      have g1 : gB f (k + 1) = ((if f (bsN f k) < f k then k else bsN f k : Nat) : Int) := if_neg (fun z => by have := z k (by omega); omega)
      rw [g1, hz k h0]
      by_cases e : k = 0
      · subst e; rw [if_neg (by omega)]
      · rw [h0 0 (by omega), if_pos hk]
    · rw [if_neg hk, g0]
      exact if_pos fun i hi => by
        by_cases e : i = k
        · rw [e]; omega
        · exact h0 i (by omega)
  · have g0 : gB f k = (bsN f k : Int) := if_neg h0
    have g1 : gB f (k + 1) = ((if f (bsN f k) < f k then k else bsN f k : Nat) : Int) := if_neg (fun z => h0 fun i hi => z i (by omega))
    rw [g0, g1, show ((bsN f k : Nat) : Int).toNat = bsN f k from rfl]
    by_cases c : f (bsN f k) < f k
    · rw [if_pos c, if_pos (show 0 < f k by omega), if_neg (show ¬ ((bsN f k : Nat) : Int) < 0 by omega), if_pos c]
    · rw [if_neg c]
      by_cases hk : 0 < f k
      · rw [if_pos hk, if_neg (show ¬ ((bsN f k : Nat) : Int) < 0 by omega), if_neg c]
      · rw [if_neg hk]
theorem Md_guess5 {A : Nat → Nat} {σ : AM} (H : LM A σ) {m : VM} {f : Nat → Nat} (hf : ∀ v, v < 10 → m.1 35 v = iI (f v : Int)) (hb : ∀ v, f v ≤ 16384) (w : Int32) (k : Nat) (hk : k < 10) (g1 : -1 ≤ gB f k) (g2 : gB f k < k) (g3 : -1 ≤ fsN k (fun v => decide (0 < f v))) (g4 : fsN k (fun v => decide (0 < f v)) < k) (L : Int) : L_Md_guess_5 (A 0) w (iI (gB f k)) (iI (fsN k (fun v => decide (0 < f v)))) (iI L) (iI (k : Int)) (ov 40 A m σ) = L_Md_guess_5 (A 0) w (iI (gB f (k + 1))) (iI (fsN (k + 1) (fun v => decide (0 < f v)))) (iI (if 0 < f k then (k : Int) else L)) (iI ((k + 1 : Nat) : Int)) (ov 40 A m σ) := by
  rw [gB_s]
  have e1 := hf k hk
  have b1 := hb k
  have hfs : fsN (k + 1) (fun v => decide (0 < f v)) = if 0 ≤ fsN k (fun v => decide (0 < f v)) then fsN k (fun v => decide (0 < f v)) else if 0 < f k then (k : Int) else -1 := by
    show (if 0 ≤ fsN k _ then fsN k _ else if decide (0 < f k) = true then (k : Int) else -1) = _
    by_cases c : 0 < f k
    · rw [decide_eq_true c, if_pos c]; rfl
    · rw [decide_eq_false c, if_neg c]; rfl
  rw [hfs]
  generalize gB f k = x at *
  generalize fsN k (fun v => decide (0 < f v)) = y at *
  by_cases c : 0 < f k
  · simp only [if_pos c]
    by_cases c2 : y < 0
    · rw [if_neg (show ¬ 0 ≤ y by omega)]
      by_cases c1 : x < 0
      · rw [if_pos c1]
        rw [E_Md_guess_5]; simp (disch := omega) only [E_Md_guess_6, E_Md_guess_7, E_Md_guess_8, E_Md_guess_9, E_Md_guess_10, l_0, l_1, l_10, mK_0 H, mR_69 H, mK_35 H, mN_35 H, letT_eq, gd_true, bnd_some, aR_ov, aK_ov, aN_ov, okO_ov, aI_ov H.1, aL_ov H.1, sI_ov H.1, sL_ov H.1, sV_eq, sV_ne, sV_2, sW_eq, sW_ne, sW_1, iI_add, iI_sub, iI_mul, iI_neg, iI_lt, iI_eq, iI_cl, nI_iI, gd_in, bZ_0, bZ_1, bZ_eq, isB_bZ, isB_0, isB_1, nar_bZ, nar_0, nar_1, mw_ov, iI_s, iI_na, iI_nm, Int.toNat_natCast, Int.add_zero, Int.zero_add, Nat.reduceEqDiff, Nat.reduceAdd, Int.reduceAdd, Int.reduceNeg, Int.reduceSub, Int.reduceMul, Int.reduceLT, Int.reduceEq, Int.reduceToNat, reduceCtorEq, ↓reduceIte, e1]
        rw [if_pos (show (k : Int) < 10 by omega), if_pos (show (0 : Int) < (f k : Int) by omega), if_pos c1, if_pos c2]
      · obtain ⟨n, rfl⟩ := Int.eq_ofNat_of_zero_le (show 0 ≤ x by omega)
        have e2 := hf n (by omega)
        have b2 := hb n
        rw [if_neg c1]
        rw [E_Md_guess_5]; simp (disch := omega) only [E_Md_guess_6, E_Md_guess_7, E_Md_guess_8, E_Md_guess_9, E_Md_guess_10, l_0, l_1, l_10, mK_0 H, mR_69 H, mK_35 H, mN_35 H, letT_eq, gd_true, bnd_some, aR_ov, aK_ov, aN_ov, okO_ov, aI_ov H.1, aL_ov H.1, sI_ov H.1, sL_ov H.1, sV_eq, sV_ne, sV_2, sW_eq, sW_ne, sW_1, iI_add, iI_sub, iI_mul, iI_neg, iI_lt, iI_eq, iI_cl, nI_iI, gd_in, bZ_0, bZ_1, bZ_eq, isB_bZ, isB_0, isB_1, nar_bZ, nar_0, nar_1, mw_ov, iI_s, iI_na, iI_nm, Int.toNat_natCast, Int.add_zero, Int.zero_add, Nat.reduceEqDiff, Nat.reduceAdd, Int.reduceAdd, Int.reduceNeg, Int.reduceSub, Int.reduceMul, Int.reduceLT, Int.reduceEq, Int.reduceToNat, reduceCtorEq, ↓reduceIte, e1, e2]
        rw [if_pos (show (k : Int) < 10 by omega), if_pos (show (0 : Int) < (f k : Int) by omega), if_neg c1]
        by_cases c3 : f n < f k
        · rw [if_pos (show (f n : Int) < (f k : Int) by omega), if_pos c2, if_pos c3]
        · rw [if_neg (show ¬ (f n : Int) < (f k : Int) by omega), if_pos c2, if_neg c3]
    · rw [if_pos (show 0 ≤ y by omega)]
      by_cases c1 : x < 0
      · rw [if_pos c1]
        rw [E_Md_guess_5]; simp (disch := omega) only [E_Md_guess_6, E_Md_guess_7, E_Md_guess_8, E_Md_guess_9, E_Md_guess_10, l_0, l_1, l_10, mK_0 H, mR_69 H, mK_35 H, mN_35 H, letT_eq, gd_true, bnd_some, aR_ov, aK_ov, aN_ov, okO_ov, aI_ov H.1, aL_ov H.1, sI_ov H.1, sL_ov H.1, sV_eq, sV_ne, sV_2, sW_eq, sW_ne, sW_1, iI_add, iI_sub, iI_mul, iI_neg, iI_lt, iI_eq, iI_cl, nI_iI, gd_in, bZ_0, bZ_1, bZ_eq, isB_bZ, isB_0, isB_1, nar_bZ, nar_0, nar_1, mw_ov, iI_s, iI_na, iI_nm, Int.toNat_natCast, Int.add_zero, Int.zero_add, Nat.reduceEqDiff, Nat.reduceAdd, Int.reduceAdd, Int.reduceNeg, Int.reduceSub, Int.reduceMul, Int.reduceLT, Int.reduceEq, Int.reduceToNat, reduceCtorEq, ↓reduceIte, e1]
        rw [if_pos (show (k : Int) < 10 by omega), if_pos (show (0 : Int) < (f k : Int) by omega), if_pos c1, if_neg c2]
      · obtain ⟨n, rfl⟩ := Int.eq_ofNat_of_zero_le (show 0 ≤ x by omega)
        have e2 := hf n (by omega)
        have b2 := hb n
        rw [if_neg c1]
        rw [E_Md_guess_5]; simp (disch := omega) only [E_Md_guess_6, E_Md_guess_7, E_Md_guess_8, E_Md_guess_9, E_Md_guess_10, l_0, l_1, l_10, mK_0 H, mR_69 H, mK_35 H, mN_35 H, letT_eq, gd_true, bnd_some, aR_ov, aK_ov, aN_ov, okO_ov, aI_ov H.1, aL_ov H.1, sI_ov H.1, sL_ov H.1, sV_eq, sV_ne, sV_2, sW_eq, sW_ne, sW_1, iI_add, iI_sub, iI_mul, iI_neg, iI_lt, iI_eq, iI_cl, nI_iI, gd_in, bZ_0, bZ_1, bZ_eq, isB_bZ, isB_0, isB_1, nar_bZ, nar_0, nar_1, mw_ov, iI_s, iI_na, iI_nm, Int.toNat_natCast, Int.add_zero, Int.zero_add, Nat.reduceEqDiff, Nat.reduceAdd, Int.reduceAdd, Int.reduceNeg, Int.reduceSub, Int.reduceMul, Int.reduceLT, Int.reduceEq, Int.reduceToNat, reduceCtorEq, ↓reduceIte, e1, e2]
        rw [if_pos (show (k : Int) < 10 by omega), if_pos (show (0 : Int) < (f k : Int) by omega), if_neg c1]
        by_cases c3 : f n < f k
        · rw [if_pos (show (f n : Int) < (f k : Int) by omega), if_neg c2, if_pos c3]
        · rw [if_neg (show ¬ (f n : Int) < (f k : Int) by omega), if_neg c2, if_neg c3]
  · simp only [if_neg c]
    have hy : (if 0 ≤ y then y else -1) = y := by split <;> omega
    rw [hy]
    rw [E_Md_guess_5]; simp (disch := omega) only [E_Md_guess_6, E_Md_guess_7, E_Md_guess_8, E_Md_guess_9, E_Md_guess_10, l_0, l_1, l_10, mK_0 H, mR_69 H, mK_35 H, mN_35 H, letT_eq, gd_true, bnd_some, aR_ov, aK_ov, aN_ov, okO_ov, aI_ov H.1, aL_ov H.1, sI_ov H.1, sL_ov H.1, sV_eq, sV_ne, sV_2, sW_eq, sW_ne, sW_1, iI_add, iI_sub, iI_mul, iI_neg, iI_lt, iI_eq, iI_cl, nI_iI, gd_in, bZ_0, bZ_1, bZ_eq, isB_bZ, isB_0, isB_1, nar_bZ, nar_0, nar_1, mw_ov, iI_s, iI_na, iI_nm, Int.toNat_natCast, Int.add_zero, Int.zero_add, Nat.reduceEqDiff, Nat.reduceAdd, Int.reduceAdd, Int.reduceNeg, Int.reduceSub, Int.reduceMul, Int.reduceLT, Int.reduceEq, Int.reduceToNat, reduceCtorEq, ↓reduceIte, e1]
    rw [if_pos (show (k : Int) < 10 by omega), if_neg (show ¬ (0 : Int) < (f k : Int) by omega)]
theorem gB_lo (f : Nat → Nat) (k : Nat) : -1 ≤ gB f k ∧ gB f k < (k : Int) := by
  unfold gB
  by_cases h : ∀ i, i < k → f i = 0
  · rw [if_pos h]; omega
  · rw [if_neg h]
    have : 0 < k := Nat.pos_of_ne_zero fun e => h fun i hi => by omega
    have := bsN_lt f this
    omega
def lsI (f : Nat → Nat) : Nat → Int
  | 0 => -1
  | k + 1 => if 0 < f k then (k : Int) else lsI f k
theorem lsI_eq (f : Nat → Nat) (k : Nat) : lsI f k = lsN k (fun v => decide (0 < f v)) := by
  induction k with
  | zero => rfl
  | succ k ih =>
    show (if 0 < f k then (k : Int) else lsI f k) = if decide (0 < f k) = true then (k : Int) else lsN k _
    by_cases c : 0 < f k
    · rw [if_pos c, if_pos (decide_eq_true c)]
    · rw [if_neg c, if_neg (by rw [decide_eq_false c]; decide), ih]
theorem Md_guess5L {A : Nat → Nat} {σ : AM} (H : LM A σ) {m : VM} {f : Nat → Nat} (hf : ∀ v, v < 10 → m.1 35 v = iI (f v : Int)) (hb : ∀ v, f v ≤ 16384) {w : Nat} (hw : w ≤ 2) : L_Md_guess_5 (A 0) (iI (w : Int)) (iI (-1)) (iI (-1)) (iI (-1)) (iI 0) (ov 40 A m σ) = some (iI (if w = 0 then gB f 10 else if w = 1 then fsN 10 (fun v => decide (0 < f v)) else lsN 10 (fun v => decide (0 < f v))), (ov 40 A m σ)) := by
  have h := up_loop (fun k => L_Md_guess_5 (A 0) (iI (w : Int)) (iI (gB f k)) (iI (fsN k (fun v => decide (0 < f v)))) (iI (lsI f k)) (iI (k : Int)) (ov 40 A m σ)) 10 (some (iI (if w = 0 then gB f 10 else if w = 1 then fsN 10 (fun v => decide (0 < f v)) else lsN 10 (fun v => decide (0 < f v))), (ov 40 A m σ))) (fun k hk ih => (Md_guess5 H hf hb (iI (w : Int)) k hk (gB_lo f k).1 (gB_lo f k).2 (fsN_lo _ _).1 (fsN_lo _ _).2 (lsI f k)).trans ih) (by
    show L_Md_guess_5 _ _ _ _ _ _ _ = _
    rw [E_Md_guess_5]
    simp (disch := omega) only [l_10, l_0, l_1, iI_lt, iI_eq, E_Md_guess_10]
    rw [if_neg (by omega)]
    by_cases q : w = 0
    · rw [if_pos (by omega), if_pos q]
    · rw [if_neg (by omega), if_neg q]
      by_cases q1 : w = 1
      · rw [if_pos (by omega), if_pos q1]
      · rw [if_neg (by omega), if_neg q1, lsI_eq]) 0 (Nat.zero_le _)
  exact h
theorem Md_guessL {d : TD} {b : BD} {A : Nat → Nat} {σ : AM} {m : VM} (M : MS0 d b A σ m) (l : LeftM d b m) {t : Nat} (ht : t < dT d) {w : Nat} (hw : w ≤ 2) : ∃ m' : VM, L_Md_guess_2 (A 0) (iI (t : Int)) (iI (w : Int)) (iI 0) (ov 40 A m σ) = some (iI (if w = 0 then gB (fun v => talN d b t v (dW d)) 10 else if w = 1 then fsN 10 (fun v => decide (0 < talN d b t v (dW d))) else lsN 10 (fun v => decide (0 < talN d b t v (dW d)))), (ov 40 A (m') σ)) ∧ KM m m' := by
  have H := M.1
  have hW := M.2.1.2.2.2.2.2.2
  have h := up_loopI (fun k m1 => L_Md_guess_3 (A 0) (iI (t : Int)) (iI (w : Int)) (iI (k : Int)) (ov 40 A m1 σ)) (gsI d b t m) (fun x => ∃ m' : VM, x = some (iI (if w = 0 then gB (fun v => talN d b t v (dW d)) 10 else if w = 1 then fsN 10 (fun v => decide (0 < talN d b t v (dW d))) else lsN 10 (fun v => decide (0 < talN d b t v (dW d)))), (ov 40 A (m') σ)) ∧ KM m m') (dW d) (fun k m1 hk hI ih => by
    obtain ⟨m2, j1, j2⟩ := Md_guess3 M ht (iI (w : Int)) k hk hI
    show ∃ m' : VM, L_Md_guess_3 _ _ _ _ _ = _ ∧ _
    rw [j2]
    exact ih m2 j1) (fun m1 hI => by
    obtain ⟨i1, i2, i3, i4⟩ := hI
    have M1 := MS0_K i1 M
    have h26 := M1.2.2.1.1.2.2.2.2.1
    have h5 := Md_guess5L H i4 (fun v => Nat.le_trans (cntN_le _ _) hW) hw
    refine ⟨m1, ?_, i1⟩
    show L_Md_guess_3 _ _ _ _ _ = _
    rw [E_Md_guess_3]
    simp (disch := omega) only [mK_0 H, okO_ov, gd_true, aI_ov H.1, h26, iI_lt, l_1, l_0, iI_neg]
    rw [if_neg (by omega)]
    exact h5) 0 (fillV m 35 10 (iI 0)) (Nat.zero_le _) ⟨KM_fV (KM_r m) _ _ (by decide), l.1, l.2.1, fun v hv => by rw [fillV_at, if_pos hv]; rfl⟩
  rw [Md_guess2 H]
  exact h
theorem tal_pos {d : TD} {b : BD} (hd : wfD d) (t : Nat) : nLf d b = 0 ↔ ∀ v, v < 10 → talN d b t v (dW d) = 0 := by
  rw [← wLf_0, wLf_cnt]
  constructor
  · intro h v _
    exact cntN_none fun w hw => by rw [cntN_eq_0 h w hw]; rfl
  · intro h
    exact cntN_none fun w hw => by
      have := cntN_eq_0 (h (dg d w t) (dg_lt hd w t)) w hw
      rw [decide_eq_true rfl, Bool.and_true] at this
      exact this
theorem m_guess {d : TD} {b : BD} {A : Nat → Nat} {σ : AM} {m : VM} (M : MS0 d b A σ m) {a c : Int} (h1 : -2147483648 ≤ a) (h2 : a < 2147483648) (h3 : -2147483648 ≤ c) (h4 : c < 2147483648) : Mf A σ m (M_Md_guess (A 0) (iI a) (iI c) (ov 40 A m σ)) (iI (guessS d b a c)) := by
  have H := M.1
  have hs := q_Md_isThing H M.2.1 (MT_K (KM_0 m) M.2.2.1) h1 h2
  have hwi := q_Md_within (a := c) (l := 0) (h := 2) (ov 40 A (sV m 0 0 (iI 0)) σ) h3 h4 (by omega) (by omega) (by omega) (by omega)
  by_cases q : 0 ≤ a ∧ a < (dT d : Int)
  · rw [decide_eq_true q] at hs
    by_cases q2 : 0 ≤ c ∧ c ≤ 2
    · rw [decide_eq_true q2] at hwi
      obtain ⟨n, rfl⟩ := Int.eq_ofNat_of_zero_le q.1
      obtain ⟨w, rfl⟩ := Int.eq_ofNat_of_zero_le q2.1
      obtain ⟨m', e, k, l, M'⟩ := p_findL M
      obtain ⟨m2, e2, k2⟩ := Md_guessL M' l (t := n) (by omega) (w := w) (by omega)
      refine ⟨m2, ?_, KM_t k k2⟩
      unfold M_Md_guess
      rw [E_Md_guess_0]; simp (disch := omega) only [E_Md_guess_1, l_0, l_1, l_2, mK_0 H, letT_eq, gd_true, bnd_some, aR_ov, aK_ov, aN_ov, okO_ov, aI_ov H.1, aL_ov H.1, sI_ov H.1, sL_ov H.1, sV_eq, sV_ne, sV_2, sW_eq, sW_ne, sW_1, iI_add, iI_sub, iI_mul, iI_neg, iI_lt, iI_eq, iI_cl, nI_iI, gd_in, bZ_0, bZ_1, bZ_eq, isB_bZ, isB_0, isB_1, nar_bZ, nar_0, nar_1, mw_ov, iI_s, iI_na, iI_nm, Int.toNat_natCast, Int.add_zero, Int.zero_add, Nat.reduceEqDiff, Nat.reduceAdd, Int.reduceAdd, Int.reduceNeg, Int.reduceSub, Int.reduceMul, Int.reduceLT, Int.reduceEq, Int.reduceToNat, reduceCtorEq, ↓reduceIte, hs, hwi, e, e2]
      have hz := tal_pos (b := b) M.2.1 n
      congr 2
      unfold guessS
      by_cases q0 : nLf d b = 0
      · rw [if_neg (show ¬ ((0 ≤ (n : Int) ∧ (n : Int) < (dT d : Int)) ∧ (0 ≤ (w : Int) ∧ (w : Int) ≤ 2) ∧ nLf d b ≠ 0) from fun z => z.2.2 q0)]
        have hz0 := hz.mp q0
        have f1 : gB (fun v => talN d b n v (dW d)) 10 = -1 := if_pos hz0
        have f2 : fsN 10 (fun v => decide (0 < talN d b n v (dW d))) = -1 := fsN_none fun i hi => decide_eq_false (by rw [hz0 i hi]; omega)
        have f3 : lsN 10 (fun v => decide (0 < talN d b n v (dW d))) = -1 := by
          rw [← lsI_eq]
          have : ∀ k, k ≤ 10 → lsI (fun v => talN d b n v (dW d)) k = -1 := by
            intro k
            induction k with
            | zero => intro _; rfl
            | succ k ih =>
              intro hk
              show (if 0 < talN d b n k (dW d) then (k : Int) else _) = -1
              rw [if_neg (by rw [hz0 k (by omega)]; omega)]
              exact ih (by omega)
          exact this 10 (Nat.le_refl _)
        rw [f1, f2, f3]
        split
        · rfl
        · split <;> rfl
      · rw [if_pos (show (0 ≤ (n : Int) ∧ (n : Int) < (dT d : Int)) ∧ (0 ≤ (w : Int) ∧ (w : Int) ≤ 2) ∧ nLf d b ≠ 0 from ⟨q, q2, q0⟩)]
        have f1 : gB (fun v => talN d b n v (dW d)) 10 = (bsN (fun v => talN d b n v (dW d)) 10 : Int) := if_neg fun z => q0 (hz.mpr z)
        rw [f1]
        by_cases e0 : w = 0
        · rw [if_pos e0, if_pos (show (w : Int) = 0 by omega)]; rfl
        · rw [if_neg e0, if_neg (show ¬ (w : Int) = 0 by omega)]
          by_cases e1 : w = 1
          · rw [if_pos e1, if_pos (show (w : Int) = 1 by omega)]; rfl
          · rw [if_neg e1, if_neg (show ¬ (w : Int) = 1 by omega)]; rfl
    · rw [decide_eq_false q2] at hwi
      refine ⟨_, ?_, KM_0 m⟩
      unfold M_Md_guess
      rw [E_Md_guess_0]; simp (disch := omega) only [E_Md_guess_1, l_0, l_1, l_2, mK_0 H, letT_eq, gd_true, bnd_some, aR_ov, aK_ov, aN_ov, okO_ov, aI_ov H.1, aL_ov H.1, sI_ov H.1, sL_ov H.1, sV_eq, sV_ne, sV_2, sW_eq, sW_ne, sW_1, iI_add, iI_sub, iI_mul, iI_neg, iI_lt, iI_eq, iI_cl, nI_iI, gd_in, bZ_0, bZ_1, bZ_eq, isB_bZ, isB_0, isB_1, nar_bZ, nar_0, nar_1, mw_ov, iI_s, iI_na, iI_nm, Int.toNat_natCast, Int.add_zero, Int.zero_add, Nat.reduceEqDiff, Nat.reduceAdd, Int.reduceAdd, Int.reduceNeg, Int.reduceSub, Int.reduceMul, Int.reduceLT, Int.reduceEq, Int.reduceToNat, reduceCtorEq, ↓reduceIte, hs, hwi]
      rw [guessS, if_neg (fun z => q2 z.2.1)]
  · rw [decide_eq_false q] at hs
    refine ⟨_, ?_, KM_0 m⟩
    unfold M_Md_guess
    rw [E_Md_guess_0]; simp (disch := omega) only [E_Md_guess_1, l_0, l_1, l_2, mK_0 H, letT_eq, gd_true, bnd_some, aR_ov, aK_ov, aN_ov, okO_ov, aI_ov H.1, aL_ov H.1, sI_ov H.1, sL_ov H.1, sV_eq, sV_ne, sV_2, sW_eq, sW_ne, sW_1, iI_add, iI_sub, iI_mul, iI_neg, iI_lt, iI_eq, iI_cl, nI_iI, gd_in, bZ_0, bZ_1, bZ_eq, isB_bZ, isB_0, isB_1, nar_bZ, nar_0, nar_1, mw_ov, iI_s, iI_na, iI_nm, Int.toNat_natCast, Int.add_zero, Int.zero_add, Nat.reduceEqDiff, Nat.reduceAdd, Int.reduceAdd, Int.reduceNeg, Int.reduceSub, Int.reduceMul, Int.reduceLT, Int.reduceEq, Int.reduceToNat, reduceCtorEq, ↓reduceIte, hs]
    rw [guessS, if_neg (fun z => q z.1)]
