/-! ===== counts ===== -/
def countS (d : TD) (b : BD) (p t : PD) (a : Int) : Int := if a = 0 then (dT d : Int) else if a = 1 then (dM d : Int) else if a = 2 then (dB d : Int) else if a = 3 then (dW d : Int) else if a = 4 then (nMay d : Int) else if a = 5 then (NL d : Int) else if a = 6 then (nT b : Int) else if a = 7 then (cntN (nT b) (tR b) : Int) else if a = 8 then (p.1 : Int) else if a = 9 then (t.1 : Int) else if a = 10 then (dA d : Int) else if a = 11 then (nH b : Int) else -1
theorem q_Bk_ringing {A : Nat → Nat} {σ : AM} (H : LC A σ) {m : VM} {d : TD} {b : BD} (hb : wfB d b) (hB : CBk b m) : M_Bk_ringing (A 27) (ov 68 A m σ) = some (iI (cntN (nT b) (tR b) : Int), (ov 68 A m σ)) := by
  have hT := hb.1
  have h := up_loop (fun k => L_Bk_ringing_1 (A 27) (iI (cntN k (tR b) : Int)) (iI (k : Int)) (ov 68 A m σ)) (nT b) (some (iI (cntN (nT b) (tR b) : Int), (ov 68 A m σ))) (fun k hk ih => by
    have e1 := hB.2.2.1 k (by omega)
    show L_Bk_ringing_1 _ _ _ _ = _
    replace ih : L_Bk_ringing_1 _ _ _ _ = _ := ih
    rw [cntN_s] at ih
    rw [E_Bk_ringing_1]; simp (disch := omega) only [E_Bk_ringing_2, l_0, l_1, cK_27 H, cR_27_1 H, cK_29 H, cN_29 H, letT_eq, gd_true, bnd_some, aR_ov, aK_ov, aN_ov, okO_ov, aI_ov H.1, aL_ov H.1, sI_ov H.1, sL_ov H.1, sV_eq, sV_ne, sV_2, sW_eq, sW_ne, sW_1, iI_add, iI_sub, iI_mul, iI_neg, iI_lt, iI_eq, iI_cl, nI_iI, gd_in, bZ_0, bZ_1, bZ_eq, isB_bZ, isB_0, isB_1, nar_bZ, nar_0, nar_1, mw_ov, iI_s, iI_na, iI_nm, Int.toNat_natCast, Int.add_zero, Int.zero_add, Nat.reduceEqDiff, Nat.reduceAdd, Int.reduceAdd, Int.reduceNeg, Int.reduceSub, Int.reduceMul, Int.reduceLT, Int.reduceEq, Int.reduceToNat, reduceCtorEq, ↓reduceIte, hB.1.1, e1]
    rw [if_pos (by omega)]
    cases q : tR b k <;> (rw [q] at ih; exact ih)) (by
    show L_Bk_ringing_1 _ _ _ _ = _
    rw [E_Bk_ringing_1]; simp (disch := omega) only [cK_27 H, okO_ov, aR_ov, gd_true, bnd_some, aI_ov H.1, iI_lt, hB.1.1]; rw [if_neg (by omega)]) 0 (Nat.zero_le _)
  unfold M_Bk_ringing
  rw [E_Bk_ringing_0]
  simp only [l_0]
  exact (congrArg (mw _) h).trans (mw_ov _ _ _ _ _ _)
theorem c_count {d : TD} {b : BD} {g z u : Nat} {A : Nat → Nat} {σ : AM} {m : VM} (C : CS0 d b g z u A σ m) {p t : PD} (hP : CPl p m) (hT : CTp t m) {a : Int} (h1 : -2147483648 ≤ a) (h2 : a < 2147483648) : M_Bp_count (A 0) (iI a) (ov 68 A m σ) = some (iI (countS d b p t a), (ov 68 A m σ)) := by
  obtain ⟨H, hd, hD, _, ⟨⟨x1, x2, x3, x4, x5, x6⟩, hx⟩, hb, hB, _⟩ := C
  have hall := q_Tw_all H hd (m := m) ⟨⟨x1, x2, x3, x4, x5, x6⟩, hx⟩
  have hri := q_Bk_ringing H hb hB
  unfold M_Bp_count
  have n0 : a ≠ 0 → ¬ iI a = (0 : Int32) := fun h z => h (iI_inj h1 h2 (by decide) (by decide) z)
  have n1 : a ≠ 1 → ¬ iI a = (1 : Int32) := fun h z => h (iI_inj h1 h2 (by decide) (by decide) z)
  have n2 : a ≠ 2 → ¬ iI a = (2 : Int32) := fun h z => h (iI_inj h1 h2 (by decide) (by decide) z)
  have n3 : a ≠ 3 → ¬ iI a = (3 : Int32) := fun h z => h (iI_inj h1 h2 (by decide) (by decide) z)
  have n4 : a ≠ 4 → ¬ iI a = (4 : Int32) := fun h z => h (iI_inj h1 h2 (by decide) (by decide) z)
  have n5 : a ≠ 5 → ¬ iI a = (5 : Int32) := fun h z => h (iI_inj h1 h2 (by decide) (by decide) z)
  have n6 : a ≠ 6 → ¬ iI a = (6 : Int32) := fun h z => h (iI_inj h1 h2 (by decide) (by decide) z)
  have n7 : a ≠ 7 → ¬ iI a = (7 : Int32) := fun h z => h (iI_inj h1 h2 (by decide) (by decide) z)
  have n8 : a ≠ 8 → ¬ iI a = (8 : Int32) := fun h z => h (iI_inj h1 h2 (by decide) (by decide) z)
  have n9 : a ≠ 9 → ¬ iI a = (9 : Int32) := fun h z => h (iI_inj h1 h2 (by decide) (by decide) z)
  have n10 : a ≠ 10 → ¬ iI a = (10 : Int32) := fun h z => h (iI_inj h1 h2 (by decide) (by decide) z)
  have n11 : a ≠ 11 → ¬ iI a = (11 : Int32) := fun h z => h (iI_inj h1 h2 (by decide) (by decide) z)
  rw [E_Bp_count_0]
  unfold countS
  by_cases q0 : a = 0
  · rw [if_pos (show iI a = (0 : Int32) by rw [q0]; rfl), if_pos q0]
    simp (disch := omega) only [cK_0 H, cR_0_0 H, cK_1 H, cR_0_1 H, cK_10 H, cR_0_2 H, cK_17 H, cR_0_3 H, cK_27 H, okO_ov, aR_ov, gd_true, bnd_some, q_Tw_things (LTt H), q_Tw_most (LTt H), q_Tw_bar (LTt H), q_Tw_allows (LTt H), q_Ls_allowed H, q_Ls_size H, q_Bk_trials H, q_Bk_hints H, q_Rd_size H, hall, hri, aI_ov H.1, x1, x2, x3, x4, x5, x6, hB.1.1, hB.1.2, hP.1, hT.1, mw_ov]
  rw [if_neg (n0 q0), if_neg q0]
  by_cases q1 : a = 1
  · rw [if_pos (show iI a = (1 : Int32) by rw [q1]; rfl), if_pos q1]
    simp (disch := omega) only [cK_0 H, cR_0_0 H, cK_1 H, cR_0_1 H, cK_10 H, cR_0_2 H, cK_17 H, cR_0_3 H, cK_27 H, okO_ov, aR_ov, gd_true, bnd_some, q_Tw_things (LTt H), q_Tw_most (LTt H), q_Tw_bar (LTt H), q_Tw_allows (LTt H), q_Ls_allowed H, q_Ls_size H, q_Bk_trials H, q_Bk_hints H, q_Rd_size H, hall, hri, aI_ov H.1, x1, x2, x3, x4, x5, x6, hB.1.1, hB.1.2, hP.1, hT.1, mw_ov]
  rw [if_neg (n1 q1), if_neg q1]
  by_cases q2 : a = 2
  · rw [if_pos (show iI a = (2 : Int32) by rw [q2]; rfl), if_pos q2]
    simp (disch := omega) only [cK_0 H, cR_0_0 H, cK_1 H, cR_0_1 H, cK_10 H, cR_0_2 H, cK_17 H, cR_0_3 H, cK_27 H, okO_ov, aR_ov, gd_true, bnd_some, q_Tw_things (LTt H), q_Tw_most (LTt H), q_Tw_bar (LTt H), q_Tw_allows (LTt H), q_Ls_allowed H, q_Ls_size H, q_Bk_trials H, q_Bk_hints H, q_Rd_size H, hall, hri, aI_ov H.1, x1, x2, x3, x4, x5, x6, hB.1.1, hB.1.2, hP.1, hT.1, mw_ov]
  rw [if_neg (n2 q2), if_neg q2]
  by_cases q3 : a = 3
  · rw [if_pos (show iI a = (3 : Int32) by rw [q3]; rfl), if_pos q3]
    simp (disch := omega) only [cK_0 H, cR_0_0 H, cK_1 H, cR_0_1 H, cK_10 H, cR_0_2 H, cK_17 H, cR_0_3 H, cK_27 H, okO_ov, aR_ov, gd_true, bnd_some, q_Tw_things (LTt H), q_Tw_most (LTt H), q_Tw_bar (LTt H), q_Tw_allows (LTt H), q_Ls_allowed H, q_Ls_size H, q_Bk_trials H, q_Bk_hints H, q_Rd_size H, hall, hri, aI_ov H.1, x1, x2, x3, x4, x5, x6, hB.1.1, hB.1.2, hP.1, hT.1, mw_ov]
  rw [if_neg (n3 q3), if_neg q3]
  by_cases q4 : a = 4
  · rw [if_pos (show iI a = (4 : Int32) by rw [q4]; rfl), if_pos q4]
    simp (disch := omega) only [cK_0 H, cR_0_0 H, cK_1 H, cR_0_1 H, cK_10 H, cR_0_2 H, cK_17 H, cR_0_3 H, cK_27 H, okO_ov, aR_ov, gd_true, bnd_some, q_Tw_things (LTt H), q_Tw_most (LTt H), q_Tw_bar (LTt H), q_Tw_allows (LTt H), q_Ls_allowed H, q_Ls_size H, q_Bk_trials H, q_Bk_hints H, q_Rd_size H, hall, hri, aI_ov H.1, x1, x2, x3, x4, x5, x6, hB.1.1, hB.1.2, hP.1, hT.1, mw_ov]
  rw [if_neg (n4 q4), if_neg q4]
  by_cases q5 : a = 5
  · rw [if_pos (show iI a = (5 : Int32) by rw [q5]; rfl), if_pos q5]
    simp (disch := omega) only [cK_0 H, cR_0_0 H, cK_1 H, cR_0_1 H, cK_10 H, cR_0_2 H, cK_17 H, cR_0_3 H, cK_27 H, okO_ov, aR_ov, gd_true, bnd_some, q_Tw_things (LTt H), q_Tw_most (LTt H), q_Tw_bar (LTt H), q_Tw_allows (LTt H), q_Ls_allowed H, q_Ls_size H, q_Bk_trials H, q_Bk_hints H, q_Rd_size H, hall, hri, aI_ov H.1, x1, x2, x3, x4, x5, x6, hB.1.1, hB.1.2, hP.1, hT.1, mw_ov]
  rw [if_neg (n5 q5), if_neg q5]
  by_cases q6 : a = 6
  · rw [if_pos (show iI a = (6 : Int32) by rw [q6]; rfl), if_pos q6]
    simp (disch := omega) only [cK_0 H, cR_0_0 H, cK_1 H, cR_0_1 H, cK_10 H, cR_0_2 H, cK_17 H, cR_0_3 H, cK_27 H, okO_ov, aR_ov, gd_true, bnd_some, q_Tw_things (LTt H), q_Tw_most (LTt H), q_Tw_bar (LTt H), q_Tw_allows (LTt H), q_Ls_allowed H, q_Ls_size H, q_Bk_trials H, q_Bk_hints H, q_Rd_size H, hall, hri, aI_ov H.1, x1, x2, x3, x4, x5, x6, hB.1.1, hB.1.2, hP.1, hT.1, mw_ov]
  rw [if_neg (n6 q6), if_neg q6]
  by_cases q7 : a = 7
  · rw [if_pos (show iI a = (7 : Int32) by rw [q7]; rfl), if_pos q7]
    simp (disch := omega) only [cK_0 H, cR_0_0 H, cK_1 H, cR_0_1 H, cK_10 H, cR_0_2 H, cK_17 H, cR_0_3 H, cK_27 H, okO_ov, aR_ov, gd_true, bnd_some, q_Tw_things (LTt H), q_Tw_most (LTt H), q_Tw_bar (LTt H), q_Tw_allows (LTt H), q_Ls_allowed H, q_Ls_size H, q_Bk_trials H, q_Bk_hints H, q_Rd_size H, hall, hri, aI_ov H.1, x1, x2, x3, x4, x5, x6, hB.1.1, hB.1.2, hP.1, hT.1, mw_ov]
  rw [if_neg (n7 q7), if_neg q7]
  by_cases q8 : a = 8
  · rw [if_pos (show iI a = (8 : Int32) by rw [q8]; rfl), if_pos q8]
    simp (disch := omega) only [cK_0 H, cR_0_0 H, cK_1 H, cR_0_1 H, cK_10 H, cR_0_2 H, cK_17 H, cR_0_3 H, cK_27 H, okO_ov, aR_ov, gd_true, bnd_some, q_Tw_things (LTt H), q_Tw_most (LTt H), q_Tw_bar (LTt H), q_Tw_allows (LTt H), q_Ls_allowed H, q_Ls_size H, q_Bk_trials H, q_Bk_hints H, q_Rd_size H, hall, hri, aI_ov H.1, x1, x2, x3, x4, x5, x6, hB.1.1, hB.1.2, hP.1, hT.1, mw_ov]
  rw [if_neg (n8 q8), if_neg q8]
  by_cases q9 : a = 9
  · rw [if_pos (show iI a = (9 : Int32) by rw [q9]; rfl), if_pos q9]
    simp (disch := omega) only [cK_0 H, cR_0_0 H, cK_1 H, cR_0_1 H, cK_10 H, cR_0_2 H, cK_17 H, cR_0_3 H, cK_27 H, okO_ov, aR_ov, gd_true, bnd_some, q_Tw_things (LTt H), q_Tw_most (LTt H), q_Tw_bar (LTt H), q_Tw_allows (LTt H), q_Ls_allowed H, q_Ls_size H, q_Bk_trials H, q_Bk_hints H, q_Rd_size H, hall, hri, aI_ov H.1, x1, x2, x3, x4, x5, x6, hB.1.1, hB.1.2, hP.1, hT.1, mw_ov]
  rw [if_neg (n9 q9), if_neg q9]
  by_cases q10 : a = 10
  · rw [if_pos (show iI a = (10 : Int32) by rw [q10]; rfl), if_pos q10]
    simp (disch := omega) only [cK_0 H, cR_0_0 H, cK_1 H, cR_0_1 H, cK_10 H, cR_0_2 H, cK_17 H, cR_0_3 H, cK_27 H, okO_ov, aR_ov, gd_true, bnd_some, q_Tw_things (LTt H), q_Tw_most (LTt H), q_Tw_bar (LTt H), q_Tw_allows (LTt H), q_Ls_allowed H, q_Ls_size H, q_Bk_trials H, q_Bk_hints H, q_Rd_size H, hall, hri, aI_ov H.1, x1, x2, x3, x4, x5, x6, hB.1.1, hB.1.2, hP.1, hT.1, mw_ov]
  rw [if_neg (n10 q10), if_neg q10]
  by_cases q11 : a = 11
  · rw [if_pos (show iI a = (11 : Int32) by rw [q11]; rfl), if_pos q11]
    simp (disch := omega) only [cK_0 H, cR_0_0 H, cK_1 H, cR_0_1 H, cK_10 H, cR_0_2 H, cK_17 H, cR_0_3 H, cK_27 H, okO_ov, aR_ov, gd_true, bnd_some, q_Tw_things (LTt H), q_Tw_most (LTt H), q_Tw_bar (LTt H), q_Tw_allows (LTt H), q_Ls_allowed H, q_Ls_size H, q_Bk_trials H, q_Bk_hints H, q_Rd_size H, hall, hri, aI_ov H.1, x1, x2, x3, x4, x5, x6, hB.1.1, hB.1.2, hP.1, hT.1, mw_ov]
  rw [if_neg (n11 q11), if_neg q11]
  exact mw_ov _ _ _ _ _ _
theorem Md_count1 {A : Nat → Nat} {σ : AM} (H : LM A σ) {m : VM} {d : TD} (hd : wfD d) (hT : MT d m) : L_Md_count_1 (A 0) (iI 0) (iI 0) (ov 40 A m σ) = some (iI (nMay d : Int), (ov 40 A m σ)) := by
  have hW := hd.2.2.2.2.2.2
  exact up_loop (fun k => L_Md_count_1 (A 0) (iI (cntN k (dMay d) : Int)) (iI (k : Int)) (ov 40 A m σ)) (dW d) (some (iI (nMay d : Int), (ov 40 A m σ))) (fun k hk ih => by
    have e1 := hT.2.2.1 k hk
    show L_Md_count_1 _ _ _ _ = _
    replace ih : L_Md_count_1 _ _ _ _ = _ := ih
    rw [cntN_s] at ih
    rw [E_Md_count_1]; simp (disch := omega) only [E_Md_count_2, l_0, l_1, mK_0 H, mR_28 H, mK_13 H, mN_13 H, letT_eq, gd_true, bnd_some, aR_ov, aK_ov, aN_ov, okO_ov, aI_ov H.1, aL_ov H.1, sI_ov H.1, sL_ov H.1, sV_eq, sV_ne, sV_2, sW_eq, sW_ne, sW_1, iI_add, iI_sub, iI_mul, iI_neg, iI_lt, iI_eq, iI_cl, nI_iI, gd_in, bZ_0, bZ_1, bZ_eq, isB_bZ, isB_0, isB_1, nar_bZ, nar_0, nar_1, mw_ov, iI_s, iI_na, iI_nm, Int.toNat_natCast, Int.add_zero, Int.zero_add, Nat.reduceEqDiff, Nat.reduceAdd, Int.reduceAdd, Int.reduceNeg, Int.reduceSub, Int.reduceMul, Int.reduceLT, Int.reduceEq, Int.reduceToNat, reduceCtorEq, ↓reduceIte, hT.1.2.2.2.2.1, e1]
    rw [if_pos (by omega)]
    cases q : dMay d k <;> (rw [q] at ih; exact ih)) (by
    show L_Md_count_1 _ _ _ _ = _
    rw [E_Md_count_1]; simp (disch := omega) only [mK_0 H, okO_ov, aR_ov, gd_true, bnd_some, aI_ov H.1, iI_lt, hT.1.2.2.2.2.1]; rw [if_neg (by omega)]
    rfl) 0 (Nat.zero_le _)
theorem Md_count3 {A : Nat → Nat} {σ : AM} (H : LM A σ) {m : VM} {d : TD} {b : BD} (hb : wfB d b) (hB : MB b m) : L_Md_count_3 (A 0) (iI 0) (iI 0) (ov 40 A m σ) = some (iI (cntN (nT b) (tR b) : Int), (ov 40 A m σ)) := by
  have hT := hb.1
  exact up_loop (fun k => L_Md_count_3 (A 0) (iI (cntN k (tR b) : Int)) (iI (k : Int)) (ov 40 A m σ)) (nT b) (some (iI (cntN (nT b) (tR b) : Int), (ov 40 A m σ))) (fun k hk ih => by
    have e1 := hB.2.2.1 k (by omega)
    show L_Md_count_3 _ _ _ _ = _
    replace ih : L_Md_count_3 _ _ _ _ = _ := ih
    rw [cntN_s] at ih
    rw [E_Md_count_3]; simp (disch := omega) only [E_Md_count_4, l_0, l_1, mK_0 H, mR_39 H, mK_22 H, mN_22 H, letT_eq, gd_true, bnd_some, aR_ov, aK_ov, aN_ov, okO_ov, aI_ov H.1, aL_ov H.1, sI_ov H.1, sL_ov H.1, sV_eq, sV_ne, sV_2, sW_eq, sW_ne, sW_1, iI_add, iI_sub, iI_mul, iI_neg, iI_lt, iI_eq, iI_cl, nI_iI, gd_in, bZ_0, bZ_1, bZ_eq, isB_bZ, isB_0, isB_1, nar_bZ, nar_0, nar_1, mw_ov, iI_s, iI_na, iI_nm, Int.toNat_natCast, Int.add_zero, Int.zero_add, Nat.reduceEqDiff, Nat.reduceAdd, Int.reduceAdd, Int.reduceNeg, Int.reduceSub, Int.reduceMul, Int.reduceLT, Int.reduceEq, Int.reduceToNat, reduceCtorEq, ↓reduceIte, hB.1.1, e1]
    rw [if_pos (by omega)]
    cases q : tR b k <;> (rw [q] at ih; exact ih)) (by
    show L_Md_count_3 _ _ _ _ = _
    rw [E_Md_count_3]; simp (disch := omega) only [mK_0 H, okO_ov, aR_ov, gd_true, bnd_some, aI_ov H.1, iI_lt, hB.1.1]; rw [if_neg (by omega)]) 0 (Nat.zero_le _)
theorem m_count {d : TD} {b : BD} {A : Nat → Nat} {σ : AM} {m : VM} (M : MS0 d b A σ m) {p t : PD} (hP : MPl p m) (hT : MTp t m) {a : Int} (h1 : -2147483648 ≤ a) (h2 : a < 2147483648) : Mf A σ m (M_Md_count (A 0) (iI a) (ov 40 A m σ)) (iI (countS d b p t a)) := by
  obtain ⟨H, hd, hMT, hb, hB⟩ := M
  have l1 := Md_count1 H hd (MT_K (KM_0 m) hMT)
  have l3 := Md_count3 H hb (MB_K (KM_0 m) hB)
  obtain ⟨⟨x1, x2, x3, x4, x5, x6⟩, hx⟩ := hMT
  refine ⟨_, ?_, KM_0 m⟩
  unfold M_Md_count
  have n0 : a ≠ 0 → ¬ iI a = (0 : Int32) := fun h z => h (iI_inj h1 h2 (by decide) (by decide) z)
  have n1 : a ≠ 1 → ¬ iI a = (1 : Int32) := fun h z => h (iI_inj h1 h2 (by decide) (by decide) z)
  have n2 : a ≠ 2 → ¬ iI a = (2 : Int32) := fun h z => h (iI_inj h1 h2 (by decide) (by decide) z)
  have n3 : a ≠ 3 → ¬ iI a = (3 : Int32) := fun h z => h (iI_inj h1 h2 (by decide) (by decide) z)
  have n4 : a ≠ 4 → ¬ iI a = (4 : Int32) := fun h z => h (iI_inj h1 h2 (by decide) (by decide) z)
  have n5 : a ≠ 5 → ¬ iI a = (5 : Int32) := fun h z => h (iI_inj h1 h2 (by decide) (by decide) z)
  have n6 : a ≠ 6 → ¬ iI a = (6 : Int32) := fun h z => h (iI_inj h1 h2 (by decide) (by decide) z)
  have n7 : a ≠ 7 → ¬ iI a = (7 : Int32) := fun h z => h (iI_inj h1 h2 (by decide) (by decide) z)
  have n8 : a ≠ 8 → ¬ iI a = (8 : Int32) := fun h z => h (iI_inj h1 h2 (by decide) (by decide) z)
  have n9 : a ≠ 9 → ¬ iI a = (9 : Int32) := fun h z => h (iI_inj h1 h2 (by decide) (by decide) z)
  have n10 : a ≠ 10 → ¬ iI a = (10 : Int32) := fun h z => h (iI_inj h1 h2 (by decide) (by decide) z)
  have n11 : a ≠ 11 → ¬ iI a = (11 : Int32) := fun h z => h (iI_inj h1 h2 (by decide) (by decide) z)
  rw [E_Md_count_0]
  rw [okO_ov, mK_0 H, gd_true, letT_eq]
  have e0 : sI (ov 40 A m σ) (A 0) 0 (0 : Int32) = (ov 40 A (sV m 0 0 (iI 0)) σ) := by
    simp (disch := omega) only [l_0, sI_ov H.1]
  rw [e0]
  unfold countS
  by_cases q0 : a = 0
  · rw [if_pos (show iI a = (0 : Int32) by rw [q0]; rfl), if_pos q0]
    simp (disch := omega) only [l_0, aI_ov H.1, sV_eq, l1, l3, x1, x2, x3, x4, x5, x6, hB.1.1, hB.1.2, hP.1, hT.1, mw_ov, Nat.reduceEqDiff, ↓reduceIte]
  rw [if_neg (n0 q0), if_neg q0]
  by_cases q1 : a = 1
  · rw [if_pos (show iI a = (1 : Int32) by rw [q1]; rfl), if_pos q1]
    simp (disch := omega) only [l_0, aI_ov H.1, sV_eq, l1, l3, x1, x2, x3, x4, x5, x6, hB.1.1, hB.1.2, hP.1, hT.1, mw_ov, Nat.reduceEqDiff, ↓reduceIte]
  rw [if_neg (n1 q1), if_neg q1]
  by_cases q2 : a = 2
  · rw [if_pos (show iI a = (2 : Int32) by rw [q2]; rfl), if_pos q2]
    simp (disch := omega) only [l_0, aI_ov H.1, sV_eq, l1, l3, x1, x2, x3, x4, x5, x6, hB.1.1, hB.1.2, hP.1, hT.1, mw_ov, Nat.reduceEqDiff, ↓reduceIte]
  rw [if_neg (n2 q2), if_neg q2]
  by_cases q3 : a = 3
  · rw [if_pos (show iI a = (3 : Int32) by rw [q3]; rfl), if_pos q3]
    simp (disch := omega) only [l_0, aI_ov H.1, sV_eq, l1, l3, x1, x2, x3, x4, x5, x6, hB.1.1, hB.1.2, hP.1, hT.1, mw_ov, Nat.reduceEqDiff, ↓reduceIte]
  rw [if_neg (n3 q3), if_neg q3]
  by_cases q4 : a = 4
  · rw [if_pos (show iI a = (4 : Int32) by rw [q4]; rfl), if_pos q4]
    simp (disch := omega) only [l_0, aI_ov H.1, sV_eq, l1, l3, x1, x2, x3, x4, x5, x6, hB.1.1, hB.1.2, hP.1, hT.1, mw_ov, Nat.reduceEqDiff, ↓reduceIte]
  rw [if_neg (n4 q4), if_neg q4]
  by_cases q5 : a = 5
  · rw [if_pos (show iI a = (5 : Int32) by rw [q5]; rfl), if_pos q5]
    simp (disch := omega) only [l_0, aI_ov H.1, sV_eq, l1, l3, x1, x2, x3, x4, x5, x6, hB.1.1, hB.1.2, hP.1, hT.1, mw_ov, Nat.reduceEqDiff, ↓reduceIte]
  rw [if_neg (n5 q5), if_neg q5]
  by_cases q6 : a = 6
  · rw [if_pos (show iI a = (6 : Int32) by rw [q6]; rfl), if_pos q6]
    simp (disch := omega) only [l_0, aI_ov H.1, sV_eq, l1, l3, x1, x2, x3, x4, x5, x6, hB.1.1, hB.1.2, hP.1, hT.1, mw_ov, Nat.reduceEqDiff, ↓reduceIte]
  rw [if_neg (n6 q6), if_neg q6]
  by_cases q7 : a = 7
  · rw [if_pos (show iI a = (7 : Int32) by rw [q7]; rfl), if_pos q7]
    simp (disch := omega) only [l_0, aI_ov H.1, sV_eq, l1, l3, x1, x2, x3, x4, x5, x6, hB.1.1, hB.1.2, hP.1, hT.1, mw_ov, Nat.reduceEqDiff, ↓reduceIte]
  rw [if_neg (n7 q7), if_neg q7]
  by_cases q8 : a = 8
  · rw [if_pos (show iI a = (8 : Int32) by rw [q8]; rfl), if_pos q8]
    simp (disch := omega) only [l_0, aI_ov H.1, sV_eq, l1, l3, x1, x2, x3, x4, x5, x6, hB.1.1, hB.1.2, hP.1, hT.1, mw_ov, Nat.reduceEqDiff, ↓reduceIte]
  rw [if_neg (n8 q8), if_neg q8]
  by_cases q9 : a = 9
  · rw [if_pos (show iI a = (9 : Int32) by rw [q9]; rfl), if_pos q9]
    simp (disch := omega) only [l_0, aI_ov H.1, sV_eq, l1, l3, x1, x2, x3, x4, x5, x6, hB.1.1, hB.1.2, hP.1, hT.1, mw_ov, Nat.reduceEqDiff, ↓reduceIte]
  rw [if_neg (n9 q9), if_neg q9]
  by_cases q10 : a = 10
  · rw [if_pos (show iI a = (10 : Int32) by rw [q10]; rfl), if_pos q10]
    simp (disch := omega) only [l_0, aI_ov H.1, sV_eq, l1, l3, x1, x2, x3, x4, x5, x6, hB.1.1, hB.1.2, hP.1, hT.1, mw_ov, Nat.reduceEqDiff, ↓reduceIte]
  rw [if_neg (n10 q10), if_neg q10]
  by_cases q11 : a = 11
  · rw [if_pos (show iI a = (11 : Int32) by rw [q11]; rfl), if_pos q11]
    simp (disch := omega) only [l_0, aI_ov H.1, sV_eq, l1, l3, x1, x2, x3, x4, x5, x6, hB.1.1, hB.1.2, hP.1, hT.1, mw_ov, Nat.reduceEqDiff, ↓reduceIte]
  rw [if_neg (n11 q11), if_neg q11]
  exact mw_ov _ _ _ _ _ _
