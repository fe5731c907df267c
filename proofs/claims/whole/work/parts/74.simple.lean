/-! ===== a hint is told ===== -/
def hiB (d : TD) (b : BD) (a c : Int) : BD := if (0 ≤ a ∧ a ≤ (dT d : Int)) ∧ (0 ≤ c ∧ c ≤ 64) ∧ nH b < 8 then (nT b, tS b, tR b, nH b + 1, up1 (hS b) (nH b) a.toNat, up1 (hN b) (nH b) c.toNat) else b
def hiR (d : TD) (b : BD) (a c : Int) : Int := if (0 ≤ a ∧ a ≤ (dT d : Int)) ∧ (0 ≤ c ∧ c ≤ 64) ∧ nH b < 8 then (nH b : Int) else -1
theorem hiB_wf {d : TD} {b : BD} (hd : wfD d) (hb : wfB d b) (a c : Int) : wfB d (hiB d b a c) := by
  have hT := hd.1
  unfold hiB
  by_cases q : (0 ≤ a ∧ a ≤ (dT d : Int)) ∧ (0 ≤ c ∧ c ≤ 64) ∧ nH b < 8
  · rw [if_pos q]
    obtain ⟨b1, b2, b3, b4, b5⟩ := hb
    have q3 := q.2.2
    refine ⟨b1, by show nH b + 1 ≤ 8; omega, b3, b4, fun j hj => ?_⟩
    show up1 (hS b) (nH b) a.toNat j ≤ 6 ∧ up1 (hN b) (nH b) c.toNat j ≤ 64
    by_cases e : j = nH b
    · rw [e, up1_eq, up1_eq]; omega
    · rw [up1_ne _ _ e, up1_ne _ _ e]; exact b5 j hj
  · rw [if_neg q]; exact hb
theorem c_hint {d : TD} {b : BD} {g z u : Nat} {A : Nat → Nat} {σ : AM} {m : VM} (C : CS0 d b g z u A σ m) (hg : g + 1 < 100000) {a c : Int} (h1 : -2147483648 ≤ a) (h2 : a < 2147483648) (h3 : -2147483648 ≤ c) (h4 : c < 2147483648) : ∃ (g' : Nat) (m' : VM), M_Bp_hint (A 0) (iI a) (iI c) (ov 68 A m σ) = some (iI (hiR d b a c), (ov 68 A (m') σ)) ∧ CS0 d (hiB d b a c) g' z u A σ m' ∧ Upd b g m (hiB d b a c) g' m' [1, 2, 3, 4, 5, 10, 12, 13, 14] := by
  have H := C.1
  have hd := C.2.1
  have hT7 := C.2.2.2.2.1.1.1
  have hb := C.2.2.2.2.2.1
  have hB := C.2.2.2.2.2.2.1
  have h10 := C.2.2.2.2.2.2.2.1
  have hH8 := hb.2.1
  have hT := hd.1
  by_cases q : (0 ≤ a ∧ a ≤ (dT d : Int)) ∧ (0 ≤ c ∧ c ≤ 64) ∧ nH b < 8
  · have hwf := hiB_wf hd hb a c
    have eB : hiB d b a c = (nT b, tS b, tR b, nH b + 1, up1 (hS b) (nH b) a.toNat, up1 (hN b) (nH b) c.toNat) := if_pos q
    have eR : hiR d b a c = (nH b : Int) := if_pos q
    rw [eB] at hwf
    rw [eB, eR]
    have q2 := q.2.2
    have ea : a = (a.toNat : Int) := by omega
    have ec : c = (c.toNat : Int) := by omega
    have hK : Ks [1, 2, 3, 4, 5, 10, 12, 13, 14] m (sV (sV (sV (sV m 30 (nH b) (iI a)) 31 (nH b) (iI c)) 27 8 (iI ((nH b + 1 : Nat) : Int))) 27 10 (iI ((g + 1 : Nat) : Int))) := Ks_V (Ks_V (Ks_A (Ks_A (Ks_r _ _) _ _ (by decide)) _ _ (by decide)) _ (by decide)) _ (by decide)
    refine ⟨g + 1, _, ?_, CS0_upd C hg (Ks_sub hK (by decide)) hwf ⟨⟨?_, ?_⟩, ?_, ?_, fun j hj => ?_, fun j hj => ?_⟩ ?_, Or.inr ⟨rfl, hK⟩⟩
    · have hadd : M_Bk_addHint (A 27) (iI a) (iI c) (ov 68 A m σ) = some (iI (nH b : Int), (ov 68 A (sV (sV (sV (sV m 30 (nH b) (iI a)) 31 (nH b) (iI c)) 27 8 (iI ((nH b + 1 : Nat) : Int))) 27 10 (iI ((g + 1 : Nat) : Int))) σ)) := by
        have e1 : ((nH b + 1 : Nat) : Int) - 1 = (nH b : Int) := by omega
        unfold M_Bk_addHint
        rw [E_Bk_addHint_0]; simp (disch := omega) only [l_1, l_8, cK_27 H, cR_27_2 H, cK_30 H, cN_30 H, cR_27_3 H, cK_31 H, cN_31 H, letT_eq, gd_true, bnd_some, aR_ov, aK_ov, aN_ov, okO_ov, aI_ov H.1, aL_ov H.1, sI_ov H.1, sL_ov H.1, sV_eq, sV_ne, sV_2, sW_eq, sW_ne, sW_1, iI_add, iI_sub, iI_mul, iI_neg, iI_lt, iI_eq, iI_cl, nI_iI, gd_in, bZ_0, bZ_1, bZ_eq, isB_bZ, isB_0, isB_1, nar_bZ, nar_0, nar_1, mw_ov, iI_s, iI_na, iI_nm, Int.toNat_natCast, Int.add_zero, Int.zero_add, Nat.reduceEqDiff, Nat.reduceAdd, Int.reduceAdd, Int.reduceNeg, Int.reduceSub, Int.reduceMul, Int.reduceLT, Int.reduceEq, Int.reduceToNat, reduceCtorEq, ↓reduceIte, hB.1.2, h10, e1]
        rw [if_pos (by omega), mw_ov]
      unfold M_Bp_hint
      rw [E_Bp_hint_0]; simp (disch := omega) only [E_Bp_hint_1, l_0, l_1, l_64, cK_0 H, cR_0_1 H, cK_10 H, cR_0_3 H, cK_27 H, q_Tw_things (LTt H), letT_eq, gd_true, bnd_some, aR_ov, aK_ov, aN_ov, okO_ov, aI_ov H.1, aL_ov H.1, sI_ov H.1, sL_ov H.1, sV_eq, sV_ne, sV_2, sW_eq, sW_ne, sW_1, iI_add, iI_sub, iI_mul, iI_neg, iI_lt, iI_eq, iI_cl, nI_iI, gd_in, bZ_0, bZ_1, bZ_eq, isB_bZ, isB_0, isB_1, nar_bZ, nar_0, nar_1, mw_ov, iI_s, iI_na, iI_nm, Int.toNat_natCast, Int.add_zero, Int.zero_add, Nat.reduceEqDiff, Nat.reduceAdd, Int.reduceAdd, Int.reduceNeg, Int.reduceSub, Int.reduceMul, Int.reduceLT, Int.reduceEq, Int.reduceToNat, reduceCtorEq, ↓reduceIte, hT7, hadd]
      rw [if_neg (by omega), if_neg (by omega), if_neg (by omega), if_neg (by omega), mw_ov]
    · simp (disch := decide) only [sV_eq, sW_eq, sV_ne, sW_ne, sV_2, sW_1, Nat.reduceEqDiff, ↓reduceIte]; exact hB.1.1
    · simp (disch := decide) only [sV_eq, sW_eq, sV_ne, sW_ne, sV_2, sW_1, Nat.reduceEqDiff, ↓reduceIte]
    · simp (disch := decide) only [sV_eq, sW_eq, sV_ne, sW_ne, sV_2, sW_1, Nat.reduceEqDiff, ↓reduceIte]; exact hB.2.1
    · simp (disch := decide) only [sV_eq, sW_eq, sV_ne, sW_ne, sV_2, sW_1, Nat.reduceEqDiff, ↓reduceIte]; exact hB.2.2.1
    · simp (disch := decide) only [sV_eq, sW_eq, sV_ne, sW_ne, sV_2, sW_1, Nat.reduceEqDiff, ↓reduceIte]
      show _ = iI ((up1 (hS b) (nH b) a.toNat j : Nat) : Int)
      by_cases e : j = nH b
      · rw [if_pos e, e, up1_eq, ← ea]
      · rw [if_neg e, up1_ne _ _ e]; exact hB.2.2.2.1 j hj
    · simp (disch := decide) only [sV_eq, sW_eq, sV_ne, sW_ne, sV_2, sW_1, Nat.reduceEqDiff, ↓reduceIte]
      show _ = iI ((up1 (hN b) (nH b) c.toNat j : Nat) : Int)
      by_cases e : j = nH b
      · rw [if_pos e, e, up1_eq, ← ec]
      · rw [if_neg e, up1_ne _ _ e]; exact hB.2.2.2.2 j hj
    · simp (disch := decide) only [sV_eq, sW_eq, sV_ne, sW_ne, sV_2, sW_1, Nat.reduceEqDiff, ↓reduceIte]
  · have eB : hiB d b a c = b := if_neg q
    have eR : hiR d b a c = -1 := if_neg q
    rw [eB, eR]
    refine ⟨g, m, ?_, C, Or.inl ⟨rfl, rfl, rfl⟩⟩
    unfold M_Bp_hint
    by_cases q1 : (0 ≤ a ∧ a ≤ (dT d : Int)) ∧ (0 ≤ c ∧ c ≤ 64)
    · have hadd : M_Bk_addHint (A 27) (iI a) (iI c) (ov 68 A m σ) = some (iI (-1), (ov 68 A m σ)) := by
        have q2 : ¬ nH b < 8 := fun z => q ⟨q1.1, q1.2, z⟩
        unfold M_Bk_addHint
        rw [E_Bk_addHint_0]
        simp (disch := omega) only [cK_27 H, okO_ov, gd_true, aI_ov H.1, hB.1.2, l_8, l_1, iI_neg, iI_lt]
        rw [if_neg (by omega), mw_ov]
      rw [E_Bp_hint_0]; simp (disch := omega) only [E_Bp_hint_1, l_0, l_1, l_64, cK_0 H, cR_0_1 H, cK_10 H, cR_0_3 H, cK_27 H, q_Tw_things (LTt H), letT_eq, gd_true, bnd_some, aR_ov, aK_ov, aN_ov, okO_ov, aI_ov H.1, aL_ov H.1, sI_ov H.1, sL_ov H.1, sV_eq, sV_ne, sV_2, sW_eq, sW_ne, sW_1, iI_add, iI_sub, iI_mul, iI_neg, iI_lt, iI_eq, iI_cl, nI_iI, gd_in, bZ_0, bZ_1, bZ_eq, isB_bZ, isB_0, isB_1, nar_bZ, nar_0, nar_1, mw_ov, iI_s, iI_na, iI_nm, Int.toNat_natCast, Int.add_zero, Int.zero_add, Nat.reduceEqDiff, Nat.reduceAdd, Int.reduceAdd, Int.reduceNeg, Int.reduceSub, Int.reduceMul, Int.reduceLT, Int.reduceEq, Int.reduceToNat, reduceCtorEq, ↓reduceIte, hT7, hadd]
      rw [if_neg (by omega), if_neg (by omega), if_neg (by omega), if_neg (by omega), mw_ov]
    · rw [E_Bp_hint_0]
      simp (disch := omega) only [E_Bp_hint_1, l_0, l_1, l_64, iI_neg, iI_lt, cK_0 H, cR_0_1 H, cK_10 H, okO_ov, aR_ov, gd_true, q_Tw_things (LTt H), bnd_some, hT7]
      by_cases z1 : a < 0
      · rw [if_pos z1, mw_ov]
      · rw [if_neg z1]
        by_cases z2 : (dT d : Int) < a
        · rw [if_pos z2, mw_ov]
        · rw [if_neg z2]
          by_cases z3 : c < 0
          · rw [if_pos z3, mw_ov]
          · rw [if_neg z3, if_pos (by omega), mw_ov]
theorem m_hint {d : TD} {b : BD} {A : Nat → Nat} {σ : AM} {m : VM} (M : MS0 d b A σ m) {a c : Int} (h1 : -2147483648 ≤ a) (h2 : a < 2147483648) (h3 : -2147483648 ≤ c) (h4 : c < 2147483648) : ∃ m' : VM, M_Md_hint (A 0) (iI a) (iI c) (ov 40 A m σ) = some (iI (hiR d b a c), (ov 40 A (m') σ)) ∧ MS0 d (hiB d b a c) A σ m' ∧ Ks [20, 22, 23, 24, 25] m m' := by
  obtain ⟨H, hd, hT, hb, hB⟩ := M
  have hT6 := hd.1
  have hw1 := q_Md_within (a := a) (l := 0) (h := (dT d : Int)) (ov 40 A (sV m 0 0 (iI 0)) σ) h1 h2 (by omega) (by omega) (by omega) (by omega)
  have hw2 := q_Md_within (a := c) (l := 0) (h := 64) (ov 40 A (sV m 0 0 (iI 0)) σ) h3 h4 (by omega) (by omega) (by omega) (by omega)
  have hH8 := hb.2.1
  have h10 := hT.1.1
  by_cases q : (0 ≤ a ∧ a ≤ (dT d : Int)) ∧ (0 ≤ c ∧ c ≤ 64) ∧ nH b < 8
  · have hwf := hiB_wf hd hb a c
    have eB : hiB d b a c = (nT b, tS b, tR b, nH b + 1, up1 (hS b) (nH b) a.toNat, up1 (hN b) (nH b) c.toNat) := if_pos q
    have eR : hiR d b a c = (nH b : Int) := if_pos q
    rw [eB] at hwf
    rw [eB, eR]
    rw [decide_eq_true q.1] at hw1
    rw [decide_eq_true q.2.1] at hw2
    have q2 := q.2.2
    have ea : a = (a.toNat : Int) := by omega
    have ec : c = (c.toNat : Int) := by omega
    have e1 : ((nH b + 1 : Nat) : Int) - 1 = (nH b : Int) := by omega
    have hK : Ks [20, 22, 23, 24, 25] m (sV (sV (sV (sV m 0 0 (iI 0)) 23 (nH b) (iI a)) 24 (nH b) (iI c)) 0 42 (iI ((nH b + 1 : Nat) : Int))) := Ks_V (Ks_A (Ks_A (Ks_V (Ks_r _ _) _ (by decide)) _ _ (by decide)) _ _ (by decide)) _ (by decide)
    refine ⟨_, ?_, ⟨H, hd, MT_k (hK 20 (by decide)) hT, hwf, ⟨?_, ?_⟩, ?_, ?_, fun j hj => ?_, fun j hj => ?_⟩, hK⟩
    · unfold M_Md_hint
      rw [E_Md_hint_0]; simp (disch := omega) only [E_Md_hint_1, l_0, l_1, l_8, l_64, mK_0 H, mR_43 H, mK_23 H, mN_23 H, mR_44 H, mK_24 H, mN_24 H, letT_eq, gd_true, bnd_some, aR_ov, aK_ov, aN_ov, okO_ov, aI_ov H.1, aL_ov H.1, sI_ov H.1, sL_ov H.1, sV_eq, sV_ne, sV_2, sW_eq, sW_ne, sW_1, iI_add, iI_sub, iI_mul, iI_neg, iI_lt, iI_eq, iI_cl, nI_iI, gd_in, bZ_0, bZ_1, bZ_eq, isB_bZ, isB_0, isB_1, nar_bZ, nar_0, nar_1, mw_ov, iI_s, iI_na, iI_nm, Int.toNat_natCast, Int.add_zero, Int.zero_add, Nat.reduceEqDiff, Nat.reduceAdd, Int.reduceAdd, Int.reduceNeg, Int.reduceSub, Int.reduceMul, Int.reduceLT, Int.reduceEq, Int.reduceToNat, reduceCtorEq, ↓reduceIte, h10, hw1, hw2, hB.1.2, e1]
      rw [if_neg (by omega), mw_ov]
    · simp (disch := decide) only [sV_eq, sW_eq, sV_ne, sW_ne, sV_2, sW_1, Nat.reduceEqDiff, ↓reduceIte]; exact hB.1.1
    · simp (disch := decide) only [sV_eq, sW_eq, sV_ne, sW_ne, sV_2, sW_1, Nat.reduceEqDiff, ↓reduceIte]
    · simp (disch := decide) only [sV_eq, sW_eq, sV_ne, sW_ne, sV_2, sW_1, Nat.reduceEqDiff, ↓reduceIte]; exact hB.2.1
    · simp (disch := decide) only [sV_eq, sW_eq, sV_ne, sW_ne, sV_2, sW_1, Nat.reduceEqDiff, ↓reduceIte]; exact hB.2.2.1
    · simp (disch := decide) only [sV_eq, sW_eq, sV_ne, sW_ne, sV_2, sW_1, Nat.reduceEqDiff, ↓reduceIte]
      show _ = iI ((up1 (hS b) (nH b) a.toNat j : Nat) : Int)
      by_cases e : j = nH b
      · rw [if_pos e, e, up1_eq, ← ea]
      · rw [if_neg e, up1_ne _ _ e]; exact hB.2.2.2.1 j hj
    · simp (disch := decide) only [sV_eq, sW_eq, sV_ne, sW_ne, sV_2, sW_1, Nat.reduceEqDiff, ↓reduceIte]
      show _ = iI ((up1 (hN b) (nH b) c.toNat j : Nat) : Int)
      by_cases e : j = nH b
      · rw [if_pos e, e, up1_eq, ← ec]
      · rw [if_neg e, up1_ne _ _ e]; exact hB.2.2.2.2 j hj
  · have eB : hiB d b a c = b := if_neg q
    have eR : hiR d b a c = -1 := if_neg q
    rw [eB, eR]
    have hK : Ks [20, 22, 23, 24, 25] m (sV m 0 0 (iI 0)) := Ks_V (Ks_r _ _) _ (by decide)
    refine ⟨sV m 0 0 (iI 0), ?_, ⟨H, hd, MT_K (KM_0 m) hT, hb, MB_K (KM_0 m) hB⟩, hK⟩
    unfold M_Md_hint
    by_cases q1 : 0 ≤ a ∧ a ≤ (dT d : Int)
    · rw [decide_eq_true q1] at hw1
      by_cases q2 : 0 ≤ c ∧ c ≤ 64
      · rw [decide_eq_true q2] at hw2
        have q3 : ¬ nH b < 8 := fun z => q ⟨q1, q2, z⟩
        rw [E_Md_hint_0]
        simp (disch := omega) only [E_Md_hint_1, mK_0 H, okO_ov, gd_true, letT_eq, sI_ov H.1, l_0, l_1, l_8, l_64, iI_neg, h10, hw1, hw2, bnd_some, bZ_0, aI_ov H.1, sV_eq, hB.1.2, iI_eq, reduceCtorEq, ↓reduceIte, Nat.reduceEqDiff]
        rw [if_pos (by omega), mw_ov]
      · rw [decide_eq_false q2] at hw2
        rw [E_Md_hint_0]; simp (disch := omega) only [E_Md_hint_1, l_0, l_1, l_8, l_64, mK_0 H, mR_43 H, mK_23 H, mN_23 H, mR_44 H, mK_24 H, mN_24 H, letT_eq, gd_true, bnd_some, aR_ov, aK_ov, aN_ov, okO_ov, aI_ov H.1, aL_ov H.1, sI_ov H.1, sL_ov H.1, sV_eq, sV_ne, sV_2, sW_eq, sW_ne, sW_1, iI_add, iI_sub, iI_mul, iI_neg, iI_lt, iI_eq, iI_cl, nI_iI, gd_in, bZ_0, bZ_1, bZ_eq, isB_bZ, isB_0, isB_1, nar_bZ, nar_0, nar_1, mw_ov, iI_s, iI_na, iI_nm, Int.toNat_natCast, Int.add_zero, Int.zero_add, Nat.reduceEqDiff, Nat.reduceAdd, Int.reduceAdd, Int.reduceNeg, Int.reduceSub, Int.reduceMul, Int.reduceLT, Int.reduceEq, Int.reduceToNat, reduceCtorEq, ↓reduceIte, h10, hw1, hw2]
    · rw [decide_eq_false q1] at hw1
      rw [E_Md_hint_0]; simp (disch := omega) only [E_Md_hint_1, l_0, l_1, l_8, l_64, mK_0 H, mR_43 H, mK_23 H, mN_23 H, mR_44 H, mK_24 H, mN_24 H, letT_eq, gd_true, bnd_some, aR_ov, aK_ov, aN_ov, okO_ov, aI_ov H.1, aL_ov H.1, sI_ov H.1, sL_ov H.1, sV_eq, sV_ne, sV_2, sW_eq, sW_ne, sW_1, iI_add, iI_sub, iI_mul, iI_neg, iI_lt, iI_eq, iI_cl, nI_iI, gd_in, bZ_0, bZ_1, bZ_eq, isB_bZ, isB_0, isB_1, nar_bZ, nar_0, nar_1, mw_ov, iI_s, iI_na, iI_nm, Int.toNat_natCast, Int.add_zero, Int.zero_add, Nat.reduceEqDiff, Nat.reduceAdd, Int.reduceAdd, Int.reduceNeg, Int.reduceSub, Int.reduceMul, Int.reduceLT, Int.reduceEq, Int.reduceToNat, reduceCtorEq, ↓reduceIte, h10, hw1]
/-! ===== may, cost ===== -/
def mayS (d : TD) (a : Int) : Int := if 0 ≤ a ∧ a < (dW d : Int) then (if dMay d a.toNat = true then 1 else 0) else -1
theorem c_may {d : TD} {b : BD} {g z u : Nat} {A : Nat → Nat} {σ : AM} {m : VM} (C : CS0 d b g z u A σ m) {a : Int} (h1 : -2147483648 ≤ a) (h2 : a < 2147483648) : M_Bp_may (A 0) (iI a) (ov 68 A m σ) = some (iI (mayS d a), (ov 68 A m σ)) := by
  obtain ⟨H, hd, hD, _, hT, _⟩ := C
  have hw := q_Tw_hasWeights H hd hT h1 h2
  unfold M_Bp_may mayS
  by_cases q : 0 ≤ a ∧ a < (dW d : Int)
  · rw [decide_eq_true q] at hw
    rw [if_pos q]
    obtain ⟨n, rfl⟩ := Int.eq_ofNat_of_zero_le q.1
    have hn := q_Ls_numberOf H hd hD hT (w := n) (by omega)
    have hW := hd.2.2.2.2.2.2
    have hN := NL_le d
    rw [show ((n : Nat) : Int).toNat = n from rfl]
    by_cases hm : dMay d n = true
    · have hlt := num_lt (by omega) hm
      rw [if_pos hm] at hn ⊢
      rw [E_Bp_may_0]; simp (disch := omega) only [E_Bp_may_1, l_0, l_1, cK_0 H, cR_0_1 H, cK_10 H, cR_0_2 H, cK_17 H, letT_eq, gd_true, bnd_some, aR_ov, aK_ov, aN_ov, okO_ov, aI_ov H.1, aL_ov H.1, sI_ov H.1, sL_ov H.1, sV_eq, sV_ne, sV_2, sW_eq, sW_ne, sW_1, iI_add, iI_sub, iI_mul, iI_neg, iI_lt, iI_eq, iI_cl, nI_iI, gd_in, bZ_0, bZ_1, bZ_eq, isB_bZ, isB_0, isB_1, nar_bZ, nar_0, nar_1, mw_ov, iI_s, iI_na, iI_nm, Int.toNat_natCast, Int.add_zero, Int.zero_add, Nat.reduceEqDiff, Nat.reduceAdd, Int.reduceAdd, Int.reduceNeg, Int.reduceSub, Int.reduceMul, Int.reduceLT, Int.reduceEq, Int.reduceToNat, reduceCtorEq, ↓reduceIte, hw, hn]
      rw [if_neg (by omega), mw_ov]
    · rw [if_neg hm] at hn ⊢
      rw [E_Bp_may_0]; simp (disch := omega) only [E_Bp_may_1, l_0, l_1, cK_0 H, cR_0_1 H, cK_10 H, cR_0_2 H, cK_17 H, letT_eq, gd_true, bnd_some, aR_ov, aK_ov, aN_ov, okO_ov, aI_ov H.1, aL_ov H.1, sI_ov H.1, sL_ov H.1, sV_eq, sV_ne, sV_2, sW_eq, sW_ne, sW_1, iI_add, iI_sub, iI_mul, iI_neg, iI_lt, iI_eq, iI_cl, nI_iI, gd_in, bZ_0, bZ_1, bZ_eq, isB_bZ, isB_0, isB_1, nar_bZ, nar_0, nar_1, mw_ov, iI_s, iI_na, iI_nm, Int.toNat_natCast, Int.add_zero, Int.zero_add, Nat.reduceEqDiff, Nat.reduceAdd, Int.reduceAdd, Int.reduceNeg, Int.reduceSub, Int.reduceMul, Int.reduceLT, Int.reduceEq, Int.reduceToNat, reduceCtorEq, ↓reduceIte, hw, hn]
  · rw [decide_eq_false q] at hw
    rw [if_neg q]
    rw [E_Bp_may_0]; simp (disch := omega) only [E_Bp_may_1, l_0, l_1, cK_0 H, cR_0_1 H, cK_10 H, cR_0_2 H, cK_17 H, letT_eq, gd_true, bnd_some, aR_ov, aK_ov, aN_ov, okO_ov, aI_ov H.1, aL_ov H.1, sI_ov H.1, sL_ov H.1, sV_eq, sV_ne, sV_2, sW_eq, sW_ne, sW_1, iI_add, iI_sub, iI_mul, iI_neg, iI_lt, iI_eq, iI_cl, nI_iI, gd_in, bZ_0, bZ_1, bZ_eq, isB_bZ, isB_0, isB_1, nar_bZ, nar_0, nar_1, mw_ov, iI_s, iI_na, iI_nm, Int.toNat_natCast, Int.add_zero, Int.zero_add, Nat.reduceEqDiff, Nat.reduceAdd, Int.reduceAdd, Int.reduceNeg, Int.reduceSub, Int.reduceMul, Int.reduceLT, Int.reduceEq, Int.reduceToNat, reduceCtorEq, ↓reduceIte, hw]
theorem m_may {d : TD} {b : BD} {A : Nat → Nat} {σ : AM} {m : VM} (M : MS0 d b A σ m) {a : Int} (h1 : -2147483648 ≤ a) (h2 : a < 2147483648) : Mf A σ m (M_Md_may (A 0) (iI a) (ov 40 A m σ)) (iI (mayS d a)) := by
  obtain ⟨H, hd, hT, hb, hB⟩ := M
  have hw := q_Md_isWeights H hd (MT_K (KM_0 m) hT) h1 h2
  have hW := hd.2.2.2.2.2.2
  refine ⟨_, ?_, KM_0 m⟩
  unfold M_Md_may mayS
  by_cases q : 0 ≤ a ∧ a < (dW d : Int)
  · rw [decide_eq_true q] at hw
    rw [if_pos q]
    obtain ⟨n, rfl⟩ := Int.eq_ofNat_of_zero_le q.1
    have e13 := hT.2.2.1 n (by omega)
    rw [show ((n : Nat) : Int).toNat = n from rfl]
    by_cases hm : dMay d n = true
    · rw [if_pos hm]
      rw [hm] at e13
      rw [E_Md_may_0]; simp (disch := omega) only [E_Md_may_1, l_0, l_1, mK_0 H, mR_28 H, mK_13 H, mN_13 H, letT_eq, gd_true, bnd_some, aR_ov, aK_ov, aN_ov, okO_ov, aI_ov H.1, aL_ov H.1, sI_ov H.1, sL_ov H.1, sV_eq, sV_ne, sV_2, sW_eq, sW_ne, sW_1, iI_add, iI_sub, iI_mul, iI_neg, iI_lt, iI_eq, iI_cl, nI_iI, gd_in, bZ_0, bZ_1, bZ_eq, isB_bZ, isB_0, isB_1, nar_bZ, nar_0, nar_1, mw_ov, iI_s, iI_na, iI_nm, Int.toNat_natCast, Int.add_zero, Int.zero_add, Nat.reduceEqDiff, Nat.reduceAdd, Int.reduceAdd, Int.reduceNeg, Int.reduceSub, Int.reduceMul, Int.reduceLT, Int.reduceEq, Int.reduceToNat, reduceCtorEq, ↓reduceIte, hw, e13]
    · rw [if_neg hm]
      rw [Bool.not_eq_true] at hm
      rw [hm] at e13
      rw [E_Md_may_0]; simp (disch := omega) only [E_Md_may_1, l_0, l_1, mK_0 H, mR_28 H, mK_13 H, mN_13 H, letT_eq, gd_true, bnd_some, aR_ov, aK_ov, aN_ov, okO_ov, aI_ov H.1, aL_ov H.1, sI_ov H.1, sL_ov H.1, sV_eq, sV_ne, sV_2, sW_eq, sW_ne, sW_1, iI_add, iI_sub, iI_mul, iI_neg, iI_lt, iI_eq, iI_cl, nI_iI, gd_in, bZ_0, bZ_1, bZ_eq, isB_bZ, isB_0, isB_1, nar_bZ, nar_0, nar_1, mw_ov, iI_s, iI_na, iI_nm, Int.toNat_natCast, Int.add_zero, Int.zero_add, Nat.reduceEqDiff, Nat.reduceAdd, Int.reduceAdd, Int.reduceNeg, Int.reduceSub, Int.reduceMul, Int.reduceLT, Int.reduceEq, Int.reduceToNat, reduceCtorEq, ↓reduceIte, hw, e13]
  · rw [decide_eq_false q] at hw
    rw [if_neg q]
    rw [E_Md_may_0]; simp (disch := omega) only [E_Md_may_1, l_0, l_1, mK_0 H, mR_28 H, mK_13 H, mN_13 H, letT_eq, gd_true, bnd_some, aR_ov, aK_ov, aN_ov, okO_ov, aI_ov H.1, aL_ov H.1, sI_ov H.1, sL_ov H.1, sV_eq, sV_ne, sV_2, sW_eq, sW_ne, sW_1, iI_add, iI_sub, iI_mul, iI_neg, iI_lt, iI_eq, iI_cl, nI_iI, gd_in, bZ_0, bZ_1, bZ_eq, isB_bZ, isB_0, isB_1, nar_bZ, nar_0, nar_1, mw_ov, iI_s, iI_na, iI_nm, Int.toNat_natCast, Int.add_zero, Int.zero_add, Nat.reduceEqDiff, Nat.reduceAdd, Int.reduceAdd, Int.reduceNeg, Int.reduceSub, Int.reduceMul, Int.reduceLT, Int.reduceEq, Int.reduceToNat, reduceCtorEq, ↓reduceIte, hw]
def costS (d : TD) (a : Int) : Int32 := if 0 ≤ a ∧ a < (sN d : Int) then dCo d a.toNat else iI (-1)
theorem q_Tw_costOf {A : Nat → Nat} {σ : AM} (H : LC A σ) {m : VM} {d : TD} (hd : wfD d) (hm : CTw d m) {n : Nat} (hn : n < sN d) : M_Tw_costOf (A 10) (iI (n : Int)) (ov 68 A m σ) = some (dCo d n, (ov 68 A m σ)) := by
  have hN := sN_le hd
  have hs := q_Tw_hasSet H hd hm (a := (n : Int)) (by omega) (by omega)
  rw [decide_eq_true (by omega)] at hs
  unfold M_Tw_costOf
  rw [E_Tw_costOf_0]; simp (disch := omega) only [E_Tw_costOf_1, l_0, cK_10 H, cR_10_4 H, cK_15 H, cN_15 H, letT_eq, gd_true, bnd_some, aR_ov, aK_ov, aN_ov, okO_ov, aI_ov H.1, aL_ov H.1, sI_ov H.1, sL_ov H.1, sV_eq, sV_ne, sV_2, sW_eq, sW_ne, sW_1, iI_add, iI_sub, iI_mul, iI_neg, iI_lt, iI_eq, iI_cl, nI_iI, gd_in, bZ_0, bZ_1, bZ_eq, isB_bZ, isB_0, isB_1, nar_bZ, nar_0, nar_1, mw_ov, iI_s, iI_na, iI_nm, Int.toNat_natCast, Int.add_zero, Int.zero_add, Nat.reduceEqDiff, Nat.reduceAdd, Int.reduceAdd, Int.reduceNeg, Int.reduceSub, Int.reduceMul, Int.reduceLT, Int.reduceEq, Int.reduceToNat, reduceCtorEq, ↓reduceIte, hs, hm.2.2.2.2 n hn]
theorem c_cost {d : TD} {b : BD} {g z u : Nat} {A : Nat → Nat} {σ : AM} {m : VM} (C : CS0 d b g z u A σ m) {a : Int} (h1 : -2147483648 ≤ a) (h2 : a < 2147483648) : M_Bp_cost (A 0) (iI a) (ov 68 A m σ) = some (costS d a, (ov 68 A m σ)) := by
  obtain ⟨H, hd, hD, _, hT, _⟩ := C
  have hw := q_Tw_hasSet H hd hT h1 h2
  unfold M_Bp_cost costS
  by_cases q : 0 ≤ a ∧ a < (sN d : Int)
  · rw [decide_eq_true q] at hw
    rw [if_pos q]
    obtain ⟨n, rfl⟩ := Int.eq_ofNat_of_zero_le q.1
    have hc := q_Tw_costOf H hd hT (n := n) (by omega)
    rw [E_Bp_cost_0]; simp (disch := omega) only [E_Bp_cost_1, l_0, l_1, cK_0 H, cR_0_1 H, cK_10 H, letT_eq, gd_true, bnd_some, aR_ov, aK_ov, aN_ov, okO_ov, aI_ov H.1, aL_ov H.1, sI_ov H.1, sL_ov H.1, sV_eq, sV_ne, sV_2, sW_eq, sW_ne, sW_1, iI_add, iI_sub, iI_mul, iI_neg, iI_lt, iI_eq, iI_cl, nI_iI, gd_in, bZ_0, bZ_1, bZ_eq, isB_bZ, isB_0, isB_1, nar_bZ, nar_0, nar_1, mw_ov, iI_s, iI_na, iI_nm, Int.toNat_natCast, Int.add_zero, Int.zero_add, Nat.reduceEqDiff, Nat.reduceAdd, Int.reduceAdd, Int.reduceNeg, Int.reduceSub, Int.reduceMul, Int.reduceLT, Int.reduceEq, Int.reduceToNat, reduceCtorEq, ↓reduceIte, hw, hc]
  · rw [decide_eq_false q] at hw
    rw [if_neg q]
    rw [E_Bp_cost_0]; simp (disch := omega) only [E_Bp_cost_1, l_0, l_1, cK_0 H, cR_0_1 H, cK_10 H, letT_eq, gd_true, bnd_some, aR_ov, aK_ov, aN_ov, okO_ov, aI_ov H.1, aL_ov H.1, sI_ov H.1, sL_ov H.1, sV_eq, sV_ne, sV_2, sW_eq, sW_ne, sW_1, iI_add, iI_sub, iI_mul, iI_neg, iI_lt, iI_eq, iI_cl, nI_iI, gd_in, bZ_0, bZ_1, bZ_eq, isB_bZ, isB_0, isB_1, nar_bZ, nar_0, nar_1, mw_ov, iI_s, iI_na, iI_nm, Int.toNat_natCast, Int.add_zero, Int.zero_add, Nat.reduceEqDiff, Nat.reduceAdd, Int.reduceAdd, Int.reduceNeg, Int.reduceSub, Int.reduceMul, Int.reduceLT, Int.reduceEq, Int.reduceToNat, reduceCtorEq, ↓reduceIte, hw]
theorem m_cost {d : TD} {b : BD} {A : Nat → Nat} {σ : AM} {m : VM} (M : MS0 d b A σ m) {a : Int} (h1 : -2147483648 ≤ a) (h2 : a < 2147483648) : Mf A σ m (M_Md_cost (A 0) (iI a) (ov 40 A m σ)) (costS d a) := by
  obtain ⟨H, hd, hT, hb, hB⟩ := M
  have hw := q_Md_isSet H hd (MT_K (KM_0 m) hT) h1 h2
  have hN := sN_le hd
  refine ⟨_, ?_, KM_0 m⟩
  unfold M_Md_cost costS
  by_cases q : 0 ≤ a ∧ a < (sN d : Int)
  · rw [decide_eq_true q] at hw
    rw [if_pos q]
    obtain ⟨n, rfl⟩ := Int.eq_ofNat_of_zero_le q.1
    have e20 := hT.2.2.2.2.2 n (by omega)
    rw [E_Md_cost_0]; simp (disch := omega) only [E_Md_cost_1, l_0, l_1, mK_0 H, mR_36 H, mK_20 H, mN_20 H, letT_eq, gd_true, bnd_some, aR_ov, aK_ov, aN_ov, okO_ov, aI_ov H.1, aL_ov H.1, sI_ov H.1, sL_ov H.1, sV_eq, sV_ne, sV_2, sW_eq, sW_ne, sW_1, iI_add, iI_sub, iI_mul, iI_neg, iI_lt, iI_eq, iI_cl, nI_iI, gd_in, bZ_0, bZ_1, bZ_eq, isB_bZ, isB_0, isB_1, nar_bZ, nar_0, nar_1, mw_ov, iI_s, iI_na, iI_nm, Int.toNat_natCast, Int.add_zero, Int.zero_add, Nat.reduceEqDiff, Nat.reduceAdd, Int.reduceAdd, Int.reduceNeg, Int.reduceSub, Int.reduceMul, Int.reduceLT, Int.reduceEq, Int.reduceToNat, reduceCtorEq, ↓reduceIte, hw, e20]
  · rw [decide_eq_false q] at hw
    rw [if_neg q]
    rw [E_Md_cost_0]; simp (disch := omega) only [E_Md_cost_1, l_0, l_1, mK_0 H, mR_36 H, mK_20 H, mN_20 H, letT_eq, gd_true, bnd_some, aR_ov, aK_ov, aN_ov, okO_ov, aI_ov H.1, aL_ov H.1, sI_ov H.1, sL_ov H.1, sV_eq, sV_ne, sV_2, sW_eq, sW_ne, sW_1, iI_add, iI_sub, iI_mul, iI_neg, iI_lt, iI_eq, iI_cl, nI_iI, gd_in, bZ_0, bZ_1, bZ_eq, isB_bZ, isB_0, isB_1, nar_bZ, nar_0, nar_1, mw_ov, iI_s, iI_na, iI_nm, Int.toNat_natCast, Int.add_zero, Int.zero_add, Nat.reduceEqDiff, Nat.reduceAdd, Int.reduceAdd, Int.reduceNeg, Int.reduceSub, Int.reduceMul, Int.reduceLT, Int.reduceEq, Int.reduceToNat, reduceCtorEq, ↓reduceIte, hw]
