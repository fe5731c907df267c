/-! ===== the heaviest that does not ring, the lightest that does; least sets ===== -/
def nrB (f : Nat → Nat) (lt : Bool) (s q : Nat) : Bool := if f s = f q then decide (pc6 s < pc6 q) else if lt = true then decide (f s < f q) else decide (f q < f s)
def hvN (d : TD) (w : Nat) (lt : Bool) : Nat → Int
  | 0 => -1
  | k + 1 => if ringsAt d w k = lt ∧ (hvN d w lt k = -1 ∨ nrB (wtS (dg d w)) lt k (hvN d w lt k).toNat = true) then (k : Int) else hvN d w lt k
theorem hvN_lo (d : TD) (w : Nat) (lt : Bool) (k : Nat) : -1 ≤ hvN d w lt k ∧ hvN d w lt k < k := by
  induction k with
  | zero => exact ⟨Int.le_refl _, by show (-1 : Int) < ((0 : Nat) : Int); omega⟩
  | succ k ih => unfold hvN; split <;> omega
theorem q_Ls_weightOf {A : Nat → Nat} {σ : AM} (H : LC A σ) {m : VM} {s : Nat} (hs : s < 64) : M_Ls_weightOf (A 17) (iI (s : Int)) (ov 68 A m σ) = some (m.1 19 s, (ov 68 A m σ)) := by
  unfold M_Ls_weightOf
  rw [E_Ls_weightOf_0]; simp (disch := omega) only [E_Ls_weightOf_1, E_Ls_weightOf_2, l_0, cK_17 H, cR_17_2 H, cK_19 H, cN_19 H, letT_eq, gd_true, bnd_some, aR_ov, aK_ov, aN_ov, okO_ov, aI_ov H.1, aL_ov H.1, sI_ov H.1, sL_ov H.1, sV_eq, sV_ne, sV_2, sW_eq, sW_ne, sW_1, iI_add, iI_sub, iI_mul, iI_neg, iI_lt, iI_eq, iI_cl, nI_iI, gd_in, bZ_0, bZ_1, bZ_eq, isB_bZ, isB_0, isB_1, nar_bZ, nar_0, nar_1, mw_ov, iI_s, iI_na, iI_nm, Int.toNat_natCast, Int.add_zero, Int.zero_add, Nat.reduceEqDiff, Nat.reduceAdd, Int.reduceAdd, Int.reduceNeg, Int.reduceSub, Int.reduceMul, Int.reduceLT, Int.reduceEq, Int.reduceToNat, reduceCtorEq, ↓reduceIte]
  rw [if_neg (by omega), if_pos (by omega), mw_ov]
theorem q_Pw_isNearer {A : Nat → Nat} {σ : AM} (H : LC A σ) {m : VM} {f : Nat → Nat} {s q : Nat} (hs : s < 64) (hq : q < 64) (es : m.1 19 s = iI (f s : Int)) (eq : m.1 19 q = iI (f q : Int)) (bs : f s ≤ 100) (bq : f q ≤ 100) (lt : Bool) : M_Pw_isNearer (A 66) (iI (s : Int)) (iI (q : Int)) (bZ lt) (ov 68 A m σ) = some (bZ (nrB f lt s q), (ov 68 A m σ)) := by
  have p1 := pc6_le s
  have p2 := pc6_le q
  unfold M_Pw_isNearer nrB
  rw [E_Pw_isNearer_0]; simp (disch := omega) only [E_Pw_isNearer_1, E_Pw_isNearer_2, l_0, l_1, cK_66 H, cR_66_1 H, cK_17 H, letT_eq, gd_true, bnd_some, aR_ov, aK_ov, aN_ov, okO_ov, aI_ov H.1, aL_ov H.1, sI_ov H.1, sL_ov H.1, sV_eq, sV_ne, sV_2, sW_eq, sW_ne, sW_1, iI_add, iI_sub, iI_mul, iI_neg, iI_lt, iI_eq, iI_cl, nI_iI, gd_in, bZ_0, bZ_1, bZ_eq, isB_bZ, isB_0, isB_1, nar_bZ, nar_0, nar_1, mw_ov, iI_s, iI_na, iI_nm, Int.toNat_natCast, Int.add_zero, Int.zero_add, Nat.reduceEqDiff, Nat.reduceAdd, Int.reduceAdd, Int.reduceNeg, Int.reduceSub, Int.reduceMul, Int.reduceLT, Int.reduceEq, Int.reduceToNat, reduceCtorEq, ↓reduceIte, q_Ls_weightOf H hs, q_Ls_weightOf H hq, es, eq, q_JInt_bitCount hs, q_JInt_bitCount hq]
  by_cases c : f s = f q
  · rw [if_pos (show (f s : Int) = (f q : Int) by omega), if_pos c]
    by_cases c2 : pc6 s < pc6 q
    · rw [if_pos (show (pc6 s : Int) < (pc6 q : Int) by omega), decide_eq_true c2, mw_ov]; rfl
    · rw [if_neg (show ¬ (pc6 s : Int) < (pc6 q : Int) by omega), decide_eq_false c2, mw_ov]; rfl
  · rw [if_neg (show ¬ (f s : Int) = (f q : Int) by omega), if_neg c]
    cases lt
    · rw [if_pos (show false = false from rfl), if_neg (show ¬ false = true by decide)]
      by_cases c2 : f q < f s
      · rw [if_pos (show (f q : Int) < (f s : Int) by omega), decide_eq_true c2, mw_ov]; rfl
      · rw [if_neg (show ¬ (f q : Int) < (f s : Int) by omega), decide_eq_false c2, mw_ov]; rfl
    · rw [if_neg (show ¬ true = false by decide), if_pos (show true = true from rfl)]
      by_cases c2 : f s < f q
      · rw [if_pos (show (f s : Int) < (f q : Int) by omega), decide_eq_true c2, mw_ov]; rfl
      · rw [if_neg (show ¬ (f s : Int) < (f q : Int) by omega), decide_eq_false c2, mw_ov]; rfl
theorem Pw_near1 {A : Nat → Nat} {σ : AM} (H : LC A σ) {m : VM} {d : TD} (hd : wfD d) (hT : CTw d m) {w : Nat} (h19 : ∀ s, s < sN d → m.1 19 s = iI (wtS (dg d w) s : Int)) (lt : Bool) (k : Nat) (hk : k < sN d) : L_Pw_nearest_1 (A 66) (bZ lt) (iI (hvN d w lt k)) (iI (k : Int)) (ov 68 A m σ) = L_Pw_nearest_1 (A 66) (bZ lt) (iI (hvN d w lt (k + 1))) (iI ((k + 1 : Nat) : Int)) (ov 68 A m σ) := by
  have hN := sN_le hd
  have h64 : k < 64 := by omega
  have e1 := h19 k hk
  have w1 := wts_le hd w k
  have hB := hd.2.2.2.2.1
  have hlo := hvN_lo d w lt k
  have es : hvN d w lt (k + 1) = if ringsAt d w k = lt ∧ (hvN d w lt k = -1 ∨ nrB (wtS (dg d w)) lt k (hvN d w lt k).toNat = true) then (k : Int) else hvN d w lt k := rfl
  rw [es]
  generalize hvN d w lt k = v at *
  have hr : ringsAt d w k = decide (dB d ≤ wtS (dg d w) k) := rfl
  rw [hr]
  by_cases c0 : v = -1
  · subst c0
    rw [E_Pw_nearest_1]; simp (disch := omega) only [E_Pw_nearest_2, E_Pw_nearest_3, E_Pw_nearest_4, l_0, l_1, cK_66 H, cR_66_0 H, cK_10 H, cR_66_1 H, cK_17 H, q_Tw_bar (LTt H), letT_eq, gd_true, bnd_some, aR_ov, aK_ov, aN_ov, okO_ov, aI_ov H.1, aL_ov H.1, sI_ov H.1, sL_ov H.1, sV_eq, sV_ne, sV_2, sW_eq, sW_ne, sW_1, iI_add, iI_sub, iI_mul, iI_neg, iI_lt, iI_eq, iI_cl, nI_iI, gd_in, bZ_0, bZ_1, bZ_eq, isB_bZ, isB_0, isB_1, nar_bZ, nar_0, nar_1, mw_ov, iI_s, iI_na, iI_nm, Int.toNat_natCast, Int.add_zero, Int.zero_add, Nat.reduceEqDiff, Nat.reduceAdd, Int.reduceAdd, Int.reduceNeg, Int.reduceSub, Int.reduceMul, Int.reduceLT, Int.reduceEq, Int.reduceToNat, reduceCtorEq, ↓reduceIte, q_Tw_sets H hd hT, q_Ls_weightOf H h64, e1, hT.1.2.2.1]
    rw [if_pos (show (k : Int) < (sN d : Int) by omega)]
    by_cases c1 : dB d ≤ wtS (dg d w) k
    · rw [if_neg (show ¬ (wtS (dg d w) k : Int) < (dB d : Int) by omega), decide_eq_true c1]
      cases lt
      · rw [if_neg (show ¬ iI 1 = bZ false by decide), if_neg (by simp)]
      · rw [if_pos (show iI 1 = bZ true from rfl), if_pos (by simp)]
    · rw [if_pos (show (wtS (dg d w) k : Int) < (dB d : Int) by omega), decide_eq_false c1]
      cases lt
      · rw [if_pos (show iI 0 = bZ false from rfl), if_pos (by simp)]
      · rw [if_neg (show ¬ iI 0 = bZ true by decide), if_neg (by simp)]
  · obtain ⟨q, rfl⟩ := Int.eq_ofNat_of_zero_le (show 0 ≤ v by omega)
    have hq64 : q < 64 := by omega
    have e2 := h19 q (by omega)
    have w2 := wts_le hd w q
    have hnr := q_Pw_isNearer H (f := wtS (dg d w)) h64 hq64 e1 e2 (by omega) (by omega) lt
    rw [show ((q : Nat) : Int).toNat = q from rfl]
    rw [E_Pw_nearest_1]; simp (disch := omega) only [E_Pw_nearest_2, E_Pw_nearest_3, E_Pw_nearest_4, l_0, l_1, cK_66 H, cR_66_0 H, cK_10 H, cR_66_1 H, cK_17 H, q_Tw_bar (LTt H), letT_eq, gd_true, bnd_some, aR_ov, aK_ov, aN_ov, okO_ov, aI_ov H.1, aL_ov H.1, sI_ov H.1, sL_ov H.1, sV_eq, sV_ne, sV_2, sW_eq, sW_ne, sW_1, iI_add, iI_sub, iI_mul, iI_neg, iI_lt, iI_eq, iI_cl, nI_iI, gd_in, bZ_0, bZ_1, bZ_eq, isB_bZ, isB_0, isB_1, nar_bZ, nar_0, nar_1, mw_ov, iI_s, iI_na, iI_nm, Int.toNat_natCast, Int.add_zero, Int.zero_add, Nat.reduceEqDiff, Nat.reduceAdd, Int.reduceAdd, Int.reduceNeg, Int.reduceSub, Int.reduceMul, Int.reduceLT, Int.reduceEq, Int.reduceToNat, reduceCtorEq, ↓reduceIte, q_Tw_sets H hd hT, q_Ls_weightOf H h64, e1, hT.1.2.2.1, hnr]
    rw [if_pos (show (k : Int) < (sN d : Int) by omega)]
    have ne1 : ¬ (q : Int) = -1 := by omega
    by_cases c1 : dB d ≤ wtS (dg d w) k
    · rw [if_neg (show ¬ (wtS (dg d w) k : Int) < (dB d : Int) by omega), decide_eq_true c1]
      cases lt
      · rw [if_neg (show ¬ iI 1 = bZ false by decide), if_neg (by simp)]
      · rw [if_pos (show iI 1 = bZ true from rfl)]
        cases nrB (wtS (dg d w)) true k q
        · rw [if_pos (show false = false from rfl), if_neg (by simp)]
        · rw [if_neg (show ¬ true = false by decide), if_pos (by simp)]
    · rw [if_pos (show (wtS (dg d w) k : Int) < (dB d : Int) by omega), decide_eq_false c1]
      cases lt
      · rw [if_pos (show iI 0 = bZ false from rfl)]
        cases nrB (wtS (dg d w)) false k q
        · rw [if_pos (show false = false from rfl), if_neg (by simp)]
        · rw [if_neg (show ¬ true = false by decide), if_pos (by simp)]
      · rw [if_neg (show ¬ iI 0 = bZ true by decide), if_neg (by simp)]
def hevS (d : TD) (a : Int) (lt : Bool) (c : Int) : Int := if (0 ≤ a ∧ a < (dW d : Int)) ∧ (0 ≤ c ∧ c ≤ 1) then (if hvN d a.toNat lt (sN d) = -1 ∨ c = 0 then hvN d a.toNat lt (sN d) else (wtS (dg d a.toNat) (hvN d a.toNat lt (sN d)).toNat : Int)) else -1
theorem c_heavy {d : TD} {b : BD} {g z u : Nat} {A : Nat → Nat} {σ : AM} {m : VM} (C : CS0 d b g z u A σ m) {a c : Int} (h1 : -2147483648 ≤ a) (h2 : a < 2147483648) (h3 : -2147483648 ≤ c) (h4 : c < 2147483648) (lt : Bool) : ∃ m' : VM, M_Bp_heavy (A 0) (iI a) (bZ lt) (iI c) (ov 68 A m σ) = some (iI (hevS d a lt c), (ov 68 A (m') σ)) ∧ OnW m m' := by
  obtain ⟨H, hd, hD, _, hT, _⟩ := C
  have hw := q_Tw_hasWeights H hd hT h1 h2
  have hN := sN_le hd
  have hW := hd.2.2.2.2.2.2
  unfold M_Bp_heavy
  by_cases q : 0 ≤ a ∧ a < (dW d : Int)
  · rw [decide_eq_true q] at hw
    by_cases q3 : 0 ≤ c ∧ c ≤ 1
    · obtain ⟨n, rfl⟩ := Int.eq_ofNat_of_zero_le q.1
      obtain ⟨m', e, j1, j2, j3⟩ := p_Ls_weigh H hd.1 hd.2.2.1 hT.1.1 hT.1.2.1 (w := n) (by omega)
      have hT' : CTw d m' := CTw_K (OnW_Ks j1 0 (by decide)) hT
      have hl := up_loop (fun k => L_Pw_nearest_1 (A 66) (bZ lt) (iI (hvN d n lt k)) (iI (k : Int)) (ov 68 A (m') σ)) (sN d) (some (iI (hvN d n lt (sN d)), (ov 68 A (m') σ))) (fun k hk ih => (Pw_near1 H hd hT' j3 lt k hk).trans ih) (by
        show L_Pw_nearest_1 _ _ _ _ _ = _
        rw [E_Pw_nearest_1]
        simp (disch := omega) only [cK_66 H, cR_66_0 H, cK_10 H, okO_ov, aR_ov, gd_true, q_Tw_sets H hd hT', bnd_some, iI_lt]
        rw [if_neg (by omega)]) 0 (Nat.zero_le _)
      replace hl : L_Pw_nearest_1 (A 66) (bZ lt) (iI (-1)) (iI 0) (ov 68 A (m') σ) = _ := hl
      have hnr : M_Pw_nearest (A 66) (iI (n : Int)) (bZ lt) (ov 68 A m σ) = some (iI (hvN d n lt (sN d)), (ov 68 A (m') σ)) := by
        unfold M_Pw_nearest
        rw [E_Pw_nearest_0]; simp (disch := omega) only [l_0, l_1, cK_66 H, cR_66_1 H, cK_17 H, letT_eq, gd_true, bnd_some, aR_ov, aK_ov, aN_ov, okO_ov, aI_ov H.1, aL_ov H.1, sI_ov H.1, sL_ov H.1, sV_eq, sV_ne, sV_2, sW_eq, sW_ne, sW_1, iI_add, iI_sub, iI_mul, iI_neg, iI_lt, iI_eq, iI_cl, nI_iI, gd_in, bZ_0, bZ_1, bZ_eq, isB_bZ, isB_0, isB_1, nar_bZ, nar_0, nar_1, mw_ov, iI_s, iI_na, iI_nm, Int.toNat_natCast, Int.add_zero, Int.zero_add, Nat.reduceEqDiff, Nat.reduceAdd, Int.reduceAdd, Int.reduceNeg, Int.reduceSub, Int.reduceMul, Int.reduceLT, Int.reduceEq, Int.reduceToNat, reduceCtorEq, ↓reduceIte, e, hl]
      have hlo := hvN_lo d n lt (sN d)
      refine ⟨m', ?_, j1⟩
      have eS : hevS d (n : Int) lt c = if hvN d n lt (sN d) = -1 ∨ c = 0 then hvN d n lt (sN d) else (wtS (dg d n) (hvN d n lt (sN d)).toNat : Int) := if_pos ⟨q, q3⟩
      rw [eS]
      generalize hvN d n lt (sN d) = v at *
      by_cases c0 : v = -1
      · subst c0
        rw [E_Bp_heavy_0]; simp (disch := omega) only [E_Bp_heavy_1, E_Bp_heavy_2, l_0, l_1, cK_0 H, cR_0_1 H, cK_10 H, cR_0_9 H, cK_66 H, letT_eq, gd_true, bnd_some, aR_ov, aK_ov, aN_ov, okO_ov, aI_ov H.1, aL_ov H.1, sI_ov H.1, sL_ov H.1, sV_eq, sV_ne, sV_2, sW_eq, sW_ne, sW_1, iI_add, iI_sub, iI_mul, iI_neg, iI_lt, iI_eq, iI_cl, nI_iI, gd_in, bZ_0, bZ_1, bZ_eq, isB_bZ, isB_0, isB_1, nar_bZ, nar_0, nar_1, mw_ov, iI_s, iI_na, iI_nm, Int.toNat_natCast, Int.add_zero, Int.zero_add, Nat.reduceEqDiff, Nat.reduceAdd, Int.reduceAdd, Int.reduceNeg, Int.reduceSub, Int.reduceMul, Int.reduceLT, Int.reduceEq, Int.reduceToNat, reduceCtorEq, ↓reduceIte, hw, hnr]
        rw [if_neg (by omega), if_neg (by omega), mw_ov]
        simp
      · obtain ⟨k, rfl⟩ := Int.eq_ofNat_of_zero_le (show 0 ≤ v by omega)
        have hwo : M_Pw_weightOf (A 66) (iI (k : Int)) (ov 68 A (m') σ) = some (iI (wtS (dg d n) k : Int), (ov 68 A (m') σ)) := by
          unfold M_Pw_weightOf
          rw [E_Pw_weightOf_0]; simp (disch := omega) only [cK_66 H, cR_66_1 H, cK_17 H, letT_eq, gd_true, bnd_some, aR_ov, aK_ov, aN_ov, okO_ov, aI_ov H.1, aL_ov H.1, sI_ov H.1, sL_ov H.1, sV_eq, sV_ne, sV_2, sW_eq, sW_ne, sW_1, iI_add, iI_sub, iI_mul, iI_neg, iI_lt, iI_eq, iI_cl, nI_iI, gd_in, bZ_0, bZ_1, bZ_eq, isB_bZ, isB_0, isB_1, nar_bZ, nar_0, nar_1, mw_ov, iI_s, iI_na, iI_nm, Int.toNat_natCast, Int.add_zero, Int.zero_add, Nat.reduceEqDiff, Nat.reduceAdd, Int.reduceAdd, Int.reduceNeg, Int.reduceSub, Int.reduceMul, Int.reduceLT, Int.reduceEq, Int.reduceToNat, reduceCtorEq, ↓reduceIte, q_Ls_weightOf H (show k < 64 by omega), j3 k (by omega)]
        rw [E_Bp_heavy_0]; simp (disch := omega) only [E_Bp_heavy_1, E_Bp_heavy_2, l_0, l_1, cK_0 H, cR_0_1 H, cK_10 H, cR_0_9 H, cK_66 H, letT_eq, gd_true, bnd_some, aR_ov, aK_ov, aN_ov, okO_ov, aI_ov H.1, aL_ov H.1, sI_ov H.1, sL_ov H.1, sV_eq, sV_ne, sV_2, sW_eq, sW_ne, sW_1, iI_add, iI_sub, iI_mul, iI_neg, iI_lt, iI_eq, iI_cl, nI_iI, gd_in, bZ_0, bZ_1, bZ_eq, isB_bZ, isB_0, isB_1, nar_bZ, nar_0, nar_1, mw_ov, iI_s, iI_na, iI_nm, Int.toNat_natCast, Int.add_zero, Int.zero_add, Nat.reduceEqDiff, Nat.reduceAdd, Int.reduceAdd, Int.reduceNeg, Int.reduceSub, Int.reduceMul, Int.reduceLT, Int.reduceEq, Int.reduceToNat, reduceCtorEq, ↓reduceIte, hw, hnr, hwo]
        rw [if_neg (show ¬ c < 0 by omega), if_neg (show ¬ 1 < c by omega)]
        by_cases c1 : c = 0
        · rw [if_pos c1, mw_ov, if_pos (Or.inr c1)]
        · rw [if_neg c1, mw_ov, if_neg (fun z => z.elim (fun y => y) c1)]
    · refine ⟨m, ?_, OnW_r _⟩
      rw [hevS, if_neg (fun z => q3 z.2)]
      rw [E_Bp_heavy_0]
      simp (disch := omega) only [E_Bp_heavy_1, cK_0 H, cR_0_1 H, cK_10 H, okO_ov, aR_ov, gd_true, hw, bnd_some, bZ_0, l_0, l_1, iI_neg, iI_lt, reduceCtorEq, ↓reduceIte]
      by_cases z1 : c < 0
      · rw [if_pos z1, mw_ov]
      · rw [if_neg z1, if_pos (by omega), mw_ov]
  · rw [decide_eq_false q] at hw
    refine ⟨m, ?_, OnW_r _⟩
    rw [E_Bp_heavy_0]; simp (disch := omega) only [E_Bp_heavy_1, E_Bp_heavy_2, l_0, l_1, cK_0 H, cR_0_1 H, cK_10 H, cR_0_9 H, cK_66 H, letT_eq, gd_true, bnd_some, aR_ov, aK_ov, aN_ov, okO_ov, aI_ov H.1, aL_ov H.1, sI_ov H.1, sL_ov H.1, sV_eq, sV_ne, sV_2, sW_eq, sW_ne, sW_1, iI_add, iI_sub, iI_mul, iI_neg, iI_lt, iI_eq, iI_cl, nI_iI, gd_in, bZ_0, bZ_1, bZ_eq, isB_bZ, isB_0, isB_1, nar_bZ, nar_0, nar_1, mw_ov, iI_s, iI_na, iI_nm, Int.toNat_natCast, Int.add_zero, Int.zero_add, Nat.reduceEqDiff, Nat.reduceAdd, Int.reduceAdd, Int.reduceNeg, Int.reduceSub, Int.reduceMul, Int.reduceLT, Int.reduceEq, Int.reduceToNat, reduceCtorEq, ↓reduceIte, hw]
    rw [hevS, if_neg (fun z => q z.1)]
theorem Md_heavy5 {A : Nat → Nat} {σ : AM} (H : LM A σ) {m : VM} {f : Nat → Nat} {k q : Nat} (hk : k < 64) (hq : q < 64) (ek : m.1 19 k = iI (f k : Int)) (eq : m.1 19 q = iI (f q : Int)) (bk : f k ≤ 100) (bq : f q ≤ 100) (w lt c : Int32) (x : Bool) : L_Md_heavy_5 (A 0) w lt c (iI (q : Int)) (iI (k : Int)) (bZ x) (ov 40 A m σ) = L_Md_heavy_2 (A 0) w lt c (iI (if x = true ∨ (f k = f q ∧ pc6 k < pc6 q) then (k : Int) else (q : Int))) (iI ((k + 1 : Nat) : Int)) (ov 40 A m σ) := by
  have p1 := pc6_le k
  have p2 := pc6_le q
  rw [E_Md_heavy_5]
  cases x
  · simp (disch := omega) only [E_Md_heavy_6, E_Md_heavy_7, E_Md_heavy_8, E_Md_heavy_9, E_Md_heavy_10, mK_0 H, mR_35 H, mK_19 H, mN_19 H, okO_ov, aR_ov, aN_ov, gd_true, gd_in, iI_cl, Int.toNat_natCast, aI_ov H.1, ek, eq, iI_lt, iI_eq, l_0, l_1, bZ_0, iI_add, iI_s, q_Md_bits hk, q_Md_bits hq, bnd_some, Int.reduceEq, ↓reduceIte]
    rw [if_neg (show ¬ (q : Int) < 0 by omega)]
    by_cases d1 : f k = f q
    · rw [if_pos (show (f k : Int) = (f q : Int) by omega)]
      by_cases d2 : pc6 k < pc6 q
      · rw [if_pos (show (pc6 k : Int) < (pc6 q : Int) by omega), if_pos (Or.inr ⟨d1, d2⟩)]
      · rw [if_neg (show ¬ (pc6 k : Int) < (pc6 q : Int) by omega), if_neg (by simp [d2])]
    · rw [if_neg (show ¬ (f k : Int) = (f q : Int) by omega), if_neg (by simp [d1])]
  · simp (disch := omega) only [E_Md_heavy_6, E_Md_heavy_7, E_Md_heavy_8, E_Md_heavy_9, E_Md_heavy_10, mK_0 H, mR_35 H, mK_19 H, mN_19 H, okO_ov, aR_ov, aN_ov, gd_true, gd_in, iI_cl, Int.toNat_natCast, aI_ov H.1, ek, eq, iI_lt, iI_eq, l_0, l_1, bZ_0, iI_add, iI_s, q_Md_bits hk, q_Md_bits hq, bnd_some, Int.reduceEq, ↓reduceIte, reduceCtorEq, ite_self, true_or]
theorem Md_heavyN {A : Nat → Nat} {σ : AM} (H : LM A σ) {m : VM} {d : TD} (hd : wfD d) (hT : MT d m) {w : Nat} (hw : w < dW d) (h19 : ∀ s, s < sN d → m.1 19 s = iI (wtS (dg d w) s : Int)) (lt : Bool) (c : Int32) (k : Nat) (hk : k < sN d) (cr : ¬ ringsAt d w k = lt) (v : Int32) : L_Md_heavy_2 (A 0) (iI (w : Int)) (bZ lt) c v (iI (k : Int)) (ov 40 A m σ) = L_Md_heavy_2 (A 0) (iI (w : Int)) (bZ lt) c v (iI ((k + 1 : Nat) : Int)) (ov 40 A m σ) := by
  have hN := sN_le hd
  have hW := hd.2.2.2.2.2.2
  have h64 : k < 64 := by omega
  have e1 := h19 k hk
  have w1 := wts_le hd w k
  have e12 := hT.2.1 w hw
  have hbt := bt_lst hd w hk
  have hlt : iI (k : Int) < iI (sN d : Int) := by rw [iI_lt (by omega) (by omega) (by omega) (by omega)]; omega
  have hne : ¬ bZ (bt (lst d w) k) = bZ lt := by rw [bZ_eq, hbt]; exact cr
  have hcl : (iI (w : Int)).toNatClampNeg = w := iI_cn (by omega)
  have hin : inB (iI (w : Int)) 16384 = true := inB_iI (by omega) (by omega) (by omega)
  rw [E_Md_heavy_2, okO_ov, mK_0 H, gd_true, q_Md_sets H hd hT, bnd_some, if_pos hlt, okO_ov, mK_0 H, gd_true, aR_ov, mR_27 H, mK_12 H, gd_true, aN_ov, mN_12 H, hin, gd_true, hcl, aL_ov H.1 m σ (by decide), e12, q_Md_doesRing (lst d w) h64, bnd_some, if_neg hne, E_Md_heavy_10, l_1, iI_add]
  rfl
theorem Md_heavy0 {A : Nat → Nat} {σ : AM} (H : LM A σ) {m : VM} {d : TD} (hd : wfD d) (hT : MT d m) {w : Nat} (hw : w < dW d) (h19 : ∀ s, s < sN d → m.1 19 s = iI (wtS (dg d w) s : Int)) (lt : Bool) (c : Int32) (k : Nat) (hk : k < sN d) (cr : ringsAt d w k = lt) : L_Md_heavy_2 (A 0) (iI (w : Int)) (bZ lt) c (iI (-1)) (iI (k : Int)) (ov 40 A m σ) = L_Md_heavy_2 (A 0) (iI (w : Int)) (bZ lt) c (iI (k : Int)) (iI ((k + 1 : Nat) : Int)) (ov 40 A m σ) := by
  have hN := sN_le hd
  have hW := hd.2.2.2.2.2.2
  have h64 : k < 64 := by omega
  have e1 := h19 k hk
  have w1 := wts_le hd w k
  have e12 := hT.2.1 w hw
  have hbt := bt_lst hd w hk
  rw [E_Md_heavy_2]
  simp (disch := omega) only [E_Md_heavy_3, E_Md_heavy_5, E_Md_heavy_6, E_Md_heavy_7, E_Md_heavy_8, E_Md_heavy_9, E_Md_heavy_10, mK_0 H, mR_27 H, mK_12 H, mN_12 H, okO_ov, aR_ov, aN_ov, gd_true, gd_in, q_Md_sets H hd hT, bnd_some, iI_lt, aL_ov H.1, iI_cl, Int.toNat_natCast, e12, q_Md_doesRing (lst d w) h64, hbt, bZ_eq, l_0, l_1, iI_add, iI_s, iI_eq, Int.reduceLT, Int.reduceEq, ↓reduceIte]
  rw [if_pos (show (k : Int) < (sN d : Int) by omega), if_pos cr]
theorem Md_heavyQ {A : Nat → Nat} {σ : AM} (H : LM A σ) {m : VM} {d : TD} (hd : wfD d) (hT : MT d m) {w : Nat} (hw : w < dW d) (h19 : ∀ s, s < sN d → m.1 19 s = iI (wtS (dg d w) s : Int)) (lt : Bool) (c : Int32) (k : Nat) (hk : k < sN d) (cr : ringsAt d w k = lt) {q : Nat} (hq : q < k) : L_Md_heavy_2 (A 0) (iI (w : Int)) (bZ lt) c (iI (q : Int)) (iI (k : Int)) (ov 40 A m σ) = if lt = false then (if (wtS (dg d w) q : Int) < (wtS (dg d w) k : Int) then L_Md_heavy_5 (A 0) (iI (w : Int)) (bZ lt) c (iI (q : Int)) (iI (k : Int)) (iI 1) (ov 40 A m σ) else L_Md_heavy_5 (A 0) (iI (w : Int)) (bZ lt) c (iI (q : Int)) (iI (k : Int)) (iI 0) (ov 40 A m σ)) else (if (wtS (dg d w) k : Int) < (wtS (dg d w) q : Int) then L_Md_heavy_5 (A 0) (iI (w : Int)) (bZ lt) c (iI (q : Int)) (iI (k : Int)) (iI 1) (ov 40 A m σ) else L_Md_heavy_5 (A 0) (iI (w : Int)) (bZ lt) c (iI (q : Int)) (iI (k : Int)) (iI 0) (ov 40 A m σ)) := by
  have hN := sN_le hd
  have hW := hd.2.2.2.2.2.2
  have h64 : k < 64 := by omega
  have e1 := h19 k hk
  have w1 := wts_le hd w k
  have e12 := hT.2.1 w hw
  have hbt := bt_lst hd w hk
  have hq64 : q < 64 := by omega
  have e2 := h19 q (by omega)
  have w2 := wts_le hd w q
  have ne2 : ¬ (q : Int) < 0 := by omega
  rw [E_Md_heavy_2]
  simp (disch := omega) only [E_Md_heavy_3, E_Md_heavy_4, mK_0 H, mR_27 H, mK_12 H, mN_12 H, mR_35 H, mK_19 H, mN_19 H, okO_ov, aR_ov, aN_ov, gd_true, gd_in, q_Md_sets H hd hT, bnd_some, iI_lt, aL_ov H.1, aI_ov H.1, iI_cl, Int.toNat_natCast, e12, e1, e2, q_Md_doesRing (lst d w) h64, hbt, bZ_eq, bZ_0, l_0, l_1]
  rw [if_pos (show (k : Int) < (sN d : Int) by omega), if_pos cr, if_neg ne2]
theorem Md_heavy2 {A : Nat → Nat} {σ : AM} (H : LM A σ) {m : VM} {d : TD} (hd : wfD d) (hT : MT d m) {w : Nat} (hw : w < dW d) (h19 : ∀ s, s < sN d → m.1 19 s = iI (wtS (dg d w) s : Int)) (lt : Bool) (c : Int32) (k : Nat) (hk : k < sN d) : L_Md_heavy_2 (A 0) (iI (w : Int)) (bZ lt) c (iI (hvN d w lt k)) (iI (k : Int)) (ov 40 A m σ) = L_Md_heavy_2 (A 0) (iI (w : Int)) (bZ lt) c (iI (hvN d w lt (k + 1))) (iI ((k + 1 : Nat) : Int)) (ov 40 A m σ) := by
  have hN := sN_le hd
  have hW := hd.2.2.2.2.2.2
  have h64 : k < 64 := by omega
  have e1 := h19 k hk
  have w1 := wts_le hd w k
  have hlo := hvN_lo d w lt k
  have e12 := hT.2.1 w hw
  have hbt := bt_lst hd w hk
  have es : hvN d w lt (k + 1) = if ringsAt d w k = lt ∧ (hvN d w lt k = -1 ∨ nrB (wtS (dg d w)) lt k (hvN d w lt k).toNat = true) then (k : Int) else hvN d w lt k := rfl
  rw [es]
  generalize hvN d w lt k = v at *
  by_cases cr : ringsAt d w k = lt
  · by_cases c0 : v = -1
    · subst c0
      rw [if_pos ⟨cr, Or.inl rfl⟩]
      exact Md_heavy0 H hd hT hw h19 lt c k hk cr
    · obtain ⟨q, rfl⟩ := Int.eq_ofNat_of_zero_le (show 0 ≤ v by omega)
      have hq64 : q < 64 := by omega
      have e2 := h19 q (by omega)
      have w2 := wts_le hd w q
      have ne1 : ¬ (q : Int) = -1 := by omega
      have ne2 : ¬ (q : Int) < 0 := by omega
      have g1 := Md_heavy5 H (f := wtS (dg d w)) h64 hq64 e1 e2 (by omega) (by omega) (iI (w : Int)) (bZ lt) c true
      have g0 := Md_heavy5 H (f := wtS (dg d w)) h64 hq64 e1 e2 (by omega) (by omega) (iI (w : Int)) (bZ lt) c false
      replace g1 : L_Md_heavy_5 (A 0) (iI (w : Int)) (bZ lt) c (iI (q : Int)) (iI (k : Int)) (iI 1) (ov 40 A m σ) = _ := g1
      replace g0 : L_Md_heavy_5 (A 0) (iI (w : Int)) (bZ lt) c (iI (q : Int)) (iI (k : Int)) (iI 0) (ov 40 A m σ) = _ := g0
      rw [show ((q : Nat) : Int).toNat = q from rfl]
      rw [Md_heavyQ H hd hT hw h19 lt c k hk cr (q := q) (by omega), g0, g1]
      have fin : ∀ x : Bool, (x = true ∨ (wtS (dg d w) k = wtS (dg d w) q ∧ pc6 k < pc6 q) ↔ nrB (wtS (dg d w)) lt k q = true) → L_Md_heavy_2 (A 0) (iI (w : Int)) (bZ lt) c (iI (if x = true ∨ (wtS (dg d w) k = wtS (dg d w) q ∧ pc6 k < pc6 q) then (k : Int) else (q : Int))) (iI ((k + 1 : Nat) : Int)) (ov 40 A m σ) = L_Md_heavy_2 (A 0) (iI (w : Int)) (bZ lt) c (iI (if ringsAt d w k = lt ∧ ((q : Int) = -1 ∨ nrB (wtS (dg d w)) lt k q = true) then (k : Int) else (q : Int))) (iI ((k + 1 : Nat) : Int)) (ov 40 A m σ) := by
        intro x hx
        by_cases z : nrB (wtS (dg d w)) lt k q = true
        · rw [if_pos (hx.mpr z), if_pos ⟨cr, Or.inr z⟩]
        · rw [if_neg (fun y => z (hx.mp y)), if_neg (fun y => y.2.elim ne1 z)]
      cases lt
      · rw [if_pos (show false = false from rfl)]
        by_cases d2 : wtS (dg d w) q < wtS (dg d w) k
        · rw [if_pos (show (wtS (dg d w) q : Int) < (wtS (dg d w) k : Int) by omega)]
          refine fin true ?_
          unfold nrB
          rw [if_neg (by omega), if_neg (by decide), decide_eq_true d2]; simp
        · rw [if_neg (show ¬ (wtS (dg d w) q : Int) < (wtS (dg d w) k : Int) by omega)]
          refine fin false ?_
          unfold nrB
          by_cases d1 : wtS (dg d w) k = wtS (dg d w) q
          · rw [if_pos d1]; simp [d1]
          · rw [if_neg d1, if_neg (by decide), decide_eq_false d2]; simp [d1]
      · rw [if_neg (show ¬ true = false by decide)]
        by_cases d2 : wtS (dg d w) k < wtS (dg d w) q
        · rw [if_pos (show (wtS (dg d w) k : Int) < (wtS (dg d w) q : Int) by omega)]
          refine fin true ?_
          unfold nrB
          rw [if_neg (by omega), if_pos rfl, decide_eq_true d2]; simp
        · rw [if_neg (show ¬ (wtS (dg d w) k : Int) < (wtS (dg d w) q : Int) by omega)]
          refine fin false ?_
          unfold nrB
          by_cases d1 : wtS (dg d w) k = wtS (dg d w) q
          · rw [if_pos d1]; simp [d1]
          · rw [if_neg d1, if_pos rfl, decide_eq_false d2]; simp [d1]
  · rw [if_neg (fun z => cr z.1)]
    exact Md_heavyN H hd hT hw h19 lt c k hk cr _
theorem m_heavy {d : TD} {b : BD} {A : Nat → Nat} {σ : AM} {m : VM} (M : MS0 d b A σ m) {a c : Int} (h1 : -2147483648 ≤ a) (h2 : a < 2147483648) (h3 : -2147483648 ≤ c) (h4 : c < 2147483648) (lt : Bool) : Mf A σ m (M_Md_heavy (A 0) (iI a) (bZ lt) (iI c) (ov 40 A m σ)) (iI (hevS d a lt c)) := by
  obtain ⟨H, hd, hT, hb, hB⟩ := M
  have hT0 := MT_K (KM_0 m) hT
  have hw := q_Md_isWeights H hd hT0 h1 h2
  have hwi := q_Md_isWhat (a := c) (ov 40 A (sV m 0 0 (iI 0)) σ) h3 h4
  have hN := sN_le hd
  have hW := hd.2.2.2.2.2.2
  unfold M_Md_heavy
  by_cases q : 0 ≤ a ∧ a < (dW d : Int)
  · rw [decide_eq_true q] at hw
    by_cases q3 : 0 ≤ c ∧ c ≤ 1
    · rw [decide_eq_true q3] at hwi
      obtain ⟨n, rfl⟩ := Int.eq_ofNat_of_zero_le q.1
      obtain ⟨m', e, j1, j2, j3⟩ := p_Md_unpacks H hd hT0.1.1 hT0.1.2.1 (w := n) (by omega)
      have hT' : MT d m' := MT_K (OnW_KM j1) hT0
      have eS : hevS d (n : Int) lt c = if hvN d n lt (sN d) = -1 ∨ c = 0 then hvN d n lt (sN d) else (wtS (dg d n) (hvN d n lt (sN d)).toNat : Int) := if_pos ⟨q, q3⟩
      have hl := up_loop (fun k => L_Md_heavy_2 (A 0) (iI (n : Int)) (bZ lt) (iI c) (iI (hvN d n lt k)) (iI (k : Int)) (ov 40 A (m') σ)) (sN d) (some (iI (hevS d (n : Int) lt c), (ov 40 A (m') σ))) (fun k hk ih => (Md_heavy2 H hd hT' (by omega) j3 lt (iI c) k hk).trans ih) (by
        show L_Md_heavy_2 _ _ _ _ _ _ _ = _
        rw [eS]
        have hlo := hvN_lo d n lt (sN d)
        rw [E_Md_heavy_2]
        generalize hvN d n lt (sN d) = v at *
        by_cases c0 : v = -1
        · subst c0
          simp (disch := omega) only [E_Md_heavy_11, mK_0 H, okO_ov, gd_true, q_Md_sets H hd hT', bnd_some, iI_lt, l_0, l_1, iI_neg]
          rw [if_neg (by omega), if_pos (by omega)]
          simp
        · obtain ⟨k, rfl⟩ := Int.eq_ofNat_of_zero_le (show 0 ≤ v by omega)
          have e2 := j3 k (by omega)
          simp (disch := omega) only [E_Md_heavy_11, mK_0 H, mR_35 H, mK_19 H, mN_19 H, aR_ov, aN_ov, gd_in, iI_cl, Int.toNat_natCast, aI_ov H.1, e2, okO_ov, gd_true, q_Md_sets H hd hT', bnd_some, iI_lt, iI_eq, l_0, l_1, iI_neg]
          rw [if_neg (show ¬ (sN d : Int) < (sN d : Int) by omega), if_neg (show ¬ (k : Int) < 0 by omega)]
          by_cases c1 : c = 0
          · rw [if_pos c1, if_pos (Or.inr c1)]
          · rw [if_neg c1, if_neg (fun z => z.elim c0 c1)]) 0 (Nat.zero_le _)
      replace hl : L_Md_heavy_2 (A 0) (iI (n : Int)) (bZ lt) (iI c) (iI (-1)) (iI 0) (ov 40 A (m') σ) = _ := hl
      refine ⟨m', ?_, KM_t (KM_0 m) (OnW_KM j1)⟩
      rw [E_Md_heavy_0]; simp (disch := omega) only [E_Md_heavy_1, l_0, l_1, mK_0 H, letT_eq, gd_true, bnd_some, aR_ov, aK_ov, aN_ov, okO_ov, aI_ov H.1, aL_ov H.1, sI_ov H.1, sL_ov H.1, sV_eq, sV_ne, sV_2, sW_eq, sW_ne, sW_1, iI_add, iI_sub, iI_mul, iI_neg, iI_lt, iI_eq, iI_cl, nI_iI, gd_in, bZ_0, bZ_1, bZ_eq, isB_bZ, isB_0, isB_1, nar_bZ, nar_0, nar_1, mw_ov, iI_s, iI_na, iI_nm, Int.toNat_natCast, Int.add_zero, Int.zero_add, Nat.reduceEqDiff, Nat.reduceAdd, Int.reduceAdd, Int.reduceNeg, Int.reduceSub, Int.reduceMul, Int.reduceLT, Int.reduceEq, Int.reduceToNat, reduceCtorEq, ↓reduceIte, hw, hwi, e, hl]
    · rw [decide_eq_false q3] at hwi
      refine ⟨_, ?_, KM_0 m⟩
      rw [E_Md_heavy_0]; simp (disch := omega) only [E_Md_heavy_1, l_0, l_1, mK_0 H, letT_eq, gd_true, bnd_some, aR_ov, aK_ov, aN_ov, okO_ov, aI_ov H.1, aL_ov H.1, sI_ov H.1, sL_ov H.1, sV_eq, sV_ne, sV_2, sW_eq, sW_ne, sW_1, iI_add, iI_sub, iI_mul, iI_neg, iI_lt, iI_eq, iI_cl, nI_iI, gd_in, bZ_0, bZ_1, bZ_eq, isB_bZ, isB_0, isB_1, nar_bZ, nar_0, nar_1, mw_ov, iI_s, iI_na, iI_nm, Int.toNat_natCast, Int.add_zero, Int.zero_add, Nat.reduceEqDiff, Nat.reduceAdd, Int.reduceAdd, Int.reduceNeg, Int.reduceSub, Int.reduceMul, Int.reduceLT, Int.reduceEq, Int.reduceToNat, reduceCtorEq, ↓reduceIte, hw, hwi]
      rw [hevS, if_neg (fun z => q3 z.2)]
  · rw [decide_eq_false q] at hw
    refine ⟨_, ?_, KM_0 m⟩
    rw [E_Md_heavy_0]; simp (disch := omega) only [E_Md_heavy_1, l_0, l_1, mK_0 H, letT_eq, gd_true, bnd_some, aR_ov, aK_ov, aN_ov, okO_ov, aI_ov H.1, aL_ov H.1, sI_ov H.1, sL_ov H.1, sV_eq, sV_ne, sV_2, sW_eq, sW_ne, sW_1, iI_add, iI_sub, iI_mul, iI_neg, iI_lt, iI_eq, iI_cl, nI_iI, gd_in, bZ_0, bZ_1, bZ_eq, isB_bZ, isB_0, isB_1, nar_bZ, nar_0, nar_1, mw_ov, iI_s, iI_na, iI_nm, Int.toNat_natCast, Int.add_zero, Int.zero_add, Nat.reduceEqDiff, Nat.reduceAdd, Int.reduceAdd, Int.reduceNeg, Int.reduceSub, Int.reduceMul, Int.reduceLT, Int.reduceEq, Int.reduceToNat, reduceCtorEq, ↓reduceIte, hw]
    rw [hevS, if_neg (fun z => q z.1)]
