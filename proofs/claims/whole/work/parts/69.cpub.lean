/-! ===== the other side's answers about what is left ===== -/
def CS0 (d : TD) (b : BD) (g z u : Nat) (A : Nat → Nat) (σ : AM) (m : VM) : Prop := LC A σ ∧ wfD d ∧ LD d A σ ∧ RmI z u A σ ∧ CTw d m ∧ wfB d b ∧ CBk b m ∧ m.1 27 10 = iI (g : Int) ∧ g < 100000 ∧ ∃ a : Int, m.1 35 9 = iI a ∧ -1 ≤ a ∧ a ≤ g ∧ (a = g → RV d b m ∧ NL d ≤ aN σ (A 38))
/-- a call that keeps tower and book, and the groups told -/
def Rf (d : TD) (b : BD) (g z u : Nat) (A : Nat → Nat) (σ : AM) (m : VM) (gs : List Nat) {ρ : Type} (x : Option (ρ × AM)) (r : ρ) : Prop := ∃ (A' : Nat → Nat) (σ' : AM) (m' : VM), x = some (r, ov 68 A' m' σ') ∧ CS0 d b g z u A' σ' m' ∧ Ext A σ A' σ' ∧ Ks gs m m'
theorem CS0_K {d : TD} {b : BD} {g z u : Nat} {A : Nat → Nat} {σ : AM} {m m' : VM} (h : Ks [0, 1] m m') (C : CS0 d b g z u A σ m) : CS0 d b g z u A σ m' := by
  obtain ⟨H, hd, hD, hM, hT, hb, hB, hg, hg2, a, ha, ha1, ha2, hv⟩ := C
  refine ⟨H, hd, hD, hM, CTw_K (h 0 (by decide)) hT, hb, CBk_K (h 0 (by decide)) hB, ?_, hg2, a, ?_, ha1, ha2, fun e => ⟨RV_K (h 1 (by decide)) (hv e).1, (hv e).2⟩⟩
  · rw [(h 0 (by decide)).1 (27, 10) (by decide)]; exact hg
  · rw [(h 1 (by decide)).1 (35, 9) (by decide)]; exact ha
theorem p_refresh {d : TD} {b : BD} {g z u : Nat} {A : Nat → Nat} {σ : AM} {m : VM} (C : CS0 d b g z u A σ m) : ∃ (A' : Nat → Nat) (σ' : AM) (m' : VM), M_Rs_refresh (A 35) (ov 68 A m σ) = some ((), ov 68 A' m' σ') ∧ CS0 d b g (z + 2) u A' σ' m' ∧ RQ d b A' σ' m' ∧ Ext A σ A' σ' ∧ Ks [0, 2, 3, 4, 5] m m' ∧ ∀ k, k < 68 → k ≠ 37 → k ≠ 38 → A' k = A k := by
  obtain ⟨H, hd, hD, hM, hT, hb, hB, hg, hg2, a, ha, ha1, ha2, hv⟩ := C
  obtain ⟨A', σ', m', e, H', hD', hM', hX, hK, hv', h9, hN, hA⟩ := p_Rs_refresh H hd hD hT hb hB hg hg2 hM ha ha1 ha2 hv
  refine ⟨A', σ', m', e, ⟨H', hd, hD', hM', CTw_K (hK 0 (by decide)) hT, hb, CBk_K (hK 0 (by decide)) hB, ?_, hg2, g, h9, by omega, by omega, fun _ => ⟨hv', hN⟩⟩, ⟨H', hd, hD', CTw_K (hK 0 (by decide)) hT, hv', hN, ?_⟩, hX, hK, hA⟩
  · rw [(hK 0 (by decide)).1 (27, 10) (by decide)]; exact hg
  · have := hM'.2.2.1; have := hM'.2.2.2.2.2.1; omega
def leftS (d : TD) (b : BD) (a : Int) : Int := if a = 0 then wLf d b else if a = 1 then nLf d b else if a = 2 then fsN (dW d) (lfW d b) else -1
theorem c_left {d : TD} {b : BD} {g z u : Nat} {A : Nat → Nat} {σ : AM} {m : VM} (C : CS0 d b g z u A σ m) {a : Int} (h1 : -2147483648 ≤ a) (h2 : a < 2147483648) : Rf d b g (z + 2) u A σ m [0, 2, 3, 4, 5] (M_Bp_left (A 0) (iI a) (ov 68 A m σ)) (iI (leftS d b a)) := by
  have H0 := C.1
  obtain ⟨A, σ, m, e1, C', R, hX, hK, _⟩ := p_refresh C
  have H := R.1
  refine ⟨A, σ, m, ?_, C', hX, hK⟩
  unfold M_Bp_left
  rw [E_Bp_left_0]
  simp only [cK_0 H0, cR_0_4 H0, cK_35 H0, okO_ov, aR_ov, gd_true, bnd_some, e1]
  rw [← hX.1]
  refine (congrArg (mw _) ?_).trans (mw_of hX.2.1 hX.2.2.1)
  have h5 := RQ_5 R
  have h6 := R.2.2.2.2.1.2.1
  unfold leftS
  simp (disch := omega) only [l_0, l_1, l_2, cK_0 H, cR_0_4 H, cK_35 H, q_Rs_weights H, q_Rs_size H, letT_eq, gd_true, bnd_some, aR_ov, aK_ov, aN_ov, okO_ov, aI_ov H.1, aL_ov H.1, sI_ov H.1, sL_ov H.1, sV_eq, sV_ne, sV_2, sW_eq, sW_ne, sW_1, iI_add, iI_sub, iI_mul, iI_neg, iI_lt, iI_eq, iI_cl, nI_iI, gd_in, bZ_0, bZ_1, bZ_eq, isB_bZ, isB_0, isB_1, nar_bZ, nar_0, nar_1, mw_ov, iI_s, iI_na, iI_nm, Int.toNat_natCast, Int.add_zero, Int.zero_add, Nat.reduceEqDiff, Nat.reduceAdd, Int.reduceAdd, Int.reduceNeg, Int.reduceSub, Int.reduceMul, Int.reduceLT, Int.reduceEq, Int.reduceToNat, reduceCtorEq, ↓reduceIte, h5.1, h6, q_Rs_leastWeights R]
  split
  · rfl
  · split
    · rfl
    · split <;> rfl
def sureS (d : TD) (b : BD) (a : Int) : Int := if 0 ≤ a ∧ a < (sN d : Int) then sur (cntN (nLf d b) (fun i => bt (xL d b i) a.toNat)) (nLf d b) else -1
theorem c_sure {d : TD} {b : BD} {g z u : Nat} {A : Nat → Nat} {σ : AM} {m : VM} (C : CS0 d b g z u A σ m) {a : Int} (h1 : -2147483648 ≤ a) (h2 : a < 2147483648) : Rf d b g (z + 2) u A σ m [0, 2, 3, 4, 5] (M_Bp_sure (A 0) (iI a) (ov 68 A m σ)) (iI (sureS d b a)) := by
  have H0 := C.1
  obtain ⟨A, σ, m, e1, C', R, hX, hK, _⟩ := p_refresh C
  have H := R.1
  refine ⟨A, σ, m, ?_, C', hX, hK⟩
  unfold M_Bp_sure
  rw [E_Bp_sure_0]
  simp only [cK_0 H0, cR_0_4 H0, cK_35 H0, okO_ov, aR_ov, gd_true, bnd_some, e1]
  rw [← hX.1]
  refine (congrArg (mw _) ?_).trans (mw_of hX.2.1 hX.2.2.1)
  have h5 := RQ_5 R
  have h7 := R.2.2.2.2.1.2.2.1
  have h8 := R.2.2.2.2.1.2.2.2.1
  have hs := q_Tw_hasSet H R.2.1 R.2.2.2.1 h1 h2
  have hN := sN_le R.2.1
  unfold sureS
  by_cases q : 0 ≤ a ∧ a < (sN d : Int)
  · rw [decide_eq_true q] at hs
    rw [if_pos q]
    obtain ⟨n, rfl⟩ := Int.eq_ofNat_of_zero_le q.1
    have hn : n < 64 := by omega
    simp (disch := omega) only [E_Bp_sure_1, E_Bp_sure_2, l_0, l_1, l_2, cK_0 H, cR_0_1 H, cK_10 H, cR_0_4 H, cK_35 H, q_Rs_size H, q_Rs_every H, q_Rs_some H, letT_eq, gd_true, bnd_some, aR_ov, aK_ov, aN_ov, okO_ov, aI_ov H.1, aL_ov H.1, sI_ov H.1, sL_ov H.1, sV_eq, sV_ne, sV_2, sW_eq, sW_ne, sW_1, iI_add, iI_sub, iI_mul, iI_neg, iI_lt, iI_eq, iI_cl, nI_iI, gd_in, bZ_0, bZ_1, bZ_eq, isB_bZ, isB_0, isB_1, nar_bZ, nar_0, nar_1, mw_ov, iI_s, iI_na, iI_nm, Int.toNat_natCast, Int.add_zero, Int.zero_add, Nat.reduceEqDiff, Nat.reduceAdd, Int.reduceAdd, Int.reduceNeg, Int.reduceSub, Int.reduceMul, Int.reduceLT, Int.reduceEq, Int.reduceToNat, reduceCtorEq, ↓reduceIte, h5.1, h7, h8, hs, q_St_has _ hn]
    by_cases q0 : nLf d b = 0
    · rw [if_pos (by omega)]; unfold sur; rw [if_pos q0]
    · rw [if_neg (by omega), sure_cl d b hn q0]
      cases bt (evr d b (NL d)) n <;> cases bt (som d b (NL d)) n <;> rfl
  · rw [decide_eq_false q] at hs
    rw [if_neg q]
    simp (disch := omega) only [E_Bp_sure_1, E_Bp_sure_2, l_0, l_1, l_2, cK_0 H, cR_0_1 H, cK_10 H, cR_0_4 H, cK_35 H, q_Rs_size H, q_Rs_every H, q_Rs_some H, letT_eq, gd_true, bnd_some, aR_ov, aK_ov, aN_ov, okO_ov, aI_ov H.1, aL_ov H.1, sI_ov H.1, sL_ov H.1, sV_eq, sV_ne, sV_2, sW_eq, sW_ne, sW_1, iI_add, iI_sub, iI_mul, iI_neg, iI_lt, iI_eq, iI_cl, nI_iI, gd_in, bZ_0, bZ_1, bZ_eq, isB_bZ, isB_0, isB_1, nar_bZ, nar_0, nar_1, mw_ov, iI_s, iI_na, iI_nm, Int.toNat_natCast, Int.add_zero, Int.zero_add, Nat.reduceEqDiff, Nat.reduceAdd, Int.reduceAdd, Int.reduceNeg, Int.reduceSub, Int.reduceMul, Int.reduceLT, Int.reduceEq, Int.reduceToNat, reduceCtorEq, ↓reduceIte, hs]
def mattersS (d : TD) (b : BD) (a : Int) : Int := if 0 ≤ a ∧ a < (dT d : Int) then sur (cntN (nLf d b) (fun i => mtr (xL d b i) a.toNat)) (nLf d b) else -1
theorem c_matters {d : TD} {b : BD} {g z u : Nat} {A : Nat → Nat} {σ : AM} {m : VM} (C : CS0 d b g z u A σ m) {a : Int} (h1 : -2147483648 ≤ a) (h2 : a < 2147483648) : Rf d b g (z + 2) u A σ m [0, 2, 3, 4, 5] (M_Bp_matters (A 0) (iI a) (ov 68 A m σ)) (iI (mattersS d b a)) := by
  have H0 := C.1
  obtain ⟨A, σ, m, e1, C', R, hX, hK, _⟩ := p_refresh C
  have H := R.1
  refine ⟨A, σ, m, ?_, C', hX, hK⟩
  unfold M_Bp_matters
  rw [E_Bp_matters_0]
  simp only [cK_0 H0, cR_0_4 H0, cK_35 H0, okO_ov, aR_ov, gd_true, bnd_some, e1]
  rw [← hX.1]
  refine (congrArg (mw _) ?_).trans (mw_of hX.2.1 hX.2.2.1)
  have h5 := RQ_5 R
  have hs := q_Tw_hasThing H R.2.1 R.2.2.2.1 h1 h2
  have hT6 := R.2.1.1
  unfold mattersS
  by_cases q : 0 ≤ a ∧ a < (dT d : Int)
  · rw [decide_eq_true q] at hs
    rw [if_pos q]
    obtain ⟨n, rfl⟩ := Int.eq_ofNat_of_zero_le q.1
    have hn : n < 6 := by omega
    by_cases q0 : nLf d b = 0
    · simp (disch := omega) only [E_Bp_matters_1, l_0, l_1, cK_0 H, cR_0_1 H, cK_10 H, cR_0_4 H, cK_35 H, cR_0_6 H, cK_48 H, q_Rs_size H, letT_eq, gd_true, bnd_some, aR_ov, aK_ov, aN_ov, okO_ov, aI_ov H.1, aL_ov H.1, sI_ov H.1, sL_ov H.1, sV_eq, sV_ne, sV_2, sW_eq, sW_ne, sW_1, iI_add, iI_sub, iI_mul, iI_neg, iI_lt, iI_eq, iI_cl, nI_iI, gd_in, bZ_0, bZ_1, bZ_eq, isB_bZ, isB_0, isB_1, nar_bZ, nar_0, nar_1, mw_ov, iI_s, iI_na, iI_nm, Int.toNat_natCast, Int.add_zero, Int.zero_add, Nat.reduceEqDiff, Nat.reduceAdd, Int.reduceAdd, Int.reduceNeg, Int.reduceSub, Int.reduceMul, Int.reduceLT, Int.reduceEq, Int.reduceToNat, reduceCtorEq, ↓reduceIte, h5.1, hs]
      rw [if_pos (by omega)]; unfold sur; rw [if_pos q0]
    · have ha := q_Pl_allOrNone R (q := iI 1) (w := iI (n : Int)) (f := fun i => mtr (xL d b i) n) (fun i _ => q_ans1 _ hn _ _) q0
      simp (disch := omega) only [E_Bp_matters_1, l_0, l_1, cK_0 H, cR_0_1 H, cK_10 H, cR_0_4 H, cK_35 H, cR_0_6 H, cK_48 H, q_Rs_size H, letT_eq, gd_true, bnd_some, aR_ov, aK_ov, aN_ov, okO_ov, aI_ov H.1, aL_ov H.1, sI_ov H.1, sL_ov H.1, sV_eq, sV_ne, sV_2, sW_eq, sW_ne, sW_1, iI_add, iI_sub, iI_mul, iI_neg, iI_lt, iI_eq, iI_cl, nI_iI, gd_in, bZ_0, bZ_1, bZ_eq, isB_bZ, isB_0, isB_1, nar_bZ, nar_0, nar_1, mw_ov, iI_s, iI_na, iI_nm, Int.toNat_natCast, Int.add_zero, Int.zero_add, Nat.reduceEqDiff, Nat.reduceAdd, Int.reduceAdd, Int.reduceNeg, Int.reduceSub, Int.reduceMul, Int.reduceLT, Int.reduceEq, Int.reduceToNat, reduceCtorEq, ↓reduceIte, h5.1, hs, ha]
      rw [if_neg (by omega)]
  · rw [decide_eq_false q] at hs
    rw [if_neg q]
    simp (disch := omega) only [E_Bp_matters_1, l_0, l_1, cK_0 H, cR_0_1 H, cK_10 H, cR_0_4 H, cK_35 H, cR_0_6 H, cK_48 H, q_Rs_size H, letT_eq, gd_true, bnd_some, aR_ov, aK_ov, aN_ov, okO_ov, aI_ov H.1, aL_ov H.1, sI_ov H.1, sL_ov H.1, sV_eq, sV_ne, sV_2, sW_eq, sW_ne, sW_1, iI_add, iI_sub, iI_mul, iI_neg, iI_lt, iI_eq, iI_cl, nI_iI, gd_in, bZ_0, bZ_1, bZ_eq, isB_bZ, isB_0, isB_1, nar_bZ, nar_0, nar_1, mw_ov, iI_s, iI_na, iI_nm, Int.toNat_natCast, Int.add_zero, Int.zero_add, Nat.reduceEqDiff, Nat.reduceAdd, Int.reduceAdd, Int.reduceNeg, Int.reduceSub, Int.reduceMul, Int.reduceLT, Int.reduceEq, Int.reduceToNat, reduceCtorEq, ↓reduceIte, hs]
def alikeS (d : TD) (b : BD) (a c : Int) : Int := if (0 ≤ a ∧ a < (dT d : Int)) ∧ (0 ≤ c ∧ c < (dT d : Int)) ∧ a ≠ c then sur (cntN (nLf d b) (fun i => alB (xL d b i) a.toNat c.toNat)) (nLf d b) else -1
theorem c_alike {d : TD} {b : BD} {g z u : Nat} {A : Nat → Nat} {σ : AM} {m : VM} (C : CS0 d b g z u A σ m) {a c : Int} (h1 : -2147483648 ≤ a) (h2 : a < 2147483648) (h3 : -2147483648 ≤ c) (h4 : c < 2147483648) : Rf d b g (z + 2) u A σ m [0, 2, 3, 4, 5] (M_Bp_alike (A 0) (iI a) (iI c) (ov 68 A m σ)) (iI (alikeS d b a c)) := by
  have H0 := C.1
  obtain ⟨A, σ, m, e1, C', R, hX, hK, _⟩ := p_refresh C
  have H := R.1
  refine ⟨A, σ, m, ?_, C', hX, hK⟩
  unfold M_Bp_alike
  rw [E_Bp_alike_0]
  simp only [cK_0 H0, cR_0_4 H0, cK_35 H0, okO_ov, aR_ov, gd_true, bnd_some, e1]
  rw [← hX.1]
  refine (congrArg (mw _) ?_).trans (mw_of hX.2.1 hX.2.2.1)
  have h5 := RQ_5 R
  have hs := q_Tw_hasThing H R.2.1 R.2.2.2.1 h1 h2
  have hs2 := q_Tw_hasThing H R.2.1 R.2.2.2.1 h3 h4
  have hT6 := R.2.1.1
  unfold alikeS
  by_cases q : 0 ≤ a ∧ a < (dT d : Int)
  · rw [decide_eq_true q] at hs
    by_cases q2 : 0 ≤ c ∧ c < (dT d : Int)
    · rw [decide_eq_true q2] at hs2
      by_cases q3 : a = c
      · rw [if_neg (fun z => z.2.2 q3)]
        simp (disch := omega) only [E_Bp_alike_1, l_0, l_1, l_2, l_6, cK_0 H, cR_0_1 H, cK_10 H, cR_0_4 H, cK_35 H, cR_0_6 H, cK_48 H, q_Rs_size H, letT_eq, gd_true, bnd_some, aR_ov, aK_ov, aN_ov, okO_ov, aI_ov H.1, aL_ov H.1, sI_ov H.1, sL_ov H.1, sV_eq, sV_ne, sV_2, sW_eq, sW_ne, sW_1, iI_add, iI_sub, iI_mul, iI_neg, iI_lt, iI_eq, iI_cl, nI_iI, gd_in, bZ_0, bZ_1, bZ_eq, isB_bZ, isB_0, isB_1, nar_bZ, nar_0, nar_1, mw_ov, iI_s, iI_na, iI_nm, Int.toNat_natCast, Int.add_zero, Int.zero_add, Nat.reduceEqDiff, Nat.reduceAdd, Int.reduceAdd, Int.reduceNeg, Int.reduceSub, Int.reduceMul, Int.reduceLT, Int.reduceEq, Int.reduceToNat, reduceCtorEq, ↓reduceIte, hs, hs2]
        rw [if_pos q3]
      · rw [if_pos ⟨q, q2, q3⟩]
        obtain ⟨n, rfl⟩ := Int.eq_ofNat_of_zero_le q.1
        obtain ⟨k, rfl⟩ := Int.eq_ofNat_of_zero_le q2.1
        have hn : n < 6 := by omega
        have hk : k < 6 := by omega
        by_cases q0 : nLf d b = 0
        · simp (disch := omega) only [E_Bp_alike_1, l_0, l_1, l_2, l_6, cK_0 H, cR_0_1 H, cK_10 H, cR_0_4 H, cK_35 H, cR_0_6 H, cK_48 H, q_Rs_size H, letT_eq, gd_true, bnd_some, aR_ov, aK_ov, aN_ov, okO_ov, aI_ov H.1, aL_ov H.1, sI_ov H.1, sL_ov H.1, sV_eq, sV_ne, sV_2, sW_eq, sW_ne, sW_1, iI_add, iI_sub, iI_mul, iI_neg, iI_lt, iI_eq, iI_cl, nI_iI, gd_in, bZ_0, bZ_1, bZ_eq, isB_bZ, isB_0, isB_1, nar_bZ, nar_0, nar_1, mw_ov, iI_s, iI_na, iI_nm, Int.toNat_natCast, Int.add_zero, Int.zero_add, Nat.reduceEqDiff, Nat.reduceAdd, Int.reduceAdd, Int.reduceNeg, Int.reduceSub, Int.reduceMul, Int.reduceLT, Int.reduceEq, Int.reduceToNat, reduceCtorEq, ↓reduceIte, h5.1, hs, hs2]
          rw [if_neg q3, if_pos (by omega)]; unfold sur; rw [if_pos q0]
        · have ha := q_Pl_allOrNone R (q := iI 2) (w := iI ((6 * n + k : Nat) : Int)) (f := fun i => alB (xL d b i) n k) (fun i _ => q_ans2 _ hn hk (by omega) _ _) q0
          have e6 : iI (6 * (n : Int)) + iI (k : Int) = iI ((6 * n + k : Nat) : Int) := by rw [iI_add]; congr 1
          have e7 : (6 : Int) * (n : Int) + (k : Int) = ((6 * n + k : Nat) : Int) := by omega
          simp (disch := omega) only [E_Bp_alike_1, l_0, l_1, l_2, l_6, cK_0 H, cR_0_1 H, cK_10 H, cR_0_4 H, cK_35 H, cR_0_6 H, cK_48 H, q_Rs_size H, letT_eq, gd_true, bnd_some, aR_ov, aK_ov, aN_ov, okO_ov, aI_ov H.1, aL_ov H.1, sI_ov H.1, sL_ov H.1, sV_eq, sV_ne, sV_2, sW_eq, sW_ne, sW_1, iI_add, iI_sub, iI_mul, iI_neg, iI_lt, iI_eq, iI_cl, nI_iI, gd_in, bZ_0, bZ_1, bZ_eq, isB_bZ, isB_0, isB_1, nar_bZ, nar_0, nar_1, mw_ov, iI_s, iI_na, iI_nm, Int.toNat_natCast, Int.add_zero, Int.zero_add, Nat.reduceEqDiff, Nat.reduceAdd, Int.reduceAdd, Int.reduceNeg, Int.reduceSub, Int.reduceMul, Int.reduceLT, Int.reduceEq, Int.reduceToNat, reduceCtorEq, ↓reduceIte, h5.1, hs, hs2, e7, ha]
          rw [if_neg q3, if_neg (by omega)]
    · rw [decide_eq_false q2] at hs2
      rw [if_neg (fun z => q2 z.2.1)]
      simp (disch := omega) only [E_Bp_alike_1, l_0, l_1, l_2, l_6, cK_0 H, cR_0_1 H, cK_10 H, cR_0_4 H, cK_35 H, cR_0_6 H, cK_48 H, q_Rs_size H, letT_eq, gd_true, bnd_some, aR_ov, aK_ov, aN_ov, okO_ov, aI_ov H.1, aL_ov H.1, sI_ov H.1, sL_ov H.1, sV_eq, sV_ne, sV_2, sW_eq, sW_ne, sW_1, iI_add, iI_sub, iI_mul, iI_neg, iI_lt, iI_eq, iI_cl, nI_iI, gd_in, bZ_0, bZ_1, bZ_eq, isB_bZ, isB_0, isB_1, nar_bZ, nar_0, nar_1, mw_ov, iI_s, iI_na, iI_nm, Int.toNat_natCast, Int.add_zero, Int.zero_add, Nat.reduceEqDiff, Nat.reduceAdd, Int.reduceAdd, Int.reduceNeg, Int.reduceSub, Int.reduceMul, Int.reduceLT, Int.reduceEq, Int.reduceToNat, reduceCtorEq, ↓reduceIte, hs, hs2]
  · rw [decide_eq_false q] at hs
    rw [if_neg (fun z => q z.1)]
    simp (disch := omega) only [E_Bp_alike_1, l_0, l_1, l_2, l_6, cK_0 H, cR_0_1 H, cK_10 H, cR_0_4 H, cK_35 H, cR_0_6 H, cK_48 H, q_Rs_size H, letT_eq, gd_true, bnd_some, aR_ov, aK_ov, aN_ov, okO_ov, aI_ov H.1, aL_ov H.1, sI_ov H.1, sL_ov H.1, sV_eq, sV_ne, sV_2, sW_eq, sW_ne, sW_1, iI_add, iI_sub, iI_mul, iI_neg, iI_lt, iI_eq, iI_cl, nI_iI, gd_in, bZ_0, bZ_1, bZ_eq, isB_bZ, isB_0, isB_1, nar_bZ, nar_0, nar_1, mw_ov, iI_s, iI_na, iI_nm, Int.toNat_natCast, Int.add_zero, Int.zero_add, Nat.reduceEqDiff, Nat.reduceAdd, Int.reduceAdd, Int.reduceNeg, Int.reduceSub, Int.reduceMul, Int.reduceLT, Int.reduceEq, Int.reduceToNat, reduceCtorEq, ↓reduceIte, hs]
def oftenS (d : TD) (b : BD) (a : Int) : Int := if (0 ≤ a ∧ a ≤ 1) ∧ nLf d b ≠ 0 then (if a = 0 then (mnN (fun i => pcl (xL d b i)) (nLf d b) : Int) else (mxN (fun i => pcl (xL d b i)) (nLf d b) : Int)) else -1
theorem c_often {d : TD} {b : BD} {g z u : Nat} {A : Nat → Nat} {σ : AM} {m : VM} (C : CS0 d b g z u A σ m) {a : Int} (h1 : -2147483648 ≤ a) (h2 : a < 2147483648) : Rf d b g (z + 2) u A σ m [0, 2, 3, 4, 5] (M_Bp_often (A 0) (iI a) (ov 68 A m σ)) (iI (oftenS d b a)) := by
  have H0 := C.1
  obtain ⟨A, σ, m, e1, C', R, hX, hK, _⟩ := p_refresh C
  have H := R.1
  refine ⟨A, σ, m, ?_, C', hX, hK⟩
  unfold M_Bp_often
  rw [E_Bp_often_0]
  simp only [cK_0 H0, cR_0_4 H0, cK_35 H0, okO_ov, aR_ov, gd_true, bnd_some, e1]
  rw [← hX.1]
  refine (congrArg (mw _) ?_).trans (mw_of hX.2.1 hX.2.2.1)
  have h5 := RQ_5 R
  simp (disch := omega) only [E_Bp_often_1, E_Bp_often_2, l_0, l_1, cK_0 H, cR_0_4 H, cK_35 H, q_Rs_size H, letT_eq, gd_true, bnd_some, aR_ov, aK_ov, aN_ov, okO_ov, aI_ov H.1, aL_ov H.1, sI_ov H.1, sL_ov H.1, sV_eq, sV_ne, sV_2, sW_eq, sW_ne, sW_1, iI_add, iI_sub, iI_mul, iI_neg, iI_lt, iI_eq, iI_cl, nI_iI, gd_in, bZ_0, bZ_1, bZ_eq, isB_bZ, isB_0, isB_1, nar_bZ, nar_0, nar_1, mw_ov, iI_s, iI_na, iI_nm, Int.toNat_natCast, Int.add_zero, Int.zero_add, Nat.reduceEqDiff, Nat.reduceAdd, Int.reduceAdd, Int.reduceNeg, Int.reduceSub, Int.reduceMul, Int.reduceLT, Int.reduceEq, Int.reduceToNat, reduceCtorEq, ↓reduceIte, h5.1, q_Rs_fewestRinging R, q_Rs_mostRinging R]
  by_cases q : 0 ≤ a ∧ a ≤ 1
  · rw [if_neg (by omega), if_neg (by omega)]
    by_cases q0 : nLf d b = 0
    · rw [if_pos (by omega), oftenS, if_neg (fun z => z.2 q0)]
    · rw [if_neg (by omega)]
      by_cases q1 : a = 0
      · rw [if_pos q1, oftenS, if_pos ⟨q, q0⟩, if_pos q1]
      · rw [if_neg q1, oftenS, if_pos ⟨q, q0⟩, if_neg q1]
  · by_cases q1 : a < 0
    · rw [if_pos q1, oftenS, if_neg (fun z => q z.1)]
    · rw [if_neg q1, if_pos (by omega), oftenS, if_neg (fun z => q z.1)]
def ringsS (d : TD) (b : BD) (a : Int) : Int := if 0 ≤ a ∧ a ≤ 64 then (cntN (nLf d b) (fun i => decide (pcl (xL d b i) = a.toNat)) : Int) else -1
theorem c_rings {d : TD} {b : BD} {g z u : Nat} {A : Nat → Nat} {σ : AM} {m : VM} (C : CS0 d b g z u A σ m) {a : Int} (h1 : -2147483648 ≤ a) (h2 : a < 2147483648) : Rf d b g (z + 2) u A σ m [0, 2, 3, 4, 5] (M_Bp_rings (A 0) (iI a) (ov 68 A m σ)) (iI (ringsS d b a)) := by
  have H0 := C.1
  unfold ringsS
  by_cases q : 0 ≤ a ∧ a ≤ 64
  · obtain ⟨A, σ, m, e1, C', R, hX, hK, _⟩ := p_refresh C
    have H := R.1
    refine ⟨A, σ, m, ?_, C', hX, hK⟩
    obtain ⟨n, rfl⟩ := Int.eq_ofNat_of_zero_le q.1
    have hn : n ≤ 64 := by omega
    unfold M_Bp_rings
    rw [E_Bp_rings_0]
    simp (disch := omega) only [l_0, l_64, iI_lt, cK_0 H0, cR_0_4 H0, cK_35 H0, okO_ov, aR_ov, gd_true, bnd_some, e1]
    rw [← hX.1]
    refine (congrArg (mw _) ?_).trans (mw_of hX.2.1 hX.2.2.1)
    rw [if_neg (by omega), if_neg (by omega), if_pos (by omega)]
    simp (disch := omega) only [E_Bp_rings_1, l_0, l_1, l_64, cK_0 H, cR_0_4 H, cK_35 H, letT_eq, gd_true, bnd_some, aR_ov, aK_ov, aN_ov, okO_ov, aI_ov H.1, aL_ov H.1, sI_ov H.1, sL_ov H.1, sV_eq, sV_ne, sV_2, sW_eq, sW_ne, sW_1, iI_add, iI_sub, iI_mul, iI_neg, iI_lt, iI_eq, iI_cl, nI_iI, gd_in, bZ_0, bZ_1, bZ_eq, isB_bZ, isB_0, isB_1, nar_bZ, nar_0, nar_1, mw_ov, iI_s, iI_na, iI_nm, Int.toNat_natCast, Int.add_zero, Int.zero_add, Nat.reduceEqDiff, Nat.reduceAdd, Int.reduceAdd, Int.reduceNeg, Int.reduceSub, Int.reduceMul, Int.reduceLT, Int.reduceEq, Int.reduceToNat, reduceCtorEq, ↓reduceIte, q_Rs_listsRinging R hn]
  · have hM : RmI (z + 2) u A σ := ⟨Nat.le_trans C.2.2.2.1.1 (Nat.le_add_right _ _), C.2.2.2.1.2⟩
    refine ⟨A, σ, m, ?_, ⟨C.1, C.2.1, C.2.2.1, hM, C.2.2.2.2⟩, Ext_r _ _, Ks_r _ _⟩
    unfold M_Bp_rings
    rw [E_Bp_rings_0, if_neg q]
    simp (disch := omega) only [E_Bp_rings_1, l_0, l_1, l_64, iI_neg, iI_lt]
    by_cases q1 : a < 0
    · rw [if_pos q1, mw_ov]
    · rw [if_neg q1, if_pos (by omega), mw_ov]
def oddsS (d : TD) (b : BD) (a c : Int) : Int := if (0 ≤ a ∧ a < (sN d : Int)) ∧ (0 ≤ c ∧ c ≤ 1) ∧ nLf d b ≠ 0 then (lowS (wRing d b a.toNat (nLf d b)) (wLf d b) c.toNat : Int) else -1
theorem c_odds {d : TD} {b : BD} {g z u : Nat} {A : Nat → Nat} {σ : AM} {m : VM} (C : CS0 d b g z u A σ m) {a c : Int} (h1 : -2147483648 ≤ a) (h2 : a < 2147483648) (h3 : -2147483648 ≤ c) (h4 : c < 2147483648) : Rf d b g (z + 2) u A σ m [0, 2, 3, 4, 5] (M_Bp_odds (A 0) (iI a) (iI c) (ov 68 A m σ)) (iI (oddsS d b a c)) := by
  have H0 := C.1
  obtain ⟨A, σ, m, e1, C', R, hX, hK, _⟩ := p_refresh C
  have H := R.1
  refine ⟨A, σ, m, ?_, C', hX, hK⟩
  unfold M_Bp_odds
  rw [E_Bp_odds_0]
  simp only [cK_0 H0, cR_0_4 H0, cK_35 H0, okO_ov, aR_ov, gd_true, bnd_some, e1]
  rw [← hX.1]
  refine (congrArg (mw _) ?_).trans (mw_of hX.2.1 hX.2.2.1)
  have h5 := RQ_5 R
  have h6 := R.2.2.2.2.1.2.1
  have hs := q_Tw_hasSet H R.2.1 R.2.2.2.1 h1 h2
  have hN := sN_le R.2.1
  have hw := wLf_le d b
  unfold oddsS
  by_cases q : 0 ≤ a ∧ a < (sN d : Int)
  · rw [decide_eq_true q] at hs
    by_cases q2 : 0 ≤ c ∧ c ≤ 1
    · by_cases q0 : nLf d b = 0
      · rw [if_neg (fun z => z.2.2 q0)]
        simp (disch := omega) only [E_Bp_odds_1, l_0, l_1, cK_0 H, cR_0_1 H, cK_10 H, cR_0_4 H, cK_35 H, q_Rs_size H, q_Rs_weights H, letT_eq, gd_true, bnd_some, aR_ov, aK_ov, aN_ov, okO_ov, aI_ov H.1, aL_ov H.1, sI_ov H.1, sL_ov H.1, sV_eq, sV_ne, sV_2, sW_eq, sW_ne, sW_1, iI_add, iI_sub, iI_mul, iI_neg, iI_lt, iI_eq, iI_cl, nI_iI, gd_in, bZ_0, bZ_1, bZ_eq, isB_bZ, isB_0, isB_1, nar_bZ, nar_0, nar_1, mw_ov, iI_s, iI_na, iI_nm, Int.toNat_natCast, Int.add_zero, Int.zero_add, Nat.reduceEqDiff, Nat.reduceAdd, Int.reduceAdd, Int.reduceNeg, Int.reduceSub, Int.reduceMul, Int.reduceLT, Int.reduceEq, Int.reduceToNat, reduceCtorEq, ↓reduceIte, h5.1, hs]
        rw [if_neg (by omega), if_neg (by omega), if_pos (by omega)]
      · rw [if_pos ⟨q, q2, q0⟩]
        obtain ⟨n, rfl⟩ := Int.eq_ofNat_of_zero_le q.1
        obtain ⟨k, rfl⟩ := Int.eq_ofNat_of_zero_le q2.1
        have hn : n < 64 := by omega
        have hr := wRing_le d b n
        have hw0 : wLf d b ≠ 0 := fun z => q0 ((wLf_0 d b).mp z)
        simp (disch := omega) only [E_Bp_odds_1, l_0, l_1, cK_0 H, cR_0_1 H, cK_10 H, cR_0_4 H, cK_35 H, q_Rs_size H, q_Rs_weights H, letT_eq, gd_true, bnd_some, aR_ov, aK_ov, aN_ov, okO_ov, aI_ov H.1, aL_ov H.1, sI_ov H.1, sL_ov H.1, sV_eq, sV_ne, sV_2, sW_eq, sW_ne, sW_1, iI_add, iI_sub, iI_mul, iI_neg, iI_lt, iI_eq, iI_cl, nI_iI, gd_in, bZ_0, bZ_1, bZ_eq, isB_bZ, isB_0, isB_1, nar_bZ, nar_0, nar_1, mw_ov, iI_s, iI_na, iI_nm, Int.toNat_natCast, Int.add_zero, Int.zero_add, Nat.reduceEqDiff, Nat.reduceAdd, Int.reduceAdd, Int.reduceNeg, Int.reduceSub, Int.reduceMul, Int.reduceLT, Int.reduceEq, Int.reduceToNat, reduceCtorEq, ↓reduceIte, h5.1, h6, hs, q_Rs_weightsRinging R hn, q_St_lowest]
        rw [if_neg (by omega), if_neg (by omega), if_neg (by omega)]
    · rw [if_neg (fun z => q2 z.2.1)]
      simp (disch := omega) only [E_Bp_odds_1, l_0, l_1, cK_0 H, cR_0_1 H, cK_10 H, cR_0_4 H, cK_35 H, q_Rs_size H, q_Rs_weights H, letT_eq, gd_true, bnd_some, aR_ov, aK_ov, aN_ov, okO_ov, aI_ov H.1, aL_ov H.1, sI_ov H.1, sL_ov H.1, sV_eq, sV_ne, sV_2, sW_eq, sW_ne, sW_1, iI_add, iI_sub, iI_mul, iI_neg, iI_lt, iI_eq, iI_cl, nI_iI, gd_in, bZ_0, bZ_1, bZ_eq, isB_bZ, isB_0, isB_1, nar_bZ, nar_0, nar_1, mw_ov, iI_s, iI_na, iI_nm, Int.toNat_natCast, Int.add_zero, Int.zero_add, Nat.reduceEqDiff, Nat.reduceAdd, Int.reduceAdd, Int.reduceNeg, Int.reduceSub, Int.reduceMul, Int.reduceLT, Int.reduceEq, Int.reduceToNat, reduceCtorEq, ↓reduceIte, h5.1, hs]
      by_cases q3 : c < 0
      · rw [if_pos q3]
      · rw [if_neg q3, if_pos (by omega)]
  · rw [decide_eq_false q] at hs
    rw [if_neg (fun z => q z.1)]
    simp (disch := omega) only [E_Bp_odds_1, l_0, l_1, cK_0 H, cR_0_1 H, cK_10 H, cR_0_4 H, cK_35 H, q_Rs_size H, q_Rs_weights H, letT_eq, gd_true, bnd_some, aR_ov, aK_ov, aN_ov, okO_ov, aI_ov H.1, aL_ov H.1, sI_ov H.1, sL_ov H.1, sV_eq, sV_ne, sV_2, sW_eq, sW_ne, sW_1, iI_add, iI_sub, iI_mul, iI_neg, iI_lt, iI_eq, iI_cl, nI_iI, gd_in, bZ_0, bZ_1, bZ_eq, isB_bZ, isB_0, isB_1, nar_bZ, nar_0, nar_1, mw_ov, iI_s, iI_na, iI_nm, Int.toNat_natCast, Int.add_zero, Int.zero_add, Nat.reduceEqDiff, Nat.reduceAdd, Int.reduceAdd, Int.reduceNeg, Int.reduceSub, Int.reduceMul, Int.reduceLT, Int.reduceEq, Int.reduceToNat, reduceCtorEq, ↓reduceIte, hs]
def guessS (d : TD) (b : BD) (a c : Int) : Int := if (0 ≤ a ∧ a < (dT d : Int)) ∧ (0 ≤ c ∧ c ≤ 2) ∧ nLf d b ≠ 0 then (if c = 0 then (bsN (fun v => talN d b a.toNat v (dW d)) 10 : Int) else if c = 1 then fsN 10 (fun v => decide (0 < talN d b a.toNat v (dW d))) else lsN 10 (fun v => decide (0 < talN d b a.toNat v (dW d)))) else -1
theorem c_guess {d : TD} {b : BD} {g z u : Nat} {A : Nat → Nat} {σ : AM} {m : VM} (C : CS0 d b g z u A σ m) {a c : Int} (h1 : -2147483648 ≤ a) (h2 : a < 2147483648) (h3 : -2147483648 ≤ c) (h4 : c < 2147483648) : Rf d b g (z + 2) u A σ m [0, 2, 3, 4, 5] (M_Bp_guess (A 0) (iI a) (iI c) (ov 68 A m σ)) (iI (guessS d b a c)) := by
  have H0 := C.1
  obtain ⟨A, σ, m, e1, C', R, hX, hK, _⟩ := p_refresh C
  have H := R.1
  have h5 := RQ_5 R
  have hs := q_Tw_hasThing H R.2.1 R.2.2.2.1 h1 h2
  have hT6 := R.2.1.1
  unfold guessS
  by_cases q : ((0 ≤ a ∧ a < (dT d : Int)) ∧ (0 ≤ c ∧ c ≤ 2) ∧ nLf d b ≠ 0)
  · rw [if_pos q]
    obtain ⟨q1, q2, q0⟩ := q
    rw [decide_eq_true q1] at hs
    obtain ⟨n, rfl⟩ := Int.eq_ofNat_of_zero_le q1.1
    obtain ⟨m2, e2, hK2, ht⟩ := p_Rs_countWeightsOf R (t := n) (by omega)
    have hb : ∀ v, talN d b n v (dW d) ≤ 16384 := fun v => Nat.le_trans (cntN_le _ _) R.2.1.2.2.2.2.2.2
    have f1 := q_Rs_likeliest H ht hb
    have f2 := q_Rs_lightest H ht hb
    have f3 := q_Rs_heaviest H ht hb
    refine ⟨A, σ, m2, ?_, CS0_K (Ks_sub hK2 (by decide)) C', hX, Ks_t hK (Ks_sub hK2 (by decide))⟩
    unfold M_Bp_guess
    rw [E_Bp_guess_0]
    simp only [cK_0 H0, cR_0_4 H0, cK_35 H0, okO_ov, aR_ov, gd_true, bnd_some, e1]
    rw [← hX.1]
    refine (congrArg (mw _) ?_).trans (mw_of hX.2.1 hX.2.2.1)
    simp (disch := omega) only [E_Bp_guess_1, l_0, l_1, l_2, cK_0 H, cR_0_1 H, cK_10 H, cR_0_4 H, cK_35 H, q_Rs_size H, letT_eq, gd_true, bnd_some, aR_ov, aK_ov, aN_ov, okO_ov, aI_ov H.1, aL_ov H.1, sI_ov H.1, sL_ov H.1, sV_eq, sV_ne, sV_2, sW_eq, sW_ne, sW_1, iI_add, iI_sub, iI_mul, iI_neg, iI_lt, iI_eq, iI_cl, nI_iI, gd_in, bZ_0, bZ_1, bZ_eq, isB_bZ, isB_0, isB_1, nar_bZ, nar_0, nar_1, mw_ov, iI_s, iI_na, iI_nm, Int.toNat_natCast, Int.add_zero, Int.zero_add, Nat.reduceEqDiff, Nat.reduceAdd, Int.reduceAdd, Int.reduceNeg, Int.reduceSub, Int.reduceMul, Int.reduceLT, Int.reduceEq, Int.reduceToNat, reduceCtorEq, ↓reduceIte, h5.1, hs, e2, f1, f2, f3]
    rw [if_neg (show ¬ c < 0 by omega), if_neg (show ¬ 2 < c by omega), if_neg (show ¬ (nLf d b : Int) = 0 by omega)]
    by_cases q3 : c = 0
    · rw [if_pos q3, if_pos q3]
    · rw [if_neg q3, if_neg q3]
      by_cases q4 : c = 1
      · rw [if_pos q4, if_pos q4]
      · rw [if_neg q4, if_neg q4]
  · rw [if_neg q]
    refine ⟨A, σ, m, ?_, C', hX, hK⟩
    unfold M_Bp_guess
    rw [E_Bp_guess_0]
    simp only [cK_0 H0, cR_0_4 H0, cK_35 H0, okO_ov, aR_ov, gd_true, bnd_some, e1]
    rw [← hX.1]
    refine (congrArg (mw _) ?_).trans (mw_of hX.2.1 hX.2.2.1)
    by_cases q1 : 0 ≤ a ∧ a < (dT d : Int)
    · rw [decide_eq_true q1] at hs
      simp (disch := omega) only [E_Bp_guess_1, l_0, l_1, l_2, cK_0 H, cR_0_1 H, cK_10 H, cR_0_4 H, cK_35 H, q_Rs_size H, letT_eq, gd_true, bnd_some, aR_ov, aK_ov, aN_ov, okO_ov, aI_ov H.1, aL_ov H.1, sI_ov H.1, sL_ov H.1, sV_eq, sV_ne, sV_2, sW_eq, sW_ne, sW_1, iI_add, iI_sub, iI_mul, iI_neg, iI_lt, iI_eq, iI_cl, nI_iI, gd_in, bZ_0, bZ_1, bZ_eq, isB_bZ, isB_0, isB_1, nar_bZ, nar_0, nar_1, mw_ov, iI_s, iI_na, iI_nm, Int.toNat_natCast, Int.add_zero, Int.zero_add, Nat.reduceEqDiff, Nat.reduceAdd, Int.reduceAdd, Int.reduceNeg, Int.reduceSub, Int.reduceMul, Int.reduceLT, Int.reduceEq, Int.reduceToNat, reduceCtorEq, ↓reduceIte, h5.1, hs]
      by_cases q3 : c < 0
      · rw [if_pos q3]
      · rw [if_neg q3]
        by_cases q4 : 2 < c
        · rw [if_pos q4]
        · rw [if_neg q4, if_pos]
          have : nLf d b = 0 := Classical.byContradiction fun z => q ⟨q1, ⟨by omega, by omega⟩, z⟩
          omega
    · rw [decide_eq_false q1] at hs
      simp (disch := omega) only [E_Bp_guess_1, l_0, l_1, l_2, cK_0 H, cR_0_1 H, cK_10 H, cR_0_4 H, cK_35 H, q_Rs_size H, letT_eq, gd_true, bnd_some, aR_ov, aK_ov, aN_ov, okO_ov, aI_ov H.1, aL_ov H.1, sI_ov H.1, sL_ov H.1, sV_eq, sV_ne, sV_2, sW_eq, sW_ne, sW_1, iI_add, iI_sub, iI_mul, iI_neg, iI_lt, iI_eq, iI_cl, nI_iI, gd_in, bZ_0, bZ_1, bZ_eq, isB_bZ, isB_0, isB_1, nar_bZ, nar_0, nar_1, mw_ov, iI_s, iI_na, iI_nm, Int.toNat_natCast, Int.add_zero, Int.zero_add, Nat.reduceEqDiff, Nat.reduceAdd, Int.reduceAdd, Int.reduceNeg, Int.reduceSub, Int.reduceMul, Int.reduceLT, Int.reduceEq, Int.reduceToNat, reduceCtorEq, ↓reduceIte, hs]
