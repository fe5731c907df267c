/-! ===== a thing that has grown, the reference ===== -/
theorem bt_tol0 {d : TD} {b : BD} (hb : wfB d b) (r : Bool) (s : Nat) : ∀ k, k ≤ 60 → bt (tol b r 0 k) s = anyN k (fun i => decide (tR b i = r) && decide (s = tS b i)) := by
  intro k
  induction k with
  | zero => intro _; exact bt_0 s
  | succ k ih =>
    intro hk
    rw [anyN_s, ← ih (by omega)]
    have et : tol b r 0 (k + 1) = if 0 ≤ k ∧ tR b k = r then tol b r 0 k ||| b1 (tS b (k - 0)) else tol b r 0 k := rfl
    rw [et]
    have hs := hb.2.2.1 k (by omega)
    by_cases q : tR b k = r
    · rw [if_pos ⟨Nat.zero_le _, q⟩, bt_or, decide_eq_true q, Bool.true_and, Nat.sub_zero, bt_b1 hs]
    · rw [if_neg (fun z => q z.2), decide_eq_false q, Bool.false_and, Bool.or_false]
theorem fit_wr {d : TD} {b : BD} (hb : wfB d b) (x : Int64) : fitT b x = true ↔ ∀ j, j < nT b → wrB b x j = false := by
  have hn := hb.1
  have t1 := fun s => bt_tol0 hb true s (nT b) hn
  have t0 := fun s => bt_tol0 hb false s (nT b) hn
  unfold fitT
  rw [Bool.and_eq_true, decide_eq_true_iff, decide_eq_true_iff, bt_z, bt_z]
  constructor
  · intro ⟨h0, h1⟩ j hj
    have hs := hb.2.2.1 j (by omega)
    have a0 := h0 _ hs
    have a1 := h1 _ hs
    rw [bt_and] at a0 a1
    rw [bt_not x hs] at a1
    unfold must at a1
    unfold mustN at a0
    rw [t1] at a1
    rw [t0] at a0
    unfold wrB
    cases q : tR b j
    · have : anyN (nT b) (fun i => decide (tR b i = false) && decide (tS b j = tS b i)) = true := anyN_iff.mpr ⟨j, hj, by rw [q]; simp⟩
      rw [this, Bool.and_true] at a0
      rw [a0]; rfl
    · have : anyN (nT b) (fun i => decide (tR b i = true) && decide (tS b j = tS b i)) = true := anyN_iff.mpr ⟨j, hj, by rw [q]; simp⟩
      rw [this, Bool.and_true] at a1
      cases z : bt x (tS b j)
      · rw [z] at a1; cases a1
      · rfl
  · intro h
    refine ⟨fun s hs => ?_, fun s hs => ?_⟩
    · rw [bt_and]
      unfold mustN
      rw [t0]
      cases q : anyN (nT b) (fun i => decide (tR b i = false) && decide (s = tS b i))
      · rw [Bool.and_false]
      · obtain ⟨i, hi, z⟩ := anyN_iff.mp q
        rw [Bool.and_eq_true, decide_eq_true_iff, decide_eq_true_iff] at z
        have := h i hi
        unfold wrB at this
        rw [← z.2, z.1] at this
        cases q2 : bt x s
        · rfl
        · rw [q2] at this; cases this
    · rw [bt_and, bt_not x hs]
      unfold must
      rw [t1]
      cases q : anyN (nT b) (fun i => decide (tR b i = true) && decide (s = tS b i))
      · rw [Bool.and_false]
      · obtain ⟨i, hi, z⟩ := anyN_iff.mp q
        rw [Bool.and_eq_true, decide_eq_true_iff, decide_eq_true_iff] at z
        have := h i hi
        unfold wrB at this
        rw [← z.2, z.1] at this
        cases q2 : bt x s
        · rw [q2] at this; cases this
        · rfl
theorem q_Md_firstWrong {A : Nat → Nat} {σ : AM} (H : LM A σ) {m : VM} {d : TD} {b : BD} (hb : wfB d b) (hB : MB b m) {x : Int64} {f : Nat} (hf : isFW b x f) : M_Md_firstWrong (A 0) x (ov 40 A m σ) = some (iI (f : Int), (ov 40 A m σ)) := by
  have hn := hb.1
  have hfn := hf.2.1
  have dr : ∀ k, k < nT b → M_Md_doesRing x (iI (tS b k : Int)) (ov 40 A m σ) = some (bZ (bt x (tS b k)), (ov 40 A m σ)) := fun k hk => q_Md_doesRing x (hb.2.2.1 k (by omega)) (ov 40 A m σ)
  have hl := up_loop (fun k => L_Md_firstWrong_1 (A 0) x (iI (k : Int)) (ov 40 A m σ)) f (some (iI (f : Int), (ov 40 A m σ))) (fun k hk ih => by
    have e1 := hB.2.1 k (by omega)
    have e2 := hB.2.2.1 k (by omega)
    have hr := dr k (by omega)
    have z : bt x (tS b k) = tR b k := by
      have q := hf.1 k hk
      unfold wrB at q
      cases z1 : bt x (tS b k) <;> cases z2 : tR b k <;> rw [z1, z2] at q <;> first | rfl | cases q
    rw [z] at hr
    show L_Md_firstWrong_1 _ _ _ _ = _
    rw [E_Md_firstWrong_1]; simp (disch := omega) only [E_Md_firstWrong_2, l_1, mK_0 H, mR_38 H, mK_21 H, mN_21 H, mR_39 H, mK_22 H, mN_22 H, letT_eq, gd_true, bnd_some, aR_ov, aK_ov, aN_ov, okO_ov, aI_ov H.1, aL_ov H.1, sI_ov H.1, sL_ov H.1, sV_eq, sV_ne, sV_2, sW_eq, sW_ne, sW_1, iI_add, iI_sub, iI_mul, iI_neg, iI_lt, iI_eq, iI_cl, nI_iI, gd_in, bZ_0, bZ_1, bZ_eq, isB_bZ, isB_0, isB_1, nar_bZ, nar_0, nar_1, mw_ov, iI_s, iI_na, iI_nm, Int.toNat_natCast, Int.add_zero, Int.zero_add, Nat.reduceEqDiff, Nat.reduceAdd, Int.reduceAdd, Int.reduceNeg, Int.reduceSub, Int.reduceMul, Int.reduceLT, Int.reduceEq, Int.reduceToNat, reduceCtorEq, ↓reduceIte, hB.1.1, e1, e2, hr]
    rw [if_pos (by omega)]
    exact ih) (by
    have e1 := hB.2.1 f (by omega)
    have e2 := hB.2.2.1 f (by omega)
    have hr := dr f (by omega)
    have q := hf.2.2
    unfold wrB at q
    show L_Md_firstWrong_1 _ _ _ _ = _
    cases z1 : bt x (tS b f) <;> cases z2 : tR b f <;> rw [z1, z2] at q <;> rw [z1] at hr <;> rw [z2] at e2
    · cases q
    · rw [E_Md_firstWrong_1]; simp (disch := omega) only [E_Md_firstWrong_2, l_1, mK_0 H, mR_38 H, mK_21 H, mN_21 H, mR_39 H, mK_22 H, mN_22 H, letT_eq, gd_true, bnd_some, aR_ov, aK_ov, aN_ov, okO_ov, aI_ov H.1, aL_ov H.1, sI_ov H.1, sL_ov H.1, sV_eq, sV_ne, sV_2, sW_eq, sW_ne, sW_1, iI_add, iI_sub, iI_mul, iI_neg, iI_lt, iI_eq, iI_cl, nI_iI, gd_in, bZ_0, bZ_1, bZ_eq, isB_bZ, isB_0, isB_1, nar_bZ, nar_0, nar_1, mw_ov, iI_s, iI_na, iI_nm, Int.toNat_natCast, Int.add_zero, Int.zero_add, Nat.reduceEqDiff, Nat.reduceAdd, Int.reduceAdd, Int.reduceNeg, Int.reduceSub, Int.reduceMul, Int.reduceLT, Int.reduceEq, Int.reduceToNat, reduceCtorEq, ↓reduceIte, hB.1.1, e1, e2, hr]
      rw [if_pos (by omega)]
    · rw [E_Md_firstWrong_1]; simp (disch := omega) only [E_Md_firstWrong_2, l_1, mK_0 H, mR_38 H, mK_21 H, mN_21 H, mR_39 H, mK_22 H, mN_22 H, letT_eq, gd_true, bnd_some, aR_ov, aK_ov, aN_ov, okO_ov, aI_ov H.1, aL_ov H.1, sI_ov H.1, sL_ov H.1, sV_eq, sV_ne, sV_2, sW_eq, sW_ne, sW_1, iI_add, iI_sub, iI_mul, iI_neg, iI_lt, iI_eq, iI_cl, nI_iI, gd_in, bZ_0, bZ_1, bZ_eq, isB_bZ, isB_0, isB_1, nar_bZ, nar_0, nar_1, mw_ov, iI_s, iI_na, iI_nm, Int.toNat_natCast, Int.add_zero, Int.zero_add, Nat.reduceEqDiff, Nat.reduceAdd, Int.reduceAdd, Int.reduceNeg, Int.reduceSub, Int.reduceMul, Int.reduceLT, Int.reduceEq, Int.reduceToNat, reduceCtorEq, ↓reduceIte, hB.1.1, e1, e2, hr]
      rw [if_pos (by omega)]
    · cases q) 0 (Nat.zero_le _)
  unfold M_Md_firstWrong
  rw [E_Md_firstWrong_0]
  exact (congrArg (mw _) hl).trans (mw_ov _ _ _ _ _ _)
theorem q_Md_lastWrong {A : Nat → Nat} {σ : AM} (H : LM A σ) {m : VM} {d : TD} {b : BD} (hb : wfB d b) (hB : MB b m) (x : Int64) : ∃ r : Int, M_Md_lastWrong (A 0) x (ov 40 A m σ) = some (iI r, (ov 40 A m σ)) ∧ -1 ≤ r ∧ r < 60 ∧ ∀ f : Nat, (r < (f : Int) ↔ ∀ j, f ≤ j → j < nT b → wrB b x j = false) := by
  have hn := hb.1
  have hl := up_loopI (fun k (_ : Unit) => L_Md_lastWrong_1 (A 0) x (iI ((nT b : Int) - 1 - (k : Int))) (ov 40 A m σ)) (fun k _ => ∀ j, nT b - k ≤ j → j < nT b → wrB b x j = false) (fun X => ∃ r : Int, X = some (iI r, (ov 40 A m σ)) ∧ -1 ≤ r ∧ r < 60 ∧ ∀ f : Nat, (r < (f : Int) ↔ ∀ j, f ≤ j → j < nT b → wrB b x j = false)) (nT b) (fun k _ hk hI ih => by
    obtain ⟨i, hi⟩ : ∃ i : Nat, nT b = i + 1 + k := ⟨nT b - 1 - k, by omega⟩
    have e0 : (nT b : Int) - 1 - (k : Int) = (i : Int) := by omega
    have e0' : (nT b : Int) - 1 - ((k + 1 : Nat) : Int) = (i : Int) + -1 := by omega
    have e1 := hB.2.1 i (by omega)
    have e2 := hB.2.2.1 i (by omega)
    have hr := q_Md_doesRing x (hb.2.2.1 i (by omega)) (ov 40 A m σ)
    show ∃ r : Int, L_Md_lastWrong_1 _ _ (iI ((nT b : Int) - 1 - (k : Int))) _ = _ ∧ _
    rw [e0]
    cases q : wrB b x i
    · have z : bt x (tS b i) = tR b i := by
        unfold wrB at q
        cases z1 : bt x (tS b i) <;> cases z2 : tR b i <;> rw [z1, z2] at q <;> first | rfl | cases q
      rw [z] at hr
      obtain ⟨r, e, p⟩ := ih () (fun j h1 h2 => by
        by_cases y : j = i
        · rw [y]; exact q
        · exact hI j (by omega) h2)
      refine ⟨r, ?_, p⟩
      replace e : L_Md_lastWrong_1 _ _ (iI ((nT b : Int) - 1 - ((k + 1 : Nat) : Int))) _ = _ := e
      rw [e0'] at e
      rw [← e]
      rw [E_Md_lastWrong_1]; simp (disch := omega) only [E_Md_lastWrong_2, l_0, l_1, mK_0 H, mR_38 H, mK_21 H, mN_21 H, mR_39 H, mK_22 H, mN_22 H, letT_eq, gd_true, bnd_some, aR_ov, aK_ov, aN_ov, okO_ov, aI_ov H.1, aL_ov H.1, sI_ov H.1, sL_ov H.1, sV_eq, sV_ne, sV_2, sW_eq, sW_ne, sW_1, iI_add, iI_sub, iI_mul, iI_neg, iI_lt, iI_eq, iI_cl, nI_iI, gd_in, bZ_0, bZ_1, bZ_eq, isB_bZ, isB_0, isB_1, nar_bZ, nar_0, nar_1, mw_ov, iI_s, iI_na, iI_nm, Int.toNat_natCast, Int.add_zero, Int.zero_add, Nat.reduceEqDiff, Nat.reduceAdd, Int.reduceAdd, Int.reduceNeg, Int.reduceSub, Int.reduceMul, Int.reduceLT, Int.reduceEq, Int.reduceToNat, reduceCtorEq, ↓reduceIte, e1, e2, hr]
      rw [if_neg (by omega)]
    · refine ⟨(i : Int), ?_, by omega, by omega, fun f => ⟨fun h j h1 h2 => hI j (by omega) h2, fun h => ?_⟩⟩
      · have q' := q
        unfold wrB at q'
        cases z1 : bt x (tS b i) <;> cases z2 : tR b i <;> rw [z1, z2] at q' <;> rw [z1] at hr <;> rw [z2] at e2
        · cases q'
        · rw [E_Md_lastWrong_1]; simp (disch := omega) only [E_Md_lastWrong_2, l_0, l_1, mK_0 H, mR_38 H, mK_21 H, mN_21 H, mR_39 H, mK_22 H, mN_22 H, letT_eq, gd_true, bnd_some, aR_ov, aK_ov, aN_ov, okO_ov, aI_ov H.1, aL_ov H.1, sI_ov H.1, sL_ov H.1, sV_eq, sV_ne, sV_2, sW_eq, sW_ne, sW_1, iI_add, iI_sub, iI_mul, iI_neg, iI_lt, iI_eq, iI_cl, nI_iI, gd_in, bZ_0, bZ_1, bZ_eq, isB_bZ, isB_0, isB_1, nar_bZ, nar_0, nar_1, mw_ov, iI_s, iI_na, iI_nm, Int.toNat_natCast, Int.add_zero, Int.zero_add, Nat.reduceEqDiff, Nat.reduceAdd, Int.reduceAdd, Int.reduceNeg, Int.reduceSub, Int.reduceMul, Int.reduceLT, Int.reduceEq, Int.reduceToNat, reduceCtorEq, ↓reduceIte, e1, e2, hr]
          rw [if_neg (by omega)]
        · rw [E_Md_lastWrong_1]; simp (disch := omega) only [E_Md_lastWrong_2, l_0, l_1, mK_0 H, mR_38 H, mK_21 H, mN_21 H, mR_39 H, mK_22 H, mN_22 H, letT_eq, gd_true, bnd_some, aR_ov, aK_ov, aN_ov, okO_ov, aI_ov H.1, aL_ov H.1, sI_ov H.1, sL_ov H.1, sV_eq, sV_ne, sV_2, sW_eq, sW_ne, sW_1, iI_add, iI_sub, iI_mul, iI_neg, iI_lt, iI_eq, iI_cl, nI_iI, gd_in, bZ_0, bZ_1, bZ_eq, isB_bZ, isB_0, isB_1, nar_bZ, nar_0, nar_1, mw_ov, iI_s, iI_na, iI_nm, Int.toNat_natCast, Int.add_zero, Int.zero_add, Nat.reduceEqDiff, Nat.reduceAdd, Int.reduceAdd, Int.reduceNeg, Int.reduceSub, Int.reduceMul, Int.reduceLT, Int.reduceEq, Int.reduceToNat, reduceCtorEq, ↓reduceIte, e1, e2, hr]
          rw [if_neg (by omega)]
        · cases q'
      · by_cases y : (i : Int) < (f : Int)
        · exact y
        · have := h i (by omega) (by omega)
          rw [q] at this; cases this) (fun _ hI => by
    refine ⟨-1, ?_, by omega, by omega, fun f => ⟨fun h j h1 h2 => hI j (by omega) h2, fun _ => by omega⟩⟩
    show L_Md_lastWrong_1 _ _ (iI ((nT b : Int) - 1 - (nT b : Int))) _ = _
    rw [show (nT b : Int) - 1 - (nT b : Int) = -1 by omega]
    rw [E_Md_lastWrong_1, if_pos (by decide), E_Md_lastWrong_2]) 0 () (Nat.zero_le _) (fun j h1 h2 => by omega)
  obtain ⟨r, e, p⟩ := hl
  refine ⟨r, ?_, p⟩
  unfold M_Md_lastWrong
  replace e : L_Md_lastWrong_1 _ _ (iI ((nT b : Int) - 1 - 0)) _ = _ := e
  rw [Int.sub_zero] at e
  rw [E_Md_lastWrong_0]; simp (disch := omega) only [l_1, mK_0 H, letT_eq, gd_true, bnd_some, aR_ov, aK_ov, aN_ov, okO_ov, aI_ov H.1, aL_ov H.1, sI_ov H.1, sL_ov H.1, sV_eq, sV_ne, sV_2, sW_eq, sW_ne, sW_1, iI_add, iI_sub, iI_mul, iI_neg, iI_lt, iI_eq, iI_cl, nI_iI, gd_in, bZ_0, bZ_1, bZ_eq, isB_bZ, isB_0, isB_1, nar_bZ, nar_0, nar_1, mw_ov, iI_s, iI_na, iI_nm, Int.toNat_natCast, Int.add_zero, Int.zero_add, Nat.reduceEqDiff, Nat.reduceAdd, Int.reduceAdd, Int.reduceNeg, Int.reduceSub, Int.reduceMul, Int.reduceLT, Int.reduceEq, Int.reduceToNat, reduceCtorEq, ↓reduceIte, hB.1.1, e]
theorem q_Md_listNow {A : Nat → Nat} {σ : AM} (H : LM A σ) {m : VM} {d : TD} (hd : wfD d) (hm : MT d m) {f : Nat → Nat} (hf : ∀ s, f s ≤ 1000) (h : ∀ s, s < sN d → m.1 19 s = iI (f s : Int)) : M_Md_listNow (A 0) (ov 40 A m σ) = some (mkB (sN d) (fun s => decide (dB d ≤ f s)), (ov 40 A m σ)) := by
  have hsN := sN_le hd
  have hB5 := hd.2.2.2.2.1
  have r0 := q_Md_sets H hd hm
  have hl := up_loop (fun k => L_Md_listNow_1 (A 0) (mkB k (fun s => decide (dB d ≤ f s))) (iI (k : Int)) (ov 40 A m σ)) (sN d) (some (mkB (sN d) (fun s => decide (dB d ≤ f s)), (ov 40 A m σ))) (fun k hk ih => by
    have e1 := h k hk
    have hfk := hf k
    have es : mkB (k + 1) (fun s => decide (dB d ≤ f s)) = if decide (dB d ≤ f k) = true then mkB k (fun s => decide (dB d ≤ f s)) ||| b1 k else mkB k (fun s => decide (dB d ≤ f s)) := rfl
    show L_Md_listNow_1 _ _ _ _ = _
    replace ih : L_Md_listNow_1 _ _ _ _ = _ := ih
    rw [es] at ih
    by_cases q : dB d ≤ f k
    · rw [if_pos (decide_eq_true q)] at ih
      rw [E_Md_listNow_1]; simp (disch := omega) only [E_Md_listNow_2, l_1, mK_0 H, mR_35 H, mK_19 H, mN_19 H, letT_eq, gd_true, bnd_some, aR_ov, aK_ov, aN_ov, okO_ov, aI_ov H.1, aL_ov H.1, sI_ov H.1, sL_ov H.1, sV_eq, sV_ne, sV_2, sW_eq, sW_ne, sW_1, iI_add, iI_sub, iI_mul, iI_neg, iI_lt, iI_eq, iI_cl, nI_iI, gd_in, bZ_0, bZ_1, bZ_eq, isB_bZ, isB_0, isB_1, nar_bZ, nar_0, nar_1, mw_ov, iI_s, iI_na, iI_nm, Int.toNat_natCast, Int.add_zero, Int.zero_add, Nat.reduceEqDiff, Nat.reduceAdd, Int.reduceAdd, Int.reduceNeg, Int.reduceSub, Int.reduceMul, Int.reduceLT, Int.reduceEq, Int.reduceToNat, reduceCtorEq, ↓reduceIte, r0, e1, hm.1.2.2.1, shl_b1 (show k < 64 by omega)]
      rw [if_pos (by omega), if_neg (by omega)]
      exact ih
    · rw [if_neg (by rw [decide_eq_false q]; decide)] at ih
      rw [E_Md_listNow_1]; simp (disch := omega) only [E_Md_listNow_2, l_1, mK_0 H, mR_35 H, mK_19 H, mN_19 H, letT_eq, gd_true, bnd_some, aR_ov, aK_ov, aN_ov, okO_ov, aI_ov H.1, aL_ov H.1, sI_ov H.1, sL_ov H.1, sV_eq, sV_ne, sV_2, sW_eq, sW_ne, sW_1, iI_add, iI_sub, iI_mul, iI_neg, iI_lt, iI_eq, iI_cl, nI_iI, gd_in, bZ_0, bZ_1, bZ_eq, isB_bZ, isB_0, isB_1, nar_bZ, nar_0, nar_1, mw_ov, iI_s, iI_na, iI_nm, Int.toNat_natCast, Int.add_zero, Int.zero_add, Nat.reduceEqDiff, Nat.reduceAdd, Int.reduceAdd, Int.reduceNeg, Int.reduceSub, Int.reduceMul, Int.reduceLT, Int.reduceEq, Int.reduceToNat, reduceCtorEq, ↓reduceIte, r0, e1, hm.1.2.2.1, shl_b1 (show k < 64 by omega), or0]
      rw [if_pos (by omega), if_pos (by omega)]
      exact ih) (by
    show L_Md_listNow_1 _ _ _ _ = _
    rw [E_Md_listNow_1]
    simp (disch := omega) only [mK_0 H, okO_ov, gd_true, r0, bnd_some, iI_lt]
    rw [if_neg (by omega)]) 0 (Nat.zero_le _)
  unfold M_Md_listNow
  rw [E_Md_listNow_0]
  exact (congrArg (mw _) hl).trans (mw_ov _ _ _ _ _ _)
