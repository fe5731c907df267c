/-! ===== a bell that was late ===== -/
def fitR (y n x : Int64) : Bool := decide (x &&& n = 0) && decide ((x ^^^ (-1)) &&& y = 0)
theorem and_all (x y : Int64) : (x &&& y = y) ↔ ((x ^^^ (-1)) &&& y = 0) := by
  constructor
  · intro h
    apply bt_z.mpr
    intro s hs
    rw [bt_and, bt_not x hs]
    have := congrArg (fun z => bt z s) h
    simp only [bt_and] at this
    cases q : bt x s <;> cases q2 : bt y s <;> simp_all
  · intro h
    apply bt_ext
    intro s hs
    rw [bt_and]
    have := (bt_z.mp h) s hs
    rw [bt_and, bt_not x hs] at this
    cases q : bt x s <;> cases q2 : bt y s <;> simp_all
theorem sum_sh (d : TD) : sumN (NL d) (sh d) = nMay d := by
  have := cnt_lst (d := d) (fun _ => true) (dW d) (LLd d) (LLs_nodup d _) (fun _ hw hm => LLs_has hw hm)
  simp only [if_true, Bool.and_true] at this
  exact this
theorem nMay_le (d : TD) : nMay d ≤ dW d := cntN_le _ _
def lateN (d : TD) (b : BD) (lag k : Nat) : Nat := sumN k (fun i => if fitR (tol b true lag (nT b)) (tol b false lag (nT b)) (LL d i) = true then sh d i else 0)
theorem lateN_le {d : TD} (hd : wfD d) (b : BD) (lag : Nat) : lateN d b lag (NL d) ≤ 16384 := by
  have h1 : lateN d b lag (NL d) ≤ sumN (NL d) (sh d) := sumN_mono fun i _ => by split <;> omega
  rw [sum_sh] at h1
  have := nMay_le d
  have := hd.2.2.2.2.2.2
  omega
theorem fitR_if {α : Type} (y n x : Int64) (X Y : α) : (if x &&& n = 0 then (if (x ^^^ (-1)) &&& y = 0 then X else Y) else Y) = if fitR y n x = true then X else Y := by
  unfold fitR
  by_cases q : x &&& n = 0
  · by_cases r : (x ^^^ (-1)) &&& y = 0
    · rw [if_pos q, if_pos r, decide_eq_true q, decide_eq_true r]; rfl
    · rw [if_pos q, if_neg r, decide_eq_false r, Bool.and_false]; rfl
  · rw [if_neg q, decide_eq_false q]; rfl
theorem q_Db_weightsIfLate {A : Nat → Nat} {σ : AM} (H : LC A σ) {m : VM} {d : TD} {b : BD} (hd : wfD d) (hD : LD d A σ) (hT : CTw d m) (hb : wfB d b) (hB : CBk b m) {lag : Nat} (hl : lag ≤ 5) : M_Db_weightsIfLate (A 61) (iI (lag : Int)) (ov 68 A m σ) = some (iI (lateN d b lag (NL d) : Int), (ov 68 A m σ)) := by
  have hN := NL_le d
  have hD1 := hD.1
  have hD2 := hD.2
  have h22 := H.2.2.2.2.1
  have t1 : M_Bk_setsTold (A 27) (iI 1) (iI (lag : Int)) (ov 68 A m σ) = some (tol b true lag (nT b), (ov 68 A m σ)) := q_Bk_setsTold H hb hB true (by omega)
  have t2 : M_Bk_setsTold (A 27) (iI 0) (iI (lag : Int)) (ov 68 A m σ) = some (tol b false lag (nT b), (ov 68 A m σ)) := q_Bk_setsTold H hb hB false (by omega)
  have h := up_loop (fun k => L_Ls_weightsAs_1 (A 17) (tol b true lag (nT b)) (tol b false lag (nT b)) (iI (lateN d b lag k : Int)) (iI (k : Int)) (ov 68 A m σ)) (NL d) (some (iI (lateN d b lag (NL d) : Int), (ov 68 A m σ))) (fun k hk ih => by
    have e1 := hT.2.1 k hk
    have e2 := hT.2.2.1 k hk
    show L_Ls_weightsAs_1 _ _ _ _ _ _ = _
    replace ih : L_Ls_weightsAs_1 _ _ _ (iI ((lateN d b lag k + if fitR (tol b true lag (nT b)) (tol b false lag (nT b)) (LL d k) = true then sh d k else 0 : Nat) : Int)) _ _ = _ := ih
    rw [E_Ls_weightsAs_1]; simp (disch := omega) only [E_Ls_weightsAs_2, l_0, l_1, cK_17 H, cR_17_4 H, cK_21 H, cR_17_5 H, cK_22 H, cN_22 H, letT_eq, gd_true, bnd_some, aR_ov, aK_ov, aN_ov, okO_ov, aI_ov H.1, aL_ov H.1, sI_ov H.1, sL_ov H.1, sV_eq, sV_ne, sV_2, sW_eq, sW_ne, sW_1, iI_add, iI_sub, iI_mul, iI_neg, iI_lt, iI_eq, iI_cl, nI_iI, gd_in, bZ_0, bZ_1, bZ_eq, isB_bZ, isB_0, isB_1, nar_bZ, nar_0, nar_1, mw_ov, iI_s, iI_na, iI_nm, Int.toNat_natCast, Int.add_zero, Int.zero_add, Nat.reduceEqDiff, Nat.reduceAdd, Int.reduceAdd, Int.reduceNeg, Int.reduceSub, Int.reduceMul, Int.reduceLT, Int.reduceEq, Int.reduceToNat, reduceCtorEq, ↓reduceIte, hT.1.2.2.2.2.1, e1, e2, lgc0]
    rw [if_pos (show (k : Int) < (NL d : Int) by omega), fitR_if]
    by_cases c : fitR (tol b true lag (nT b)) (tol b false lag (nT b)) (LL d k) = true
    · rw [if_pos c]; rw [if_pos c] at ih; exact ih
    · rw [if_neg c]; rw [if_neg c] at ih; exact ih) (by
    show L_Ls_weightsAs_1 _ _ _ _ _ _ = _
    rw [E_Ls_weightsAs_1]; simp (disch := omega) only [cK_17 H, okO_ov, aR_ov, gd_true, bnd_some, aI_ov H.1, iI_lt, hT.1.2.2.2.2.1]; rw [if_neg (by omega)]) 0 (Nat.zero_le _)
  replace h : L_Ls_weightsAs_1 (A 17) (tol b true lag (nT b)) (tol b false lag (nT b)) (iI 0) (iI 0) (ov 68 A m σ) = _ := h
  have hw : M_Ls_weightsAs (A 17) (tol b true lag (nT b)) (tol b false lag (nT b)) (ov 68 A m σ) = some (iI (lateN d b lag (NL d) : Int), (ov 68 A m σ)) := by
    unfold M_Ls_weightsAs
    rw [E_Ls_weightsAs_0]
    simp only [l_0]
    exact (congrArg (mw _) h).trans (mw_ov _ _ _ _ _ _)
  unfold M_Db_weightsIfLate
  rw [E_Db_weightsIfLate_0]; simp (disch := omega) only [l_0, l_1, cK_61 H, cR_61_1 H, cK_17 H, cR_61_2 H, cK_27 H, letT_eq, gd_true, bnd_some, aR_ov, aK_ov, aN_ov, okO_ov, aI_ov H.1, aL_ov H.1, sI_ov H.1, sL_ov H.1, sV_eq, sV_ne, sV_2, sW_eq, sW_ne, sW_1, iI_add, iI_sub, iI_mul, iI_neg, iI_lt, iI_eq, iI_cl, nI_iI, gd_in, bZ_0, bZ_1, bZ_eq, isB_bZ, isB_0, isB_1, nar_bZ, nar_0, nar_1, mw_ov, iI_s, iI_na, iI_nm, Int.toNat_natCast, Int.add_zero, Int.zero_add, Nat.reduceEqDiff, Nat.reduceAdd, Int.reduceAdd, Int.reduceNeg, Int.reduceSub, Int.reduceMul, Int.reduceLT, Int.reduceEq, Int.reduceToNat, reduceCtorEq, ↓reduceIte, t1, t2, hw]
def lagN (d : TD) (b : BD) (k : Nat) : Nat := bsN (fun l => lateN d b l (NL d)) k
theorem lagN_s (d : TD) (b : BD) (k : Nat) : lagN d b (k + 1) = if lateN d b (lagN d b k) (NL d) < lateN d b k (NL d) then k else lagN d b k := rfl
theorem q_Db_bestLag {A : Nat → Nat} {σ : AM} (H : LC A σ) {m : VM} {d : TD} {b : BD} (hd : wfD d) (hD : LD d A σ) (hT : CTw d m) (hb : wfB d b) (hB : CBk b m) : M_Db_bestLag (A 61) (ov 68 A m σ) = some (iI (lagN d b 6 : Int), (ov 68 A m σ)) := by
  have h := up_loop (fun k => L_Db_bestLag_1 (A 61) (iI (lagN d b (k + 1) : Int)) (iI (lateN d b (lagN d b (k + 1)) (NL d) : Int)) (iI ((k + 1 : Nat) : Int)) (ov 68 A m σ)) 5 (some (iI (lagN d b 6 : Int), (ov 68 A m σ))) (fun k hk ih => by
    have hw := q_Db_weightsIfLate H hd hD hT hb hB (lag := k + 1) (by omega)
    have b1 := lateN_le hd b (k + 1)
    have b2 := lateN_le hd b (lagN d b (k + 1))
    show L_Db_bestLag_1 _ _ _ _ _ = _
    replace ih : L_Db_bestLag_1 _ _ _ _ _ = _ := ih
    rw [lagN_s d b (k + 1)] at ih
    rw [E_Db_bestLag_1]; simp (disch := omega) only [E_Db_bestLag_2, l_1, l_5, cK_61 H, letT_eq, gd_true, bnd_some, aR_ov, aK_ov, aN_ov, okO_ov, aI_ov H.1, aL_ov H.1, sI_ov H.1, sL_ov H.1, sV_eq, sV_ne, sV_2, sW_eq, sW_ne, sW_1, iI_add, iI_sub, iI_mul, iI_neg, iI_lt, iI_eq, iI_cl, nI_iI, gd_in, bZ_0, bZ_1, bZ_eq, isB_bZ, isB_0, isB_1, nar_bZ, nar_0, nar_1, mw_ov, iI_s, iI_na, iI_nm, Int.toNat_natCast, Int.add_zero, Int.zero_add, Nat.reduceEqDiff, Nat.reduceAdd, Int.reduceAdd, Int.reduceNeg, Int.reduceSub, Int.reduceMul, Int.reduceLT, Int.reduceEq, Int.reduceToNat, reduceCtorEq, ↓reduceIte, hw]
    rw [if_neg (by omega)]
    by_cases c : lateN d b (lagN d b (k + 1)) (NL d) < lateN d b (k + 1) (NL d)
    · rw [if_pos (by omega)]; rw [if_pos c] at ih; exact ih
    · rw [if_neg (by omega)]; rw [if_neg c] at ih; exact ih) (by
    show L_Db_bestLag_1 _ _ _ _ _ = _
    rw [E_Db_bestLag_1]
    simp (disch := omega) only [l_5, iI_lt]
    rw [if_pos (by omega)]) 0 (Nat.zero_le _)
  have e1 : lagN d b 1 = 0 := by rw [lagN_s]; split <;> rfl
  replace h : L_Db_bestLag_1 (A 61) (iI (lagN d b 1 : Int)) (iI (lateN d b (lagN d b 1) (NL d) : Int)) (iI 1) (ov 68 A m σ) = _ := h
  rw [e1] at h
  have hw0 : M_Db_weightsIfLate (A 61) (iI 0) (ov 68 A m σ) = some (iI (lateN d b 0 (NL d) : Int), (ov 68 A m σ)) := q_Db_weightsIfLate H hd hD hT hb hB (lag := 0) (by omega)
  unfold M_Db_bestLag
  rw [E_Db_bestLag_0]; simp (disch := omega) only [l_0, l_1, cK_61 H, letT_eq, gd_true, bnd_some, aR_ov, aK_ov, aN_ov, okO_ov, aI_ov H.1, aL_ov H.1, sI_ov H.1, sL_ov H.1, sV_eq, sV_ne, sV_2, sW_eq, sW_ne, sW_1, iI_add, iI_sub, iI_mul, iI_neg, iI_lt, iI_eq, iI_cl, nI_iI, gd_in, bZ_0, bZ_1, bZ_eq, isB_bZ, isB_0, isB_1, nar_bZ, nar_0, nar_1, mw_ov, iI_s, iI_na, iI_nm, Int.toNat_natCast, Int.add_zero, Int.zero_add, Nat.reduceEqDiff, Nat.reduceAdd, Int.reduceAdd, Int.reduceNeg, Int.reduceSub, Int.reduceMul, Int.reduceLT, Int.reduceEq, Int.reduceToNat, reduceCtorEq, ↓reduceIte, hw0]
  exact (congrArg (mw _) h).trans (mw_ov _ _ _ _ _ _)
theorem lagN_lt (d : TD) (b : BD) {k : Nat} (hk : 0 < k) : lagN d b k < k := bsN_lt _ hk
def lateS (d : TD) (b : BD) (a c : Int) : Int := if (-1 ≤ a ∧ a ≤ 5) ∧ (0 ≤ c ∧ c ≤ 1) then (if c = 0 then (lateN d b (if a = -1 then lagN d b 6 else a.toNat) (NL d) : Int) else ((if a = -1 then lagN d b 6 else a.toNat : Nat) : Int)) else -1
theorem c_late {d : TD} {b : BD} {g z u : Nat} {A : Nat → Nat} {σ : AM} {m : VM} (C : CS0 d b g z u A σ m) {a c : Int} (h1 : -2147483648 ≤ a) (h2 : a < 2147483648) (h3 : -2147483648 ≤ c) (h4 : c < 2147483648) : M_Bp_late (A 0) (iI a) (iI c) (ov 68 A m σ) = some (iI (lateS d b a c), (ov 68 A m σ)) := by
  obtain ⟨H, hd, hD, _, hT, hb, hB, _⟩ := C
  have hl6 := lagN_lt d b (k := 6) (by omega)
  unfold M_Bp_late
  by_cases q : (-1 ≤ a ∧ a ≤ 5) ∧ (0 ≤ c ∧ c ≤ 1)
  · by_cases q1 : a = -1
    · subst q1
      have eS : lateS d b (-1) c = if c = 0 then (lateN d b (lagN d b 6) (NL d) : Int) else (lagN d b 6 : Int) := if_pos q
      rw [eS]
      rw [E_Bp_late_0]; simp (disch := omega) only [E_Bp_late_1, E_Bp_late_2, E_Bp_late_3, l_0, l_1, l_5, cK_0 H, cR_0_8 H, cK_61 H, letT_eq, gd_true, bnd_some, aR_ov, aK_ov, aN_ov, okO_ov, aI_ov H.1, aL_ov H.1, sI_ov H.1, sL_ov H.1, sV_eq, sV_ne, sV_2, sW_eq, sW_ne, sW_1, iI_add, iI_sub, iI_mul, iI_neg, iI_lt, iI_eq, iI_cl, nI_iI, gd_in, bZ_0, bZ_1, bZ_eq, isB_bZ, isB_0, isB_1, nar_bZ, nar_0, nar_1, mw_ov, iI_s, iI_na, iI_nm, Int.toNat_natCast, Int.add_zero, Int.zero_add, Nat.reduceEqDiff, Nat.reduceAdd, Int.reduceAdd, Int.reduceNeg, Int.reduceSub, Int.reduceMul, Int.reduceLT, Int.reduceEq, Int.reduceToNat, reduceCtorEq, ↓reduceIte, q_Db_bestLag H hd hD hT hb hB, q_Db_weightsIfLate H hd hD hT hb hB (lag := lagN d b 6) (by omega)]
      rw [if_neg (by omega), if_neg (by omega)]
      by_cases q2 : c = 0
      · rw [if_pos q2, if_pos q2, mw_ov]
      · rw [if_neg q2, if_neg q2, mw_ov]
    · obtain ⟨n, rfl⟩ := Int.eq_ofNat_of_zero_le (show 0 ≤ a by omega)
      have eS : lateS d b (n : Int) c = if c = 0 then (lateN d b n (NL d) : Int) else (n : Int) := by
        unfold lateS
        rw [if_pos q]
        simp only [if_neg q1]
        rfl
      rw [eS]
      rw [E_Bp_late_0]; simp (disch := omega) only [E_Bp_late_1, E_Bp_late_2, E_Bp_late_3, l_0, l_1, l_5, cK_0 H, cR_0_8 H, cK_61 H, letT_eq, gd_true, bnd_some, aR_ov, aK_ov, aN_ov, okO_ov, aI_ov H.1, aL_ov H.1, sI_ov H.1, sL_ov H.1, sV_eq, sV_ne, sV_2, sW_eq, sW_ne, sW_1, iI_add, iI_sub, iI_mul, iI_neg, iI_lt, iI_eq, iI_cl, nI_iI, gd_in, bZ_0, bZ_1, bZ_eq, isB_bZ, isB_0, isB_1, nar_bZ, nar_0, nar_1, mw_ov, iI_s, iI_na, iI_nm, Int.toNat_natCast, Int.add_zero, Int.zero_add, Nat.reduceEqDiff, Nat.reduceAdd, Int.reduceAdd, Int.reduceNeg, Int.reduceSub, Int.reduceMul, Int.reduceLT, Int.reduceEq, Int.reduceToNat, reduceCtorEq, ↓reduceIte, q_Db_weightsIfLate H hd hD hT hb hB (lag := n) (by omega)]
      rw [if_neg (show ¬ (n : Int) < -1 by omega), if_neg (show ¬ 5 < (n : Int) by omega), if_neg (show ¬ c < 0 by omega), if_neg (show ¬ 1 < c by omega)]
      by_cases q2 : c = 0
      · rw [if_pos q2, if_pos q2, mw_ov]
      · rw [if_neg q2, if_neg q2, mw_ov]
  · rw [lateS, if_neg q]
    rw [E_Bp_late_0]
    simp (disch := omega) only [E_Bp_late_1, l_0, l_1, l_5, iI_neg, iI_lt]
    by_cases z1 : a < -1
    · rw [if_pos z1, mw_ov]
    · rw [if_neg z1]
      by_cases z2 : 5 < a
      · rw [if_pos z2, mw_ov]
      · rw [if_neg z2]
        by_cases z3 : c < 0
        · rw [if_pos z3, mw_ov]
        · rw [if_neg z3, if_pos (by omega), mw_ov]
theorem tol_0 (b : BD) (r : Bool) (lag : Nat) : ∀ k, k ≤ lag → tol b r lag k = 0 := by
  intro k
  induction k with
  | zero => intro _; rfl
  | succ k ih => intro hk; unfold tol; rw [if_neg (by omega)]; exact ih (by omega)
theorem Md_lateBy1 {A : Nat → Nat} {σ : AM} (H : LM A σ) {m : VM} {d : TD} {b : BD} (hb : wfB d b) (hB : MB b m) {lag : Nat} (k : Nat) (hk : k < nT b) (hlk : lag ≤ k) : L_Md_lateBy_1 (A 0) (iI (lag : Int)) (tol b true lag k) (tol b false lag k) (iI (k : Int)) (ov 40 A m σ) = L_Md_lateBy_1 (A 0) (iI (lag : Int)) (tol b true lag (k + 1)) (tol b false lag (k + 1)) (iI ((k + 1 : Nat) : Int)) (ov 40 A m σ) := by
  have hn := hb.1
  have h37 := hB.1.1
  have h22 := hB.2.2.1 k (by omega)
  have h21 := hB.2.1 (k - lag) (by omega)
  have hs := hb.2.2.1 (k - lag) (by omega)
  have e : (k : Int) - (lag : Int) = ((k - lag : Nat) : Int) := by omega
  have s1 : tol b true lag (k + 1) = if lag ≤ k ∧ tR b k = true then tol b true lag k ||| b1 (tS b (k - lag)) else tol b true lag k := rfl
  have s2 : tol b false lag (k + 1) = if lag ≤ k ∧ tR b k = false then tol b false lag k ||| b1 (tS b (k - lag)) else tol b false lag k := rfl
  rw [s1, s2]
  cases q : tR b k
  · rw [q] at h22
    rw [if_neg (by simp), if_pos ⟨hlk, rfl⟩]
    rw [E_Md_lateBy_1]; simp (disch := omega) only [E_Md_lateBy_2, E_Md_lateBy_3, l_0, l_1, mK_0 H, mR_38 H, mK_21 H, mN_21 H, mR_39 H, mK_22 H, mN_22 H, letT_eq, gd_true, bnd_some, aR_ov, aK_ov, aN_ov, okO_ov, aI_ov H.1, aL_ov H.1, sI_ov H.1, sL_ov H.1, sV_eq, sV_ne, sV_2, sW_eq, sW_ne, sW_1, iI_add, iI_sub, iI_mul, iI_neg, iI_lt, iI_eq, iI_cl, nI_iI, gd_in, bZ_0, bZ_1, bZ_eq, isB_bZ, isB_0, isB_1, nar_bZ, nar_0, nar_1, mw_ov, iI_s, iI_na, iI_nm, Int.toNat_natCast, Int.add_zero, Int.zero_add, Nat.reduceEqDiff, Nat.reduceAdd, Int.reduceAdd, Int.reduceNeg, Int.reduceSub, Int.reduceMul, Int.reduceLT, Int.reduceEq, Int.reduceToNat, reduceCtorEq, ↓reduceIte, h37, h22, e, h21, shl_b1 hs, or0]
    rw [if_pos (by omega)]
  · rw [q] at h22
    rw [if_pos ⟨hlk, rfl⟩, if_neg (by simp)]
    rw [E_Md_lateBy_1]; simp (disch := omega) only [E_Md_lateBy_2, E_Md_lateBy_3, l_0, l_1, mK_0 H, mR_38 H, mK_21 H, mN_21 H, mR_39 H, mK_22 H, mN_22 H, letT_eq, gd_true, bnd_some, aR_ov, aK_ov, aN_ov, okO_ov, aI_ov H.1, aL_ov H.1, sI_ov H.1, sL_ov H.1, sV_eq, sV_ne, sV_2, sW_eq, sW_ne, sW_1, iI_add, iI_sub, iI_mul, iI_neg, iI_lt, iI_eq, iI_cl, nI_iI, gd_in, bZ_0, bZ_1, bZ_eq, isB_bZ, isB_0, isB_1, nar_bZ, nar_0, nar_1, mw_ov, iI_s, iI_na, iI_nm, Int.toNat_natCast, Int.add_zero, Int.zero_add, Nat.reduceEqDiff, Nat.reduceAdd, Int.reduceAdd, Int.reduceNeg, Int.reduceSub, Int.reduceMul, Int.reduceLT, Int.reduceEq, Int.reduceToNat, reduceCtorEq, ↓reduceIte, h37, h22, e, h21, shl_b1 hs, or0]
    rw [if_pos (by omega)]
theorem Md_lateBy4 {A : Nat → Nat} {σ : AM} (H : LM A σ) {m : VM} {d : TD} {b : BD} (hd : wfD d) (hT : MT d m) (lag : Nat) : L_Md_lateBy_4 (A 0) (tol b true lag (nT b)) (tol b false lag (nT b)) (iI 0) (iI 0) (ov 40 A m σ) = some (iI (lateN d b lag (NL d) : Int), (ov 40 A m σ)) := by
  have hN := NL_le d
  have hW := hd.2.2.2.2.2.2
  exact up_loop (fun k => L_Md_lateBy_4 (A 0) (tol b true lag (nT b)) (tol b false lag (nT b)) (iI (lateN d b lag k : Int)) (iI (k : Int)) (ov 40 A m σ)) (NL d) (some (iI (lateN d b lag (NL d) : Int), (ov 40 A m σ))) (fun k hk ih => by
    have e1 := hT.2.2.2.1 k hk
    have e2 := hT.2.2.2.2.1 k hk
    show L_Md_lateBy_4 _ _ _ _ _ _ = _
    replace ih : L_Md_lateBy_4 _ _ _ (iI ((lateN d b lag k + if fitR (tol b true lag (nT b)) (tol b false lag (nT b)) (LL d k) = true then sh d k else 0 : Nat) : Int)) _ _ = _ := ih
    have hf := fun (X Y : Option (Int32 × AM)) => fitR_if (tol b true lag (nT b)) (tol b false lag (nT b)) (LL d k) X Y
    rw [E_Md_lateBy_4]; simp (disch := omega) only [E_Md_lateBy_5, E_Md_lateBy_6, l_0, l_1, mK_0 H, mR_30 H, mK_14 H, mN_14 H, mR_31 H, mK_15 H, mN_15 H, letT_eq, gd_true, bnd_some, aR_ov, aK_ov, aN_ov, okO_ov, aI_ov H.1, aL_ov H.1, sI_ov H.1, sL_ov H.1, sV_eq, sV_ne, sV_2, sW_eq, sW_ne, sW_1, iI_add, iI_sub, iI_mul, iI_neg, iI_lt, iI_eq, iI_cl, nI_iI, gd_in, bZ_0, bZ_1, bZ_eq, isB_bZ, isB_0, isB_1, nar_bZ, nar_0, nar_1, mw_ov, iI_s, iI_na, iI_nm, Int.toNat_natCast, Int.add_zero, Int.zero_add, Nat.reduceEqDiff, Nat.reduceAdd, Int.reduceAdd, Int.reduceNeg, Int.reduceSub, Int.reduceMul, Int.reduceLT, Int.reduceEq, Int.reduceToNat, reduceCtorEq, ↓reduceIte, hT.1.2.2.2.2.2, e1, e2, lgc0, and_all (LL d k)]
    rw [if_pos (show (k : Int) < (NL d : Int) by omega)]
    by_cases c1 : LL d k &&& tol b false lag (nT b) = 0
    · by_cases c2 : (LL d k ^^^ (-1)) &&& tol b true lag (nT b) = 0
      · rw [if_pos c2, if_pos c1]
        rw [if_pos (show fitR (tol b true lag (nT b)) (tol b false lag (nT b)) (LL d k) = true by unfold fitR; rw [decide_eq_true c1, decide_eq_true c2]; rfl)] at ih
        exact ih
      · rw [if_neg c2]
        rw [if_neg (show ¬ fitR (tol b true lag (nT b)) (tol b false lag (nT b)) (LL d k) = true by unfold fitR; rw [decide_eq_false c2, Bool.and_false]; decide)] at ih
        exact ih
    · rw [if_neg (show ¬ fitR (tol b true lag (nT b)) (tol b false lag (nT b)) (LL d k) = true by unfold fitR; rw [decide_eq_false c1, Bool.false_and]; decide)] at ih
      by_cases c2 : (LL d k ^^^ (-1)) &&& tol b true lag (nT b) = 0
      · rw [if_pos c2, if_neg c1]; exact ih
      · rw [if_neg c2]; exact ih) (by
    show L_Md_lateBy_4 _ _ _ _ _ _ = _
    rw [E_Md_lateBy_4]; simp (disch := omega) only [mK_0 H, okO_ov, aR_ov, gd_true, bnd_some, aI_ov H.1, iI_lt, hT.1.2.2.2.2.2]; rw [if_neg (by omega)]) 0 (Nat.zero_le _)
theorem q_Md_lateBy {A : Nat → Nat} {σ : AM} (H : LM A σ) {m : VM} {d : TD} {b : BD} (hd : wfD d) (hT : MT d m) (hb : wfB d b) (hB : MB b m) {lag : Nat} (hl : lag ≤ 5) : M_Md_lateBy (A 0) (iI (lag : Int)) (ov 40 A m σ) = some (iI (lateN d b lag (NL d) : Int), (ov 40 A m σ)) := by
  have hn := hb.1
  have h4 := Md_lateBy4 H (b := b) hd hT lag
  have h37 := hB.1.1
  have h1 : L_Md_lateBy_1 (A 0) (iI (lag : Int)) 0 0 (iI (lag : Int)) (ov 40 A m σ) = some (iI (lateN d b lag (NL d) : Int), (ov 40 A m σ)) := by
    by_cases c : nT b < lag
    · rw [E_Md_lateBy_1]
      simp (disch := omega) only [mK_0 H, okO_ov, gd_true, aI_ov H.1, h37, iI_lt, l_0]
      rw [if_neg (by omega)]
      rw [tol_0 b true lag _ (by omega), tol_0 b false lag _ (by omega)] at h4
      exact h4
    · have := up_loopI (fun k (_ : Unit) => L_Md_lateBy_1 (A 0) (iI (lag : Int)) (tol b true lag k) (tol b false lag k) (iI (k : Int)) (ov 40 A m σ)) (fun k _ => lag ≤ k) (fun x => x = some (iI (lateN d b lag (NL d) : Int), (ov 40 A m σ))) (nT b) (fun k _ hk hlk ih => (Md_lateBy1 H hb hB k hk hlk).trans (ih () (by omega))) (fun _ _ => by
        show L_Md_lateBy_1 _ _ _ _ _ _ = _
        rw [E_Md_lateBy_1]
        simp (disch := omega) only [mK_0 H, okO_ov, gd_true, aI_ov H.1, h37, iI_lt, l_0]
        rw [if_neg (by omega)]
        exact h4) lag () (by omega) (Nat.le_refl _)
      rw [tol_0 b true lag lag (Nat.le_refl _), tol_0 b false lag lag (Nat.le_refl _)] at this
      exact this
  unfold M_Md_lateBy
  rw [E_Md_lateBy_0]
  exact (congrArg (mw _) h1).trans (mw_ov _ _ _ _ _ _)
theorem m_late {d : TD} {b : BD} {A : Nat → Nat} {σ : AM} {m : VM} (M : MS0 d b A σ m) {a c : Int} (h1 : -2147483648 ≤ a) (h2 : a < 2147483648) (h3 : -2147483648 ≤ c) (h4 : c < 2147483648) : Mf A σ m (M_Md_late (A 0) (iI a) (iI c) (ov 40 A m σ)) (iI (lateS d b a c)) := by
  have M0 := MS0_K (KM_0 m) M
  obtain ⟨H, hd, hT, hb, hB⟩ := M0
  have hw := q_Md_within (a := a) (l := -1) (h := 5) (ov 40 A (sV m 0 0 (iI 0)) σ) h1 h2 (by omega) (by omega) (by omega) (by omega)
  have hwi := q_Md_isWhat (a := c) (ov 40 A (sV m 0 0 (iI 0)) σ) h3 h4
  have hl6 := lagN_lt d b (k := 6) (by omega)
  refine ⟨_, ?_, KM_0 m⟩
  unfold M_Md_late
  have fin : ∀ l : Nat, l ≤ 5 → (0 ≤ c ∧ c ≤ 1) → L_Md_late_5 (A 0) (iI c) (iI (l : Int)) (ov 40 A (sV m 0 0 (iI 0)) σ) = some (iI (if c = 0 then (lateN d b l (NL d) : Int) else (l : Int)), (ov 40 A (sV m 0 0 (iI 0)) σ)) := by
    intro l hl hc
    rw [E_Md_late_5]
    simp (disch := omega) only [E_Md_late_6, mK_0 H, okO_ov, gd_true, l_0, iI_eq, q_Md_lateBy H hd hT hb hB hl, bnd_some]
    by_cases q2 : c = 0
    · rw [if_pos q2, if_pos q2]
    · rw [if_neg q2, if_neg q2]
  by_cases q1 : -1 ≤ a ∧ a ≤ 5
  · rw [decide_eq_true q1] at hw
    by_cases q2 : 0 ≤ c ∧ c ≤ 1
    · rw [decide_eq_true q2] at hwi
      by_cases q3 : a = -1
      · subst q3
        have eS : lateS d b (-1) c = if c = 0 then (lateN d b (lagN d b 6) (NL d) : Int) else (lagN d b 6 : Int) := if_pos ⟨q1, q2⟩
        have hl := up_loop (fun k => L_Md_late_3 (A 0) (iI (-1)) (iI c) (iI (lagN d b (k + 1) : Int)) (iI ((k + 1 : Nat) : Int)) (ov 40 A (sV m 0 0 (iI 0)) σ)) 5 (some (iI (lateS d b (-1) c), (ov 40 A (sV m 0 0 (iI 0)) σ))) (fun k hk ih => by
          have b1 := lateN_le hd b (k + 1)
          have b2 := lateN_le hd b (lagN d b (k + 1))
          have b3 := lagN_lt d b (k := k + 1) (by omega)
          have w1 := q_Md_lateBy H hd hT hb hB (lag := k + 1) (by omega)
          have w2 := q_Md_lateBy H hd hT hb hB (lag := lagN d b (k + 1)) (by omega)
          show L_Md_late_3 _ _ _ _ _ _ = _
          replace ih : L_Md_late_3 _ _ _ _ _ _ = _ := ih
          rw [lagN_s d b (k + 1)] at ih
          rw [E_Md_late_3]; simp (disch := omega) only [E_Md_late_4, E_Md_late_5, E_Md_late_6, l_0, l_1, l_6, mK_0 H, letT_eq, gd_true, bnd_some, aR_ov, aK_ov, aN_ov, okO_ov, aI_ov H.1, aL_ov H.1, sI_ov H.1, sL_ov H.1, sV_eq, sV_ne, sV_2, sW_eq, sW_ne, sW_1, iI_add, iI_sub, iI_mul, iI_neg, iI_lt, iI_eq, iI_cl, nI_iI, gd_in, bZ_0, bZ_1, bZ_eq, isB_bZ, isB_0, isB_1, nar_bZ, nar_0, nar_1, mw_ov, iI_s, iI_na, iI_nm, Int.toNat_natCast, Int.add_zero, Int.zero_add, Nat.reduceEqDiff, Nat.reduceAdd, Int.reduceAdd, Int.reduceNeg, Int.reduceSub, Int.reduceMul, Int.reduceLT, Int.reduceEq, Int.reduceToNat, reduceCtorEq, ↓reduceIte, w1, w2]
          rw [if_pos (by omega)]
          by_cases cc : lateN d b (lagN d b (k + 1)) (NL d) < lateN d b (k + 1) (NL d)
          · rw [if_pos (by omega)]; rw [if_pos cc] at ih; exact ih
          · rw [if_neg (by omega)]; rw [if_neg cc] at ih; exact ih) (by
          show L_Md_late_3 _ _ _ _ _ _ = _
          rw [E_Md_late_3]
          simp (disch := omega) only [l_6, iI_lt]
          rw [if_neg (by omega), eS]
          exact fin (lagN d b 6) (by omega) q2) 0 (Nat.zero_le _)
        have e1 : lagN d b 1 = 0 := by rw [lagN_s]; split <;> rfl
        replace hl : L_Md_late_3 (A 0) (iI (-1)) (iI c) (iI (lagN d b 1 : Int)) (iI 1) (ov 40 A (sV m 0 0 (iI 0)) σ) = _ := hl
        rw [e1] at hl
        replace hl : L_Md_late_3 (A 0) (iI (-1)) (iI c) (iI 0) (iI 1) (ov 40 A (sV m 0 0 (iI 0)) σ) = _ := hl
        rw [E_Md_late_0]; simp (disch := omega) only [E_Md_late_1, E_Md_late_2, l_0, l_1, l_5, mK_0 H, letT_eq, gd_true, bnd_some, aR_ov, aK_ov, aN_ov, okO_ov, aI_ov H.1, aL_ov H.1, sI_ov H.1, sL_ov H.1, sV_eq, sV_ne, sV_2, sW_eq, sW_ne, sW_1, iI_add, iI_sub, iI_mul, iI_neg, iI_lt, iI_eq, iI_cl, nI_iI, gd_in, bZ_0, bZ_1, bZ_eq, isB_bZ, isB_0, isB_1, nar_bZ, nar_0, nar_1, mw_ov, iI_s, iI_na, iI_nm, Int.toNat_natCast, Int.add_zero, Int.zero_add, Nat.reduceEqDiff, Nat.reduceAdd, Int.reduceAdd, Int.reduceNeg, Int.reduceSub, Int.reduceMul, Int.reduceLT, Int.reduceEq, Int.reduceToNat, reduceCtorEq, ↓reduceIte, hw, hwi, hl]
      · obtain ⟨n, rfl⟩ := Int.eq_ofNat_of_zero_le (show 0 ≤ a by omega)
        have eS : lateS d b (n : Int) c = if c = 0 then (lateN d b n (NL d) : Int) else (n : Int) := by
          unfold lateS
          rw [if_pos ⟨q1, q2⟩]
          simp only [if_neg q3]
          rfl
        have hl : L_Md_late_3 (A 0) (iI (n : Int)) (iI c) (iI (n : Int)) (iI 1) (ov 40 A (sV m 0 0 (iI 0)) σ) = some (iI (lateS d b (n : Int) c), (ov 40 A (sV m 0 0 (iI 0)) σ)) := by
          rw [E_Md_late_3]
          simp (disch := omega) only [l_6, l_0, iI_lt, Int.reduceLT, ↓reduceIte]
          rw [if_neg (by omega), eS]
          exact fin n (by omega) q2
        rw [E_Md_late_0]; simp (disch := omega) only [E_Md_late_1, E_Md_late_2, l_0, l_1, l_5, mK_0 H, letT_eq, gd_true, bnd_some, aR_ov, aK_ov, aN_ov, okO_ov, aI_ov H.1, aL_ov H.1, sI_ov H.1, sL_ov H.1, sV_eq, sV_ne, sV_2, sW_eq, sW_ne, sW_1, iI_add, iI_sub, iI_mul, iI_neg, iI_lt, iI_eq, iI_cl, nI_iI, gd_in, bZ_0, bZ_1, bZ_eq, isB_bZ, isB_0, isB_1, nar_bZ, nar_0, nar_1, mw_ov, iI_s, iI_na, iI_nm, Int.toNat_natCast, Int.add_zero, Int.zero_add, Nat.reduceEqDiff, Nat.reduceAdd, Int.reduceAdd, Int.reduceNeg, Int.reduceSub, Int.reduceMul, Int.reduceLT, Int.reduceEq, Int.reduceToNat, reduceCtorEq, ↓reduceIte, hw, hwi, hl]
        rw [if_neg (by omega), mw_ov]
    · rw [decide_eq_false q2] at hwi
      rw [E_Md_late_0]; simp (disch := omega) only [E_Md_late_1, E_Md_late_2, l_0, l_1, l_5, mK_0 H, letT_eq, gd_true, bnd_some, aR_ov, aK_ov, aN_ov, okO_ov, aI_ov H.1, aL_ov H.1, sI_ov H.1, sL_ov H.1, sV_eq, sV_ne, sV_2, sW_eq, sW_ne, sW_1, iI_add, iI_sub, iI_mul, iI_neg, iI_lt, iI_eq, iI_cl, nI_iI, gd_in, bZ_0, bZ_1, bZ_eq, isB_bZ, isB_0, isB_1, nar_bZ, nar_0, nar_1, mw_ov, iI_s, iI_na, iI_nm, Int.toNat_natCast, Int.add_zero, Int.zero_add, Nat.reduceEqDiff, Nat.reduceAdd, Int.reduceAdd, Int.reduceNeg, Int.reduceSub, Int.reduceMul, Int.reduceLT, Int.reduceEq, Int.reduceToNat, reduceCtorEq, ↓reduceIte, hw, hwi]
      rw [lateS, if_neg (fun z => q2 z.2)]
  · rw [decide_eq_false q1] at hw
    rw [E_Md_late_0]; simp (disch := omega) only [E_Md_late_1, E_Md_late_2, l_0, l_1, l_5, mK_0 H, letT_eq, gd_true, bnd_some, aR_ov, aK_ov, aN_ov, okO_ov, aI_ov H.1, aL_ov H.1, sI_ov H.1, sL_ov H.1, sV_eq, sV_ne, sV_2, sW_eq, sW_ne, sW_1, iI_add, iI_sub, iI_mul, iI_neg, iI_lt, iI_eq, iI_cl, nI_iI, gd_in, bZ_0, bZ_1, bZ_eq, isB_bZ, isB_0, isB_1, nar_bZ, nar_0, nar_1, mw_ov, iI_s, iI_na, iI_nm, Int.toNat_natCast, Int.add_zero, Int.zero_add, Nat.reduceEqDiff, Nat.reduceAdd, Int.reduceAdd, Int.reduceNeg, Int.reduceSub, Int.reduceMul, Int.reduceLT, Int.reduceEq, Int.reduceToNat, reduceCtorEq, ↓reduceIte, hw]
    rw [lateS, if_neg (fun z => q1 z.1)]
