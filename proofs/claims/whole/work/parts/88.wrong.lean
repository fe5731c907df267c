/-! ===== wrong, with, suspect ===== -/
theorem nMay_0 (d : TD) : nMay d = 0 ↔ NL d = 0 := by
  rw [← sum_sh]
  constructor
  · intro h
    by_cases q : NL d = 0
    · exact q
    · have := sumN_pos (n := NL d) (f := sh d) (i := 0) (by omega) (sh_pos (by omega))
      omega
  · intro h; rw [h]; rfl
def susB (d : TD) (b : BD) (t : Nat) (k : Nat) : Bool := !anyN k (fun i => decide (wr b (LL d i) = fwN d b (NL d)) && !wrB b (LL d i) t)
def wrongS (d : TD) (b : BD) (c : Int) : Int := if (0 ≤ c ∧ c ≤ 1) ∧ NL d ≠ 0 then (if c = 0 then (fwN d b (NL d) : Int) else (wthN d b (fwN d b (NL d)) (NL d) : Int)) else -1
def withS (d : TD) (b : BD) (c : Int) : Int := if 0 ≤ c ∧ c ≤ 60 then (wthN d b c.toNat (NL d) : Int) else -1
def suspS (d : TD) (b : BD) (c : Int) : Int := if (0 ≤ c ∧ c < (nT b : Int)) ∧ NL d ≠ 0 then (if susB d b c.toNat (NL d) = true then 1 else 0) else -1
/-- a call of the class that takes no room -/
def Cf (A : Nat → Nat) (σ : AM) (m : VM) (gs : List Nat) {ρ : Type} (x : Option (ρ × AM)) (r : ρ) (P : VM → Prop) : Prop := ∃ m' : VM, x = some (r, (ov 68 A (m') σ)) ∧ Ks gs m m' ∧ P m'
theorem q_Db_weightsWith {d : TD} {b : BD} {A : Nat → Nat} {σ : AM} {m : VM} (H : LC A σ) (hd : wfD d) (hv : DV d b m) {n : Nat} (hn : n ≤ 60) : M_Db_weightsWith (A 61) (iI (n : Int)) (ov 68 A m σ) = some (iI (wthN d b n (NL d) : Int), (ov 68 A m σ)) := by
  have h4 := hv.2.2.2
  have hub : ∀ k, k ≤ n + 1 → sumN k (fun v => wbN d b v (NL d)) ≤ 16384 := by
    intro k hk
    cases k with
    | zero => exact Nat.zero_le _
    | succ k => rw [wb_sum]; exact wthN_le hd b k
  have hl := up_loop (fun k => L_Db_weightsWith_1 (A 61) (iI (n : Int)) (iI (sumN k (fun v => wbN d b v (NL d)) : Int)) (iI (k : Int)) (ov 68 A m σ)) (n + 1) (some (iI (wthN d b n (NL d) : Int), (ov 68 A m σ))) (fun k hk ih => by
    have e := h4 k (by omega)
    have b1 := hub k (by omega)
    have b2 := hub (k + 1) (by omega)
    show L_Db_weightsWith_1 _ _ _ _ _ = _
    replace ih : L_Db_weightsWith_1 _ _ (iI ((sumN k (fun v => wbN d b v (NL d)) + wbN d b k (NL d) : Nat) : Int)) _ _ = _ := ih
    rw [sumN_s] at b2
    rw [E_Db_weightsWith_1]; simp (disch := omega) only [E_Db_weightsWith_2, l_1, cK_61 H, cR_61_5 H, cK_64 H, cN_64 H, letT_eq, gd_true, bnd_some, aR_ov, aK_ov, aN_ov, okO_ov, aI_ov H.1, aL_ov H.1, sI_ov H.1, sL_ov H.1, sV_eq, sV_ne, sV_2, sW_eq, sW_ne, sW_1, iI_add, iI_sub, iI_mul, iI_neg, iI_lt, iI_eq, iI_cl, nI_iI, gd_in, bZ_0, bZ_1, bZ_eq, isB_bZ, isB_0, isB_1, nar_bZ, nar_0, nar_1, mw_ov, iI_s, iI_na, iI_nm, Int.toNat_natCast, Int.add_zero, Int.zero_add, Nat.reduceEqDiff, Nat.reduceAdd, Int.reduceAdd, Int.reduceNeg, Int.reduceSub, Int.reduceMul, Int.reduceLT, Int.reduceEq, Int.reduceToNat, reduceCtorEq, ↓reduceIte, e]
    rw [if_neg (by omega), if_pos (by omega)]
    exact ih) (by
    show L_Db_weightsWith_1 _ _ _ _ _ = _
    rw [E_Db_weightsWith_1, wb_sum]
    simp (disch := omega) only [E_Db_weightsWith_2, iI_lt]
    rw [if_pos (by omega)]) 0 (Nat.zero_le _)
  unfold M_Db_weightsWith
  rw [E_Db_weightsWith_0]
  exact (congrArg (mw _) hl).trans (mw_ov _ _ _ _ _ _)
theorem q_Db_alwaysWrong {d : TD} {b : BD} {A : Nat → Nat} {σ : AM} {m : VM} (H : LC A σ) (hb : wfB d b) (hB : CBk b m) (hv : DV d b m) {t : Nat} (ht : t < nT b) : M_Db_alwaysWrong (A 61) (iI (t : Int)) (ov 68 A m σ) = some (bZ (susB d b t (NL d)), (ov 68 A m σ)) := by
  obtain ⟨_, h2, h3, _⟩ := hv
  have hn := hb.1
  have hs := hb.2.2.1 t (by omega)
  have r := q_Bk_rangAt H hb hB ht
  have e1 := bt_dSo (d := d) (b := b) (NL d) (tS b t)
  have e2 := bt_dEv (d := d) (b := b) (NL d) hs
  unfold M_Db_alwaysWrong
  unfold susB wrB
  cases q : tR b t
  · rw [q] at r
    rw [E_Db_alwaysWrong_0]; simp (disch := omega) only [E_Db_alwaysWrong_1, l_0, l_1, cK_61 H, cR_61_2 H, cK_27 H, letT_eq, gd_true, bnd_some, aR_ov, aK_ov, aN_ov, okO_ov, aI_ov H.1, aL_ov H.1, sI_ov H.1, sL_ov H.1, sV_eq, sV_ne, sV_2, sW_eq, sW_ne, sW_1, iI_add, iI_sub, iI_mul, iI_neg, iI_lt, iI_eq, iI_cl, nI_iI, gd_in, bZ_0, bZ_1, bZ_eq, isB_bZ, isB_0, isB_1, nar_bZ, nar_0, nar_1, mw_ov, iI_s, iI_na, iI_nm, Int.toNat_natCast, Int.add_zero, Int.zero_add, Nat.reduceEqDiff, Nat.reduceAdd, Int.reduceAdd, Int.reduceNeg, Int.reduceSub, Int.reduceMul, Int.reduceLT, Int.reduceEq, Int.reduceToNat, reduceCtorEq, ↓reduceIte, q_Bk_setAt H hb hB ht, r, h3, q_St_has _ hs]
    rw [e2]
    congr 5
    funext i
    cases bt (LL d i) (tS b t) <;> rfl
  · rw [q] at r
    rw [E_Db_alwaysWrong_0]; simp (disch := omega) only [E_Db_alwaysWrong_1, l_0, l_1, cK_61 H, cR_61_2 H, cK_27 H, letT_eq, gd_true, bnd_some, aR_ov, aK_ov, aN_ov, okO_ov, aI_ov H.1, aL_ov H.1, sI_ov H.1, sL_ov H.1, sV_eq, sV_ne, sV_2, sW_eq, sW_ne, sW_1, iI_add, iI_sub, iI_mul, iI_neg, iI_lt, iI_eq, iI_cl, nI_iI, gd_in, bZ_0, bZ_1, bZ_eq, isB_bZ, isB_0, isB_1, nar_bZ, nar_0, nar_1, mw_ov, iI_s, iI_na, iI_nm, Int.toNat_natCast, Int.add_zero, Int.zero_add, Nat.reduceEqDiff, Nat.reduceAdd, Int.reduceAdd, Int.reduceNeg, Int.reduceSub, Int.reduceMul, Int.reduceLT, Int.reduceEq, Int.reduceToNat, reduceCtorEq, ↓reduceIte, q_Bk_setAt H hb hB ht, r, h2, q_St_has _ hs]
    have e3 : (fun i => decide (wr b (LL d i) = fwN d b (NL d)) && !(bt (LL d i) (tS b t) != true)) = (fun i => decide (wr b (LL d i) = fwN d b (NL d)) && bt (LL d i) (tS b t)) := by
      funext i
      cases bt (LL d i) (tS b t) <;> rfl
    rw [e3, ← e1]
    cases bt (dSo d b (NL d)) (tS b t)
    · rw [if_pos rfl, mw_ov]; rfl
    · rw [if_neg (by decide), mw_ov]; rfl
theorem c_wrong {d : TD} {b : BD} {g z u : Nat} {A : Nat → Nat} {σ : AM} {m : VM} (C : CS0 d b g z u A σ m) (hA : DA d b g m) {c : Int} (h1 : -2147483648 ≤ c) (h2 : c < 2147483648) : Cf A σ m [0, 1, 2, 3, 5] (M_Bp_wrong (A 0) (iI c) (ov 68 A m σ)) (iI (wrongS d b c)) (DA d b g) := by
  obtain ⟨m', e, hK, ha, hv⟩ := p_Db_refresh C hA
  obtain ⟨H, hd, hD, _, hT, hb, hB, _⟩ := C
  have hf := (fwN_le d b (NL d)).1
  have h17 := hT.1.2.2.2.2.2
  have hN := nMay_0 d
  have hM := nMay_le d
  have hW := hd.2.2.2.2.2.2
  have hw := q_Db_weightsWith H hd hv hf
  have h7 := hv.1
  unfold M_Bp_wrong wrongS
  by_cases q : (0 ≤ c ∧ c ≤ 1) ∧ NL d ≠ 0
  · refine ⟨m', ?_, hK, (g : Int), ha, by omega, by omega, fun _ => hv⟩
    rw [if_pos q]
    rw [E_Bp_wrong_0]; simp (disch := omega) only [E_Bp_wrong_1, E_Bp_wrong_2, l_0, l_1, cK_0 H, cR_0_2 H, cK_17 H, cR_0_8 H, cK_61 H, q_Ls_allowed H, q_Db_fewestWrong H, letT_eq, gd_true, bnd_some, aR_ov, aK_ov, aN_ov, okO_ov, aI_ov H.1, aL_ov H.1, sI_ov H.1, sL_ov H.1, sV_eq, sV_ne, sV_2, sW_eq, sW_ne, sW_1, iI_add, iI_sub, iI_mul, iI_neg, iI_lt, iI_eq, iI_cl, nI_iI, gd_in, bZ_0, bZ_1, bZ_eq, isB_bZ, isB_0, isB_1, nar_bZ, nar_0, nar_1, mw_ov, iI_s, iI_na, iI_nm, Int.toNat_natCast, Int.add_zero, Int.zero_add, Nat.reduceEqDiff, Nat.reduceAdd, Int.reduceAdd, Int.reduceNeg, Int.reduceSub, Int.reduceMul, Int.reduceLT, Int.reduceEq, Int.reduceToNat, reduceCtorEq, ↓reduceIte, h17, e, h7, hw]
    rw [if_neg (by omega), if_neg (by omega), if_neg (by omega)]
    by_cases q2 : c = 0
    · rw [if_pos q2, if_pos q2, mw_ov]
    · rw [if_neg q2, if_neg q2, mw_ov]
  · refine ⟨m, ?_, Ks_r _ _, hA⟩
    rw [if_neg q]
    rw [E_Bp_wrong_0]; simp (disch := omega) only [E_Bp_wrong_1, E_Bp_wrong_2, l_0, l_1, cK_0 H, cR_0_2 H, cK_17 H, cR_0_8 H, cK_61 H, q_Ls_allowed H, q_Db_fewestWrong H, letT_eq, gd_true, bnd_some, aR_ov, aK_ov, aN_ov, okO_ov, aI_ov H.1, aL_ov H.1, sI_ov H.1, sL_ov H.1, sV_eq, sV_ne, sV_2, sW_eq, sW_ne, sW_1, iI_add, iI_sub, iI_mul, iI_neg, iI_lt, iI_eq, iI_cl, nI_iI, gd_in, bZ_0, bZ_1, bZ_eq, isB_bZ, isB_0, isB_1, nar_bZ, nar_0, nar_1, mw_ov, iI_s, iI_na, iI_nm, Int.toNat_natCast, Int.add_zero, Int.zero_add, Nat.reduceEqDiff, Nat.reduceAdd, Int.reduceAdd, Int.reduceNeg, Int.reduceSub, Int.reduceMul, Int.reduceLT, Int.reduceEq, Int.reduceToNat, reduceCtorEq, ↓reduceIte, h17]
    by_cases q1 : c < 0
    · rw [if_pos q1, mw_ov]
    · rw [if_neg q1]
      by_cases q2 : 1 < c
      · rw [if_pos q2, mw_ov]
      · rw [if_neg q2, if_pos (by omega), mw_ov]
theorem c_with {d : TD} {b : BD} {g z u : Nat} {A : Nat → Nat} {σ : AM} {m : VM} (C : CS0 d b g z u A σ m) (hA : DA d b g m) {c : Int} (h1 : -2147483648 ≤ c) (h2 : c < 2147483648) : Cf A σ m [0, 1, 2, 3, 5] (M_Bp_with (A 0) (iI c) (ov 68 A m σ)) (iI (withS d b c)) (DA d b g) := by
  obtain ⟨m', e, hK, ha, hv⟩ := p_Db_refresh C hA
  obtain ⟨H, hd, hD, _, hT, hb, hB, _⟩ := C
  unfold M_Bp_with withS
  by_cases q : 0 ≤ c ∧ c ≤ 60
  · refine ⟨m', ?_, hK, (g : Int), ha, by omega, by omega, fun _ => hv⟩
    rw [if_pos q]
    obtain ⟨n, rfl⟩ := Int.eq_ofNat_of_zero_le q.1
    have hw := q_Db_weightsWith H hd hv (n := n) (by omega)
    rw [E_Bp_with_0]; simp (disch := omega) only [E_Bp_with_1, l_0, l_1, l_60, cK_0 H, cR_0_8 H, cK_61 H, letT_eq, gd_true, bnd_some, aR_ov, aK_ov, aN_ov, okO_ov, aI_ov H.1, aL_ov H.1, sI_ov H.1, sL_ov H.1, sV_eq, sV_ne, sV_2, sW_eq, sW_ne, sW_1, iI_add, iI_sub, iI_mul, iI_neg, iI_lt, iI_eq, iI_cl, nI_iI, gd_in, bZ_0, bZ_1, bZ_eq, isB_bZ, isB_0, isB_1, nar_bZ, nar_0, nar_1, mw_ov, iI_s, iI_na, iI_nm, Int.toNat_natCast, Int.add_zero, Int.zero_add, Nat.reduceEqDiff, Nat.reduceAdd, Int.reduceAdd, Int.reduceNeg, Int.reduceSub, Int.reduceMul, Int.reduceLT, Int.reduceEq, Int.reduceToNat, reduceCtorEq, ↓reduceIte, e, hw]
    rw [if_neg (by omega), if_neg (by omega), mw_ov]
  · refine ⟨m, ?_, Ks_r _ _, hA⟩
    rw [if_neg q]
    rw [E_Bp_with_0]; simp (disch := omega) only [E_Bp_with_1, l_0, l_1, l_60, cK_0 H, cR_0_8 H, cK_61 H, letT_eq, gd_true, bnd_some, aR_ov, aK_ov, aN_ov, okO_ov, aI_ov H.1, aL_ov H.1, sI_ov H.1, sL_ov H.1, sV_eq, sV_ne, sV_2, sW_eq, sW_ne, sW_1, iI_add, iI_sub, iI_mul, iI_neg, iI_lt, iI_eq, iI_cl, nI_iI, gd_in, bZ_0, bZ_1, bZ_eq, isB_bZ, isB_0, isB_1, nar_bZ, nar_0, nar_1, mw_ov, iI_s, iI_na, iI_nm, Int.toNat_natCast, Int.add_zero, Int.zero_add, Nat.reduceEqDiff, Nat.reduceAdd, Int.reduceAdd, Int.reduceNeg, Int.reduceSub, Int.reduceMul, Int.reduceLT, Int.reduceEq, Int.reduceToNat, reduceCtorEq, ↓reduceIte]
    by_cases q1 : c < 0
    · rw [if_pos q1, mw_ov]
    · rw [if_neg q1, if_pos (by omega), mw_ov]
theorem c_suspect {d : TD} {b : BD} {g z u : Nat} {A : Nat → Nat} {σ : AM} {m : VM} (C : CS0 d b g z u A σ m) (hA : DA d b g m) {c : Int} (h1 : -2147483648 ≤ c) (h2 : c < 2147483648) : Cf A σ m [0, 1, 2, 3, 5] (M_Bp_suspect (A 0) (iI c) (ov 68 A m σ)) (iI (suspS d b c)) (DA d b g) := by
  obtain ⟨m', e, hK, ha, hv⟩ := p_Db_refresh C hA
  obtain ⟨H, hd, hD, _, hT, hb, hB, _⟩ := C
  have h17 := hT.1.2.2.2.2.2
  have hN := nMay_0 d
  have hM := nMay_le d
  have hW := hd.2.2.2.2.2.2
  have ht := q_Bk_hasTrial H hb hB h1 h2
  unfold M_Bp_suspect suspS
  by_cases q : 0 ≤ c ∧ c < (nT b : Int)
  · rw [decide_eq_true q] at ht
    by_cases q0 : NL d ≠ 0
    · refine ⟨m', ?_, hK, (g : Int), ha, by omega, by omega, fun _ => hv⟩
      rw [if_pos ⟨q, q0⟩]
      obtain ⟨n, rfl⟩ := Int.eq_ofNat_of_zero_le q.1
      have hw := q_Db_alwaysWrong H hb (CBk_K (hK 0 (by decide)) hB) hv (t := n) (by omega)
      rw [E_Bp_suspect_0]; simp (disch := omega) only [E_Bp_suspect_1, E_Bp_suspect_2, l_0, l_1, cK_0 H, cR_0_2 H, cK_17 H, cR_0_3 H, cK_27 H, cR_0_8 H, cK_61 H, q_Ls_allowed H, letT_eq, gd_true, bnd_some, aR_ov, aK_ov, aN_ov, okO_ov, aI_ov H.1, aL_ov H.1, sI_ov H.1, sL_ov H.1, sV_eq, sV_ne, sV_2, sW_eq, sW_ne, sW_1, iI_add, iI_sub, iI_mul, iI_neg, iI_lt, iI_eq, iI_cl, nI_iI, gd_in, bZ_0, bZ_1, bZ_eq, isB_bZ, isB_0, isB_1, nar_bZ, nar_0, nar_1, mw_ov, iI_s, iI_na, iI_nm, Int.toNat_natCast, Int.add_zero, Int.zero_add, Nat.reduceEqDiff, Nat.reduceAdd, Int.reduceAdd, Int.reduceNeg, Int.reduceSub, Int.reduceMul, Int.reduceLT, Int.reduceEq, Int.reduceToNat, reduceCtorEq, ↓reduceIte, ht, h17, e, hw]
      rw [if_neg (by omega)]
      by_cases qs : susB d b n (NL d) = true
      · rw [if_neg (by rw [qs]; decide), mw_ov]
        exact congrArg (fun v => some (iI v, _)) (if_pos qs).symm
      · have qf : susB d b n (NL d) = false := by simpa using qs
        rw [if_pos qf, mw_ov]
        exact congrArg (fun v => some (iI v, _)) (if_neg qs).symm
    · refine ⟨m, ?_, Ks_r _ _, hA⟩
      rw [if_neg (fun y => q0 y.2)]
      rw [E_Bp_suspect_0]; simp (disch := omega) only [E_Bp_suspect_1, E_Bp_suspect_2, l_0, l_1, cK_0 H, cR_0_2 H, cK_17 H, cR_0_3 H, cK_27 H, cR_0_8 H, cK_61 H, q_Ls_allowed H, letT_eq, gd_true, bnd_some, aR_ov, aK_ov, aN_ov, okO_ov, aI_ov H.1, aL_ov H.1, sI_ov H.1, sL_ov H.1, sV_eq, sV_ne, sV_2, sW_eq, sW_ne, sW_1, iI_add, iI_sub, iI_mul, iI_neg, iI_lt, iI_eq, iI_cl, nI_iI, gd_in, bZ_0, bZ_1, bZ_eq, isB_bZ, isB_0, isB_1, nar_bZ, nar_0, nar_1, mw_ov, iI_s, iI_na, iI_nm, Int.toNat_natCast, Int.add_zero, Int.zero_add, Nat.reduceEqDiff, Nat.reduceAdd, Int.reduceAdd, Int.reduceNeg, Int.reduceSub, Int.reduceMul, Int.reduceLT, Int.reduceEq, Int.reduceToNat, reduceCtorEq, ↓reduceIte, ht, h17]
      rw [if_pos (by omega), mw_ov]
  · rw [decide_eq_false q] at ht
    refine ⟨m, ?_, Ks_r _ _, hA⟩
    rw [if_neg (fun y => q y.1)]
    rw [E_Bp_suspect_0]; simp (disch := omega) only [E_Bp_suspect_1, E_Bp_suspect_2, l_0, l_1, cK_0 H, cR_0_2 H, cK_17 H, cR_0_3 H, cK_27 H, cR_0_8 H, cK_61 H, q_Ls_allowed H, letT_eq, gd_true, bnd_some, aR_ov, aK_ov, aN_ov, okO_ov, aI_ov H.1, aL_ov H.1, sI_ov H.1, sL_ov H.1, sV_eq, sV_ne, sV_2, sW_eq, sW_ne, sW_1, iI_add, iI_sub, iI_mul, iI_neg, iI_lt, iI_eq, iI_cl, nI_iI, gd_in, bZ_0, bZ_1, bZ_eq, isB_bZ, isB_0, isB_1, nar_bZ, nar_0, nar_1, mw_ov, iI_s, iI_na, iI_nm, Int.toNat_natCast, Int.add_zero, Int.zero_add, Nat.reduceEqDiff, Nat.reduceAdd, Int.reduceAdd, Int.reduceNeg, Int.reduceSub, Int.reduceMul, Int.reduceLT, Int.reduceEq, Int.reduceToNat, reduceCtorEq, ↓reduceIte, ht]
/-! the reference -/
theorem q_Md_wrongOf {A : Nat → Nat} {σ : AM} (H : LM A σ) {m : VM} {d : TD} {b : BD} (hb : wfB d b) (hB : MB b m) (x : Int64) : M_Md_wrongOf (A 0) x (ov 40 A m σ) = some (iI (wr b x : Int), (ov 40 A m σ)) := by
  have hn := hb.1
  have hl := up_loop (fun k => L_Md_wrongOf_1 (A 0) x (iI (cntN k (wrB b x) : Int)) (iI (k : Int)) (ov 40 A m σ)) (nT b) (some (iI (wr b x : Int), (ov 40 A m σ))) (fun k hk ih => by
    have hs := hb.2.2.1 k (by omega)
    have e1 := hB.2.1 k (by omega)
    have e2 := hB.2.2.1 k (by omega)
    have hc := cntN_le k (wrB b x)
    show L_Md_wrongOf_1 _ _ _ _ _ = _
    replace ih : L_Md_wrongOf_1 _ _ _ _ _ = _ := ih
    rw [cntN_s] at ih
    unfold wrB at ih
    cases q1 : bt x (tS b k) <;> cases q2 : tR b k <;> rw [q1, q2] at ih <;> rw [q2] at e2 <;> have hr := q_Md_doesRing x hs (ov 40 A m σ) <;> rw [q1] at hr
    · rw [E_Md_wrongOf_1]; simp (disch := omega) only [E_Md_wrongOf_2, l_0, l_1, mK_0 H, mR_38 H, mK_21 H, mN_21 H, mR_39 H, mK_22 H, mN_22 H, letT_eq, gd_true, bnd_some, aR_ov, aK_ov, aN_ov, okO_ov, aI_ov H.1, aL_ov H.1, sI_ov H.1, sL_ov H.1, sV_eq, sV_ne, sV_2, sW_eq, sW_ne, sW_1, iI_add, iI_sub, iI_mul, iI_neg, iI_lt, iI_eq, iI_cl, nI_iI, gd_in, bZ_0, bZ_1, bZ_eq, isB_bZ, isB_0, isB_1, nar_bZ, nar_0, nar_1, mw_ov, iI_s, iI_na, iI_nm, Int.toNat_natCast, Int.add_zero, Int.zero_add, Nat.reduceEqDiff, Nat.reduceAdd, Int.reduceAdd, Int.reduceNeg, Int.reduceSub, Int.reduceMul, Int.reduceLT, Int.reduceEq, Int.reduceToNat, reduceCtorEq, ↓reduceIte, hB.1.1, e1, e2, hr]
      rw [if_pos (by omega)]
      exact ih
    · rw [E_Md_wrongOf_1]; simp (disch := omega) only [E_Md_wrongOf_2, l_0, l_1, mK_0 H, mR_38 H, mK_21 H, mN_21 H, mR_39 H, mK_22 H, mN_22 H, letT_eq, gd_true, bnd_some, aR_ov, aK_ov, aN_ov, okO_ov, aI_ov H.1, aL_ov H.1, sI_ov H.1, sL_ov H.1, sV_eq, sV_ne, sV_2, sW_eq, sW_ne, sW_1, iI_add, iI_sub, iI_mul, iI_neg, iI_lt, iI_eq, iI_cl, nI_iI, gd_in, bZ_0, bZ_1, bZ_eq, isB_bZ, isB_0, isB_1, nar_bZ, nar_0, nar_1, mw_ov, iI_s, iI_na, iI_nm, Int.toNat_natCast, Int.add_zero, Int.zero_add, Nat.reduceEqDiff, Nat.reduceAdd, Int.reduceAdd, Int.reduceNeg, Int.reduceSub, Int.reduceMul, Int.reduceLT, Int.reduceEq, Int.reduceToNat, reduceCtorEq, ↓reduceIte, hB.1.1, e1, e2, hr]
      rw [if_pos (by omega)]
      exact ih
    · rw [E_Md_wrongOf_1]; simp (disch := omega) only [E_Md_wrongOf_2, l_0, l_1, mK_0 H, mR_38 H, mK_21 H, mN_21 H, mR_39 H, mK_22 H, mN_22 H, letT_eq, gd_true, bnd_some, aR_ov, aK_ov, aN_ov, okO_ov, aI_ov H.1, aL_ov H.1, sI_ov H.1, sL_ov H.1, sV_eq, sV_ne, sV_2, sW_eq, sW_ne, sW_1, iI_add, iI_sub, iI_mul, iI_neg, iI_lt, iI_eq, iI_cl, nI_iI, gd_in, bZ_0, bZ_1, bZ_eq, isB_bZ, isB_0, isB_1, nar_bZ, nar_0, nar_1, mw_ov, iI_s, iI_na, iI_nm, Int.toNat_natCast, Int.add_zero, Int.zero_add, Nat.reduceEqDiff, Nat.reduceAdd, Int.reduceAdd, Int.reduceNeg, Int.reduceSub, Int.reduceMul, Int.reduceLT, Int.reduceEq, Int.reduceToNat, reduceCtorEq, ↓reduceIte, hB.1.1, e1, e2, hr]
      rw [if_pos (by omega)]
      exact ih
    · rw [E_Md_wrongOf_1]; simp (disch := omega) only [E_Md_wrongOf_2, l_0, l_1, mK_0 H, mR_38 H, mK_21 H, mN_21 H, mR_39 H, mK_22 H, mN_22 H, letT_eq, gd_true, bnd_some, aR_ov, aK_ov, aN_ov, okO_ov, aI_ov H.1, aL_ov H.1, sI_ov H.1, sL_ov H.1, sV_eq, sV_ne, sV_2, sW_eq, sW_ne, sW_1, iI_add, iI_sub, iI_mul, iI_neg, iI_lt, iI_eq, iI_cl, nI_iI, gd_in, bZ_0, bZ_1, bZ_eq, isB_bZ, isB_0, isB_1, nar_bZ, nar_0, nar_1, mw_ov, iI_s, iI_na, iI_nm, Int.toNat_natCast, Int.add_zero, Int.zero_add, Nat.reduceEqDiff, Nat.reduceAdd, Int.reduceAdd, Int.reduceNeg, Int.reduceSub, Int.reduceMul, Int.reduceLT, Int.reduceEq, Int.reduceToNat, reduceCtorEq, ↓reduceIte, hB.1.1, e1, e2, hr]
      rw [if_pos (by omega)]
      exact ih) (by
    show L_Md_wrongOf_1 _ _ _ _ _ = _
    rw [E_Md_wrongOf_1]; simp (disch := omega) only [mK_0 H, okO_ov, aR_ov, gd_true, bnd_some, aI_ov H.1, iI_lt, hB.1.1]; rw [if_neg (by omega)]
    rfl) 0 (Nat.zero_le _)
  unfold M_Md_wrongOf
  rw [E_Md_wrongOf_0]
  exact (congrArg (mw _) hl).trans (mw_ov _ _ _ _ _ _)
def fwI (d : TD) (b : BD) (k : Nat) : Int := if k = 0 then -1 else (fwN d b k : Int)
theorem fwI_s {d : TD} {b : BD} (hb : wfB d b) (k : Nat) : fwI d b (k + 1) = if fwI d b k < 0 then (wr b (LL d k) : Int) else if (wr b (LL d k) : Int) < fwI d b k then (wr b (LL d k) : Int) else fwI d b k := by
  have hw := wr_le hb (LL d k)
  have e1 : fwI d b (k + 1) = (fwN d b (k + 1) : Int) := if_neg (by omega)
  rw [e1, fwN_s]
  by_cases q : k = 0
  · subst q
    have e2 : fwI d b 0 = -1 := rfl
    have e3 : fwN d b 0 = 60 := rfl
    rw [e2, e3, if_pos (show (-1 : Int) < 0 by decide)]
    split <;> omega
  · have e2 : fwI d b k = (fwN d b k : Int) := if_neg q
    rw [e2, if_neg (show ¬ (fwN d b k : Int) < 0 by omega)]
    split <;> split <;> omega
theorem q_Md_fewestWrong {A : Nat → Nat} {σ : AM} (H : LM A σ) {m : VM} {d : TD} {b : BD} (hd : wfD d) (hT : MT d m) (hb : wfB d b) (hB : MB b m) : M_Md_fewestWrong (A 0) (ov 40 A m σ) = some (iI (fwI d b (NL d)), (ov 40 A m σ)) := by
  have hN := NL_le d
  have hW := hd.2.2.2.2.2.2
  have hl := up_loop (fun k => L_Md_fewestWrong_1 (A 0) (iI (fwI d b k)) (iI (k : Int)) (ov 40 A m σ)) (NL d) (some (iI (fwI d b (NL d)), (ov 40 A m σ))) (fun k hk ih => by
    have e1 := hT.2.2.2.1 k hk
    have hw := wr_le hb (LL d k)
    have hr := q_Md_wrongOf H hb hB (LL d k)
    have hf : -1 ≤ fwI d b k ∧ fwI d b k ≤ 60 := by
      have := (fwN_le d b k).1
      unfold fwI; split <;> omega
    show L_Md_fewestWrong_1 _ _ _ _ = _
    replace ih : L_Md_fewestWrong_1 _ _ _ _ = _ := ih
    rw [fwI_s hb k] at ih
    rw [E_Md_fewestWrong_1]; simp (disch := omega) only [E_Md_fewestWrong_2, E_Md_fewestWrong_3, l_0, l_1, mK_0 H, mR_30 H, mK_14 H, mN_14 H, letT_eq, gd_true, bnd_some, aR_ov, aK_ov, aN_ov, okO_ov, aI_ov H.1, aL_ov H.1, sI_ov H.1, sL_ov H.1, sV_eq, sV_ne, sV_2, sW_eq, sW_ne, sW_1, iI_add, iI_sub, iI_mul, iI_neg, iI_lt, iI_eq, iI_cl, nI_iI, gd_in, bZ_0, bZ_1, bZ_eq, isB_bZ, isB_0, isB_1, nar_bZ, nar_0, nar_1, mw_ov, iI_s, iI_na, iI_nm, Int.toNat_natCast, Int.add_zero, Int.zero_add, Nat.reduceEqDiff, Nat.reduceAdd, Int.reduceAdd, Int.reduceNeg, Int.reduceSub, Int.reduceMul, Int.reduceLT, Int.reduceEq, Int.reduceToNat, reduceCtorEq, ↓reduceIte, hT.1.2.2.2.2.2, e1, hr]
    rw [if_pos (by omega)]
    by_cases q1 : fwI d b k < 0
    · rw [if_pos q1]; rw [if_pos q1] at ih; exact ih
    · rw [if_neg q1]; rw [if_neg q1] at ih
      by_cases q2 : (wr b (LL d k) : Int) < fwI d b k
      · rw [if_pos q2]; rw [if_pos q2] at ih; exact ih
      · rw [if_neg q2]; rw [if_neg q2] at ih; exact ih) (by
    show L_Md_fewestWrong_1 _ _ _ _ = _
    rw [E_Md_fewestWrong_1]; simp (disch := omega) only [mK_0 H, okO_ov, aR_ov, gd_true, bnd_some, aI_ov H.1, iI_lt, hT.1.2.2.2.2.2]; rw [if_neg (by omega)]) 0 (Nat.zero_le _)
  unfold M_Md_fewestWrong
  rw [E_Md_fewestWrong_0]
  exact (congrArg (mw _) hl).trans (mw_ov _ _ _ _ _ _)
theorem q_Md_withWrong {A : Nat → Nat} {σ : AM} (H : LM A σ) {m : VM} {d : TD} {b : BD} (hd : wfD d) (hT : MT d m) (hb : wfB d b) (hB : MB b m) {n : Nat} (hn : n ≤ 60) : M_Md_withWrong (A 0) (iI (n : Int)) (ov 40 A m σ) = some (iI (wthN d b n (NL d) : Int), (ov 40 A m σ)) := by
  have hN := NL_le d
  have hW := hd.2.2.2.2.2.2
  have hl := up_loop (fun k => L_Md_withWrong_1 (A 0) (iI (n : Int)) (iI (wthN d b n k : Int)) (iI (k : Int)) (ov 40 A m σ)) (NL d) (some (iI (wthN d b n (NL d) : Int), (ov 40 A m σ))) (fun k hk ih => by
    have e1 := hT.2.2.2.1 k hk
    have e2 := hT.2.2.2.2.1 k hk
    have hw := wr_le hb (LL d k)
    have hr := q_Md_wrongOf H hb hB (LL d k)
    show L_Md_withWrong_1 _ _ _ _ _ = _
    replace ih : L_Md_withWrong_1 _ _ (iI ((wthN d b n k + if wr b (LL d k) ≤ n then sh d k else 0 : Nat) : Int)) _ _ = _ := ih
    rw [E_Md_withWrong_1]; simp (disch := omega) only [E_Md_withWrong_2, l_0, l_1, mK_0 H, mR_30 H, mK_14 H, mN_14 H, mR_31 H, mK_15 H, mN_15 H, letT_eq, gd_true, bnd_some, aR_ov, aK_ov, aN_ov, okO_ov, aI_ov H.1, aL_ov H.1, sI_ov H.1, sL_ov H.1, sV_eq, sV_ne, sV_2, sW_eq, sW_ne, sW_1, iI_add, iI_sub, iI_mul, iI_neg, iI_lt, iI_eq, iI_cl, nI_iI, gd_in, bZ_0, bZ_1, bZ_eq, isB_bZ, isB_0, isB_1, nar_bZ, nar_0, nar_1, mw_ov, iI_s, iI_na, iI_nm, Int.toNat_natCast, Int.add_zero, Int.zero_add, Nat.reduceEqDiff, Nat.reduceAdd, Int.reduceAdd, Int.reduceNeg, Int.reduceSub, Int.reduceMul, Int.reduceLT, Int.reduceEq, Int.reduceToNat, reduceCtorEq, ↓reduceIte, hT.1.2.2.2.2.2, e1, e2, hr]
    rw [if_pos (by omega)]
    by_cases q1 : wr b (LL d k) ≤ n
    · rw [if_neg (by omega)]; rw [if_pos q1] at ih; exact ih
    · rw [if_pos (by omega)]; rw [if_neg q1] at ih; exact ih) (by
    show L_Md_withWrong_1 _ _ _ _ _ = _
    rw [E_Md_withWrong_1]; simp (disch := omega) only [mK_0 H, okO_ov, aR_ov, gd_true, bnd_some, aI_ov H.1, iI_lt, hT.1.2.2.2.2.2]; rw [if_neg (by omega)]) 0 (Nat.zero_le _)
  unfold M_Md_withWrong
  rw [E_Md_withWrong_0]
  exact (congrArg (mw _) hl).trans (mw_ov _ _ _ _ _ _)
theorem m_wrong {d : TD} {b : BD} {A : Nat → Nat} {σ : AM} {m : VM} (M : MS0 d b A σ m) {c : Int} (h1 : -2147483648 ≤ c) (h2 : c < 2147483648) : Mf A σ m (M_Md_wrong (A 0) (iI c) (ov 40 A m σ)) (iI (wrongS d b c)) := by
  have M0 := MS0_K (KM_0 m) M
  obtain ⟨H, hd, hT, hb, hB⟩ := M0
  have hwi := q_Md_isWhat (a := c) (ov 40 A (sV m 0 0 (iI 0)) σ) h1 h2
  have hf := q_Md_fewestWrong H hd hT hb hB
  have h60 := (fwN_le d b (NL d)).1
  have hww := q_Md_withWrong H hd hT hb hB h60
  refine ⟨_, ?_, KM_0 m⟩
  unfold M_Md_wrong wrongS
  by_cases q0 : NL d = 0
  · have : fwI d b (NL d) = -1 := if_pos q0
    rw [this] at hf
    rw [if_neg (fun y => y.2 q0)]
    by_cases q : 0 ≤ c ∧ c ≤ 1
    · rw [decide_eq_true q] at hwi
      rw [E_Md_wrong_0]; simp (disch := omega) only [E_Md_wrong_1, E_Md_wrong_2, l_0, l_1, mK_0 H, letT_eq, gd_true, bnd_some, aR_ov, aK_ov, aN_ov, okO_ov, aI_ov H.1, aL_ov H.1, sI_ov H.1, sL_ov H.1, sV_eq, sV_ne, sV_2, sW_eq, sW_ne, sW_1, iI_add, iI_sub, iI_mul, iI_neg, iI_lt, iI_eq, iI_cl, nI_iI, gd_in, bZ_0, bZ_1, bZ_eq, isB_bZ, isB_0, isB_1, nar_bZ, nar_0, nar_1, mw_ov, iI_s, iI_na, iI_nm, Int.toNat_natCast, Int.add_zero, Int.zero_add, Nat.reduceEqDiff, Nat.reduceAdd, Int.reduceAdd, Int.reduceNeg, Int.reduceSub, Int.reduceMul, Int.reduceLT, Int.reduceEq, Int.reduceToNat, reduceCtorEq, ↓reduceIte, hf, hwi]
    · rw [decide_eq_false q] at hwi
      rw [E_Md_wrong_0]; simp (disch := omega) only [E_Md_wrong_1, E_Md_wrong_2, l_0, l_1, mK_0 H, letT_eq, gd_true, bnd_some, aR_ov, aK_ov, aN_ov, okO_ov, aI_ov H.1, aL_ov H.1, sI_ov H.1, sL_ov H.1, sV_eq, sV_ne, sV_2, sW_eq, sW_ne, sW_1, iI_add, iI_sub, iI_mul, iI_neg, iI_lt, iI_eq, iI_cl, nI_iI, gd_in, bZ_0, bZ_1, bZ_eq, isB_bZ, isB_0, isB_1, nar_bZ, nar_0, nar_1, mw_ov, iI_s, iI_na, iI_nm, Int.toNat_natCast, Int.add_zero, Int.zero_add, Nat.reduceEqDiff, Nat.reduceAdd, Int.reduceAdd, Int.reduceNeg, Int.reduceSub, Int.reduceMul, Int.reduceLT, Int.reduceEq, Int.reduceToNat, reduceCtorEq, ↓reduceIte, hf, hwi]
  · have : fwI d b (NL d) = (fwN d b (NL d) : Int) := if_neg q0
    rw [this] at hf
    by_cases q : 0 ≤ c ∧ c ≤ 1
    · rw [decide_eq_true q] at hwi
      rw [if_pos ⟨q, q0⟩]
      rw [E_Md_wrong_0]; simp (disch := omega) only [E_Md_wrong_1, E_Md_wrong_2, l_0, l_1, mK_0 H, letT_eq, gd_true, bnd_some, aR_ov, aK_ov, aN_ov, okO_ov, aI_ov H.1, aL_ov H.1, sI_ov H.1, sL_ov H.1, sV_eq, sV_ne, sV_2, sW_eq, sW_ne, sW_1, iI_add, iI_sub, iI_mul, iI_neg, iI_lt, iI_eq, iI_cl, nI_iI, gd_in, bZ_0, bZ_1, bZ_eq, isB_bZ, isB_0, isB_1, nar_bZ, nar_0, nar_1, mw_ov, iI_s, iI_na, iI_nm, Int.toNat_natCast, Int.add_zero, Int.zero_add, Nat.reduceEqDiff, Nat.reduceAdd, Int.reduceAdd, Int.reduceNeg, Int.reduceSub, Int.reduceMul, Int.reduceLT, Int.reduceEq, Int.reduceToNat, reduceCtorEq, ↓reduceIte, hf, hwi, hww]
      rw [if_neg (by omega)]
      by_cases q2 : c = 0
      · rw [if_pos q2, if_pos q2, mw_ov]
      · rw [if_neg q2, if_neg q2, mw_ov]
    · rw [decide_eq_false q] at hwi
      rw [if_neg (fun y => q y.1)]
      rw [E_Md_wrong_0]; simp (disch := omega) only [E_Md_wrong_1, E_Md_wrong_2, l_0, l_1, mK_0 H, letT_eq, gd_true, bnd_some, aR_ov, aK_ov, aN_ov, okO_ov, aI_ov H.1, aL_ov H.1, sI_ov H.1, sL_ov H.1, sV_eq, sV_ne, sV_2, sW_eq, sW_ne, sW_1, iI_add, iI_sub, iI_mul, iI_neg, iI_lt, iI_eq, iI_cl, nI_iI, gd_in, bZ_0, bZ_1, bZ_eq, isB_bZ, isB_0, isB_1, nar_bZ, nar_0, nar_1, mw_ov, iI_s, iI_na, iI_nm, Int.toNat_natCast, Int.add_zero, Int.zero_add, Nat.reduceEqDiff, Nat.reduceAdd, Int.reduceAdd, Int.reduceNeg, Int.reduceSub, Int.reduceMul, Int.reduceLT, Int.reduceEq, Int.reduceToNat, reduceCtorEq, ↓reduceIte, hf, hwi]
theorem m_with {d : TD} {b : BD} {A : Nat → Nat} {σ : AM} {m : VM} (M : MS0 d b A σ m) {c : Int} (h1 : -2147483648 ≤ c) (h2 : c < 2147483648) : Mf A σ m (M_Md_with (A 0) (iI c) (ov 40 A m σ)) (iI (withS d b c)) := by
  have M0 := MS0_K (KM_0 m) M
  obtain ⟨H, hd, hT, hb, hB⟩ := M0
  have hwi := q_Md_within (a := c) (l := 0) (h := 60) (ov 40 A (sV m 0 0 (iI 0)) σ) h1 h2 (by omega) (by omega) (by omega) (by omega)
  refine ⟨_, ?_, KM_0 m⟩
  unfold M_Md_with withS
  by_cases q : 0 ≤ c ∧ c ≤ 60
  · rw [decide_eq_true q] at hwi
    rw [if_pos q]
    obtain ⟨n, rfl⟩ := Int.eq_ofNat_of_zero_le q.1
    have hww := q_Md_withWrong H hd hT hb hB (n := n) (by omega)
    rw [E_Md_with_0]; simp (disch := omega) only [E_Md_with_1, l_0, l_1, l_60, mK_0 H, letT_eq, gd_true, bnd_some, aR_ov, aK_ov, aN_ov, okO_ov, aI_ov H.1, aL_ov H.1, sI_ov H.1, sL_ov H.1, sV_eq, sV_ne, sV_2, sW_eq, sW_ne, sW_1, iI_add, iI_sub, iI_mul, iI_neg, iI_lt, iI_eq, iI_cl, nI_iI, gd_in, bZ_0, bZ_1, bZ_eq, isB_bZ, isB_0, isB_1, nar_bZ, nar_0, nar_1, mw_ov, iI_s, iI_na, iI_nm, Int.toNat_natCast, Int.add_zero, Int.zero_add, Nat.reduceEqDiff, Nat.reduceAdd, Int.reduceAdd, Int.reduceNeg, Int.reduceSub, Int.reduceMul, Int.reduceLT, Int.reduceEq, Int.reduceToNat, reduceCtorEq, ↓reduceIte, hwi, hww]
  · rw [decide_eq_false q] at hwi
    rw [if_neg q]
    rw [E_Md_with_0]; simp (disch := omega) only [E_Md_with_1, l_0, l_1, l_60, mK_0 H, letT_eq, gd_true, bnd_some, aR_ov, aK_ov, aN_ov, okO_ov, aI_ov H.1, aL_ov H.1, sI_ov H.1, sL_ov H.1, sV_eq, sV_ne, sV_2, sW_eq, sW_ne, sW_1, iI_add, iI_sub, iI_mul, iI_neg, iI_lt, iI_eq, iI_cl, nI_iI, gd_in, bZ_0, bZ_1, bZ_eq, isB_bZ, isB_0, isB_1, nar_bZ, nar_0, nar_1, mw_ov, iI_s, iI_na, iI_nm, Int.toNat_natCast, Int.add_zero, Int.zero_add, Nat.reduceEqDiff, Nat.reduceAdd, Int.reduceAdd, Int.reduceNeg, Int.reduceSub, Int.reduceMul, Int.reduceLT, Int.reduceEq, Int.reduceToNat, reduceCtorEq, ↓reduceIte, hwi]
theorem susB_s (d : TD) (b : BD) (t k : Nat) : susB d b t (k + 1) = (susB d b t k && (!decide (wr b (LL d k) = fwN d b (NL d)) || wrB b (LL d k) t)) := by
  unfold susB
  rw [anyN_s, Bool.not_or, Bool.not_and, Bool.not_not]
theorem m_suspect {d : TD} {b : BD} {A : Nat → Nat} {σ : AM} {m : VM} (M : MS0 d b A σ m) {c : Int} (h1 : -2147483648 ≤ c) (h2 : c < 2147483648) : Mf A σ m (M_Md_suspect (A 0) (iI c) (ov 40 A m σ)) (iI (suspS d b c)) := by
  have M0 := MS0_K (KM_0 m) M
  obtain ⟨H, hd, hT, hb, hB⟩ := M0
  have hT0 := M.2.2.1
  have hB0 := M.2.2.2.2
  have hf := q_Md_fewestWrong H hd hT hb hB
  have h60 := fwN_le d b (NL d)
  have hn := hb.1
  have hN := NL_le d
  have hW := hd.2.2.2.2.2.2
  refine ⟨_, ?_, KM_0 m⟩
  unfold M_Md_suspect
  by_cases q : 0 ≤ c ∧ c < (nT b : Int)
  · obtain ⟨t, rfl⟩ := Int.eq_ofNat_of_zero_le q.1
    have ht : t < nT b := by omega
    by_cases q0 : NL d = 0
    · have : fwI d b (NL d) = -1 := if_pos q0
      rw [this] at hf
      unfold suspS
      rw [if_neg (fun y => y.2 q0)]
      rw [E_Md_suspect_0]; simp (disch := omega) only [E_Md_suspect_1, l_0, l_1, mK_0 H, letT_eq, gd_true, bnd_some, aR_ov, aK_ov, aN_ov, okO_ov, aI_ov H.1, aL_ov H.1, sI_ov H.1, sL_ov H.1, sV_eq, sV_ne, sV_2, sW_eq, sW_ne, sW_1, iI_add, iI_sub, iI_mul, iI_neg, iI_lt, iI_eq, iI_cl, nI_iI, gd_in, bZ_0, bZ_1, bZ_eq, isB_bZ, isB_0, isB_1, nar_bZ, nar_0, nar_1, mw_ov, iI_s, iI_na, iI_nm, Int.toNat_natCast, Int.add_zero, Int.zero_add, Nat.reduceEqDiff, Nat.reduceAdd, Int.reduceAdd, Int.reduceNeg, Int.reduceSub, Int.reduceMul, Int.reduceLT, Int.reduceEq, Int.reduceToNat, reduceCtorEq, ↓reduceIte, hf, hB.1.1, hB0.1.1]
      rw [if_neg (by omega), if_pos (by omega), mw_ov]
    · have : fwI d b (NL d) = (fwN d b (NL d) : Int) := if_neg q0
      rw [this] at hf
      have hs := hb.2.2.1 t (by omega)
      have e1 := hB.2.1 t (by omega)
      have e1' := hB0.2.1 t (by omega)
      have hl := up_loop (fun k => L_Md_suspect_2 (A 0) (iI (t : Int)) (iI (fwN d b (NL d) : Int)) (bZ (susB d b t k)) (iI (k : Int)) (ov 40 A (sV m 0 0 (iI 0)) σ)) (NL d) (some (iI (suspS d b (t : Int)), (ov 40 A (sV m 0 0 (iI 0)) σ))) (fun k hk ih => by
        have e3 := hT.2.2.2.1 k hk
        have hw := wr_le hb (LL d k)
        have hlo := h60.2 k hk
        have hr := q_Md_wrongOf H hb hB (LL d k)
        have hdr := q_Md_doesRing (LL d k) hs (ov 40 A (sV m 0 0 (iI 0)) σ)
        have e2 := hB.2.2.1 t (by omega)
        have e2' := hB0.2.2.1 t (by omega)
        have e3' := hT0.2.2.2.1 k hk
        show L_Md_suspect_2 _ _ _ _ _ _ = _
        replace ih : L_Md_suspect_2 _ _ _ _ _ _ = _ := ih
        rw [susB_s] at ih
        cases q1 : susB d b t k
        · rw [q1, Bool.false_and] at ih
          rw [E_Md_suspect_2]; simp (disch := omega) only [E_Md_suspect_3, E_Md_suspect_4, E_Md_suspect_5, E_Md_suspect_6, l_0, l_1, mK_0 H, mR_30 H, mK_14 H, mN_14 H, mR_38 H, mK_21 H, mN_21 H, mR_39 H, mK_22 H, mN_22 H, letT_eq, gd_true, bnd_some, aR_ov, aK_ov, aN_ov, okO_ov, aI_ov H.1, aL_ov H.1, sI_ov H.1, sL_ov H.1, sV_eq, sV_ne, sV_2, sW_eq, sW_ne, sW_1, iI_add, iI_sub, iI_mul, iI_neg, iI_lt, iI_eq, iI_cl, nI_iI, gd_in, bZ_0, bZ_1, bZ_eq, isB_bZ, isB_0, isB_1, nar_bZ, nar_0, nar_1, mw_ov, iI_s, iI_na, iI_nm, Int.toNat_natCast, Int.add_zero, Int.zero_add, Nat.reduceEqDiff, Nat.reduceAdd, Int.reduceAdd, Int.reduceNeg, Int.reduceSub, Int.reduceMul, Int.reduceLT, Int.reduceEq, Int.reduceToNat, reduceCtorEq, ↓reduceIte, hT.1.2.2.2.2.2, hT0.1.2.2.2.2.2]
          rw [if_pos (by omega)]
          exact ih
        · rw [q1, Bool.true_and] at ih
          by_cases q2 : wr b (LL d k) = fwN d b (NL d)
          · rw [decide_eq_true q2, Bool.not_true, Bool.false_or] at ih
            unfold wrB at ih
            cases q3 : bt (LL d k) (tS b t) <;> cases q4 : tR b t <;> rw [q3, q4] at ih <;> rw [q4] at e2 e2' <;> rw [q3] at hdr
            · rw [E_Md_suspect_2]; simp (disch := omega) only [E_Md_suspect_3, E_Md_suspect_4, E_Md_suspect_5, E_Md_suspect_6, l_0, l_1, mK_0 H, mR_30 H, mK_14 H, mN_14 H, mR_38 H, mK_21 H, mN_21 H, mR_39 H, mK_22 H, mN_22 H, letT_eq, gd_true, bnd_some, aR_ov, aK_ov, aN_ov, okO_ov, aI_ov H.1, aL_ov H.1, sI_ov H.1, sL_ov H.1, sV_eq, sV_ne, sV_2, sW_eq, sW_ne, sW_1, iI_add, iI_sub, iI_mul, iI_neg, iI_lt, iI_eq, iI_cl, nI_iI, gd_in, bZ_0, bZ_1, bZ_eq, isB_bZ, isB_0, isB_1, nar_bZ, nar_0, nar_1, mw_ov, iI_s, iI_na, iI_nm, Int.toNat_natCast, Int.add_zero, Int.zero_add, Nat.reduceEqDiff, Nat.reduceAdd, Int.reduceAdd, Int.reduceNeg, Int.reduceSub, Int.reduceMul, Int.reduceLT, Int.reduceEq, Int.reduceToNat, reduceCtorEq, ↓reduceIte, hT.1.2.2.2.2.2, hT0.1.2.2.2.2.2, e1, e1', e2, e2', e3, e3', hr, hdr]
              rw [if_pos (by omega), if_neg (by omega)]
              exact ih
            · rw [E_Md_suspect_2]; simp (disch := omega) only [E_Md_suspect_3, E_Md_suspect_4, E_Md_suspect_5, E_Md_suspect_6, l_0, l_1, mK_0 H, mR_30 H, mK_14 H, mN_14 H, mR_38 H, mK_21 H, mN_21 H, mR_39 H, mK_22 H, mN_22 H, letT_eq, gd_true, bnd_some, aR_ov, aK_ov, aN_ov, okO_ov, aI_ov H.1, aL_ov H.1, sI_ov H.1, sL_ov H.1, sV_eq, sV_ne, sV_2, sW_eq, sW_ne, sW_1, iI_add, iI_sub, iI_mul, iI_neg, iI_lt, iI_eq, iI_cl, nI_iI, gd_in, bZ_0, bZ_1, bZ_eq, isB_bZ, isB_0, isB_1, nar_bZ, nar_0, nar_1, mw_ov, iI_s, iI_na, iI_nm, Int.toNat_natCast, Int.add_zero, Int.zero_add, Nat.reduceEqDiff, Nat.reduceAdd, Int.reduceAdd, Int.reduceNeg, Int.reduceSub, Int.reduceMul, Int.reduceLT, Int.reduceEq, Int.reduceToNat, reduceCtorEq, ↓reduceIte, hT.1.2.2.2.2.2, hT0.1.2.2.2.2.2, e1, e1', e2, e2', e3, e3', hr, hdr]
              rw [if_pos (by omega), if_neg (by omega)]
              exact ih
            · rw [E_Md_suspect_2]; simp (disch := omega) only [E_Md_suspect_3, E_Md_suspect_4, E_Md_suspect_5, E_Md_suspect_6, l_0, l_1, mK_0 H, mR_30 H, mK_14 H, mN_14 H, mR_38 H, mK_21 H, mN_21 H, mR_39 H, mK_22 H, mN_22 H, letT_eq, gd_true, bnd_some, aR_ov, aK_ov, aN_ov, okO_ov, aI_ov H.1, aL_ov H.1, sI_ov H.1, sL_ov H.1, sV_eq, sV_ne, sV_2, sW_eq, sW_ne, sW_1, iI_add, iI_sub, iI_mul, iI_neg, iI_lt, iI_eq, iI_cl, nI_iI, gd_in, bZ_0, bZ_1, bZ_eq, isB_bZ, isB_0, isB_1, nar_bZ, nar_0, nar_1, mw_ov, iI_s, iI_na, iI_nm, Int.toNat_natCast, Int.add_zero, Int.zero_add, Nat.reduceEqDiff, Nat.reduceAdd, Int.reduceAdd, Int.reduceNeg, Int.reduceSub, Int.reduceMul, Int.reduceLT, Int.reduceEq, Int.reduceToNat, reduceCtorEq, ↓reduceIte, hT.1.2.2.2.2.2, hT0.1.2.2.2.2.2, e1, e1', e2, e2', e3, e3', hr, hdr]
              rw [if_pos (by omega), if_neg (by omega)]
              exact ih
            · rw [E_Md_suspect_2]; simp (disch := omega) only [E_Md_suspect_3, E_Md_suspect_4, E_Md_suspect_5, E_Md_suspect_6, l_0, l_1, mK_0 H, mR_30 H, mK_14 H, mN_14 H, mR_38 H, mK_21 H, mN_21 H, mR_39 H, mK_22 H, mN_22 H, letT_eq, gd_true, bnd_some, aR_ov, aK_ov, aN_ov, okO_ov, aI_ov H.1, aL_ov H.1, sI_ov H.1, sL_ov H.1, sV_eq, sV_ne, sV_2, sW_eq, sW_ne, sW_1, iI_add, iI_sub, iI_mul, iI_neg, iI_lt, iI_eq, iI_cl, nI_iI, gd_in, bZ_0, bZ_1, bZ_eq, isB_bZ, isB_0, isB_1, nar_bZ, nar_0, nar_1, mw_ov, iI_s, iI_na, iI_nm, Int.toNat_natCast, Int.add_zero, Int.zero_add, Nat.reduceEqDiff, Nat.reduceAdd, Int.reduceAdd, Int.reduceNeg, Int.reduceSub, Int.reduceMul, Int.reduceLT, Int.reduceEq, Int.reduceToNat, reduceCtorEq, ↓reduceIte, hT.1.2.2.2.2.2, hT0.1.2.2.2.2.2, e1, e1', e2, e2', e3, e3', hr, hdr]
              rw [if_pos (by omega), if_neg (by omega)]
              exact ih
          · rw [decide_eq_false q2, Bool.not_false, Bool.true_or] at ih
            rw [E_Md_suspect_2]; simp (disch := omega) only [E_Md_suspect_3, E_Md_suspect_4, E_Md_suspect_5, E_Md_suspect_6, l_0, l_1, mK_0 H, mR_30 H, mK_14 H, mN_14 H, mR_38 H, mK_21 H, mN_21 H, mR_39 H, mK_22 H, mN_22 H, letT_eq, gd_true, bnd_some, aR_ov, aK_ov, aN_ov, okO_ov, aI_ov H.1, aL_ov H.1, sI_ov H.1, sL_ov H.1, sV_eq, sV_ne, sV_2, sW_eq, sW_ne, sW_1, iI_add, iI_sub, iI_mul, iI_neg, iI_lt, iI_eq, iI_cl, nI_iI, gd_in, bZ_0, bZ_1, bZ_eq, isB_bZ, isB_0, isB_1, nar_bZ, nar_0, nar_1, mw_ov, iI_s, iI_na, iI_nm, Int.toNat_natCast, Int.add_zero, Int.zero_add, Nat.reduceEqDiff, Nat.reduceAdd, Int.reduceAdd, Int.reduceNeg, Int.reduceSub, Int.reduceMul, Int.reduceLT, Int.reduceEq, Int.reduceToNat, reduceCtorEq, ↓reduceIte, hT.1.2.2.2.2.2, hT0.1.2.2.2.2.2, e1, e1', e2, e2', e3, e3', hr, hdr]
            rw [if_pos (by omega), if_pos (by omega)]
            exact ih) (by
        show L_Md_suspect_2 _ _ _ _ _ _ = _
        unfold suspS
        rw [if_pos ⟨q, q0⟩]
        rw [E_Md_suspect_2]
        simp (disch := omega) only [E_Md_suspect_6, mK_0 H, okO_ov, gd_true, aI_ov H.1, hT.1.2.2.2.2.2, hT0.1.2.2.2.2.2, iI_lt]
        rw [if_neg (by omega)]
        show (if bZ (susB d b t (NL d)) = 0 then _ else _) = some (iI (if susB d b t (NL d) = true then _ else _), _)
        cases susB d b t (NL d) <;> rfl) 0 (Nat.zero_le _)
      replace hl : L_Md_suspect_2 (A 0) (iI (t : Int)) (iI (fwN d b (NL d) : Int)) (iI 1) (iI 0) (ov 40 A (sV m 0 0 (iI 0)) σ) = _ := hl
      rw [E_Md_suspect_0]; simp (disch := omega) only [E_Md_suspect_1, l_0, l_1, mK_0 H, letT_eq, gd_true, bnd_some, aR_ov, aK_ov, aN_ov, okO_ov, aI_ov H.1, aL_ov H.1, sI_ov H.1, sL_ov H.1, sV_eq, sV_ne, sV_2, sW_eq, sW_ne, sW_1, iI_add, iI_sub, iI_mul, iI_neg, iI_lt, iI_eq, iI_cl, nI_iI, gd_in, bZ_0, bZ_1, bZ_eq, isB_bZ, isB_0, isB_1, nar_bZ, nar_0, nar_1, mw_ov, iI_s, iI_na, iI_nm, Int.toNat_natCast, Int.add_zero, Int.zero_add, Nat.reduceEqDiff, Nat.reduceAdd, Int.reduceAdd, Int.reduceNeg, Int.reduceSub, Int.reduceMul, Int.reduceLT, Int.reduceEq, Int.reduceToNat, reduceCtorEq, ↓reduceIte, hf, hB.1.1, hB0.1.1, hl]
      rw [if_neg (by omega), if_pos (by omega), if_neg (by omega), mw_ov]
  · unfold suspS
    rw [if_neg (fun y => q y.1)]
    have hfb : -1 ≤ fwI d b (NL d) ∧ fwI d b (NL d) ≤ 60 := by
      have := h60.1
      unfold fwI; split <;> omega
    rw [E_Md_suspect_0]; simp (disch := omega) only [E_Md_suspect_1, l_0, l_1, mK_0 H, letT_eq, gd_true, bnd_some, aR_ov, aK_ov, aN_ov, okO_ov, aI_ov H.1, aL_ov H.1, sI_ov H.1, sL_ov H.1, sV_eq, sV_ne, sV_2, sW_eq, sW_ne, sW_1, iI_add, iI_sub, iI_mul, iI_neg, iI_lt, iI_eq, iI_cl, nI_iI, gd_in, bZ_0, bZ_1, bZ_eq, isB_bZ, isB_0, isB_1, nar_bZ, nar_0, nar_1, mw_ov, iI_s, iI_na, iI_nm, Int.toNat_natCast, Int.add_zero, Int.zero_add, Nat.reduceEqDiff, Nat.reduceAdd, Int.reduceAdd, Int.reduceNeg, Int.reduceSub, Int.reduceMul, Int.reduceLT, Int.reduceEq, Int.reduceToNat, reduceCtorEq, ↓reduceIte, hf, hB.1.1, hB0.1.1]
    by_cases q1 : c < 0
    · rw [if_pos q1, mw_ov]
    · rw [if_neg q1, if_neg (by omega), mw_ov]
