/-! ===== a thing that has grown: the reference's answer ===== -/
theorem gNo_any {d : TD} {b : BD} (hb : wfB d b) : anyN (NL d) (fun i => fitT b (LL d i)) = true ↔ gNo d b := by
  rw [anyN_iff]
  constructor
  · intro ⟨i, hi, h⟩
    obtain ⟨w, hw, hm, e⟩ := LLs_mem (LL_mem hi)
    exact ⟨w, hw, hm, by rw [← e]; exact (fit_wr hb _).mp h⟩
  · intro ⟨w, hw, hm, h⟩
    exact ⟨num d w, num_lt hw hm, by rw [LL_num hw hm]; exact (fit_wr hb _).mpr h⟩
theorem fw_ex {b : BD} {x : Int64} (h : ¬ ∀ j, j < nT b → wrB b x j = false) : ∃ f, isFW b x f := by
  have key : ∀ n, n ≤ nT b → (∀ j, j < n → wrB b x j = false) ∨ ∃ f, isFW b x f := by
    intro n
    induction n with
    | zero => intro _; exact Or.inl fun j hj => absurd hj (Nat.not_lt_zero j)
    | succ n ih =>
      intro hn
      rcases ih (by omega) with h | h
      · cases q : wrB b x n
        · refine Or.inl fun j hj => ?_
          by_cases e : j = n
          · rw [e]; exact q
          · exact h j (by omega)
        · exact Or.inr ⟨n, h, by omega, q⟩
      · exact Or.inr h
  rcases key (nT b) (Nat.le_refl _) with k | k
  · exact absurd k h
  · exact k
theorem p_Md_findGrown {d : TD} {b : BD} {A : Nat → Nat} {σ : AM} {m : VM} (M : MS0 d b A σ m) : fgP d b A σ m (M_Md_findGrown (A 0) (ov 40 A m σ)) := by
  have M0 := M
  obtain ⟨H, hd, hT, hb, hB⟩ := M
  have hN := NL_le d
  have hW := hd.2.2.2.2.2.2
  obtain ⟨m1, e1, k1, k2, k3, k4⟩ := p_Md_findMust H hb hB
  have hK1 : KM m m1 := ⟨fun j _ => by rw [k1], fun c _ => by rw [k1], fun c hc => k2 c (fun z => by subst z; revert hc; decide)⟩
  have M1 := MS0_K hK1 M0
  have hT1 := M1.2.2.1
  have hB1 := M1.2.2.2.2
  have l1 : fgP d b A σ m (L_Md_findGrown_1 (A 0) (iI 0) (iI 0) (ov 40 A m1 σ)) := by
    refine up_loopI (fun k (_ : Unit) => L_Md_findGrown_1 (A 0) (bZ (anyN k (fun i => fitT b (LL d i)))) (iI (k : Int)) (ov 40 A m1 σ)) (fun _ _ => True) (fgP d b A σ m) (NL d) (fun k _ hk _ ih => ?_) (fun _ _ => ?_) 0 () (Nat.zero_le _) trivial
    · have ih := ih () trivial
      have e14 := hT1.2.2.2.1 k hk
      have r := q_Md_fits H k3 k4 (LL d k)
      show fgP d b A σ m (L_Md_findGrown_1 _ _ _ _)
      rw [anyN_s] at ih
      cases q : anyN k (fun i => fitT b (LL d i))
      · rw [q, Bool.false_or] at ih
        cases q2 : fitT b (LL d k)
        · rw [q2] at ih r
          rw [E_Md_findGrown_1]; simp (disch := omega) only [E_Md_findGrown_2, E_Md_findGrown_3, E_Md_findGrown_4, l_0, l_1, mK_0 H, mR_30 H, mK_14 H, mN_14 H, letT_eq, gd_true, bnd_some, aR_ov, aK_ov, aN_ov, okO_ov, aI_ov H.1, aL_ov H.1, sI_ov H.1, sL_ov H.1, sV_eq, sV_ne, sV_2, sW_eq, sW_ne, sW_1, iI_add, iI_sub, iI_mul, iI_neg, iI_lt, iI_eq, iI_cl, nI_iI, gd_in, bZ_0, bZ_1, bZ_eq, isB_bZ, isB_0, isB_1, nar_bZ, nar_0, nar_1, mw_ov, iI_s, iI_na, iI_nm, Int.toNat_natCast, Int.add_zero, Int.zero_add, Nat.reduceEqDiff, Nat.reduceAdd, Int.reduceAdd, Int.reduceNeg, Int.reduceSub, Int.reduceMul, Int.reduceLT, Int.reduceEq, Int.reduceToNat, reduceCtorEq, ↓reduceIte, hT1.1.2.2.2.2.2, e14, r]
          rw [if_pos (by omega)]
          exact ih
        · rw [q2] at ih r
          rw [E_Md_findGrown_1]; simp (disch := omega) only [E_Md_findGrown_2, E_Md_findGrown_3, E_Md_findGrown_4, l_0, l_1, mK_0 H, mR_30 H, mK_14 H, mN_14 H, letT_eq, gd_true, bnd_some, aR_ov, aK_ov, aN_ov, okO_ov, aI_ov H.1, aL_ov H.1, sI_ov H.1, sL_ov H.1, sV_eq, sV_ne, sV_2, sW_eq, sW_ne, sW_1, iI_add, iI_sub, iI_mul, iI_neg, iI_lt, iI_eq, iI_cl, nI_iI, gd_in, bZ_0, bZ_1, bZ_eq, isB_bZ, isB_0, isB_1, nar_bZ, nar_0, nar_1, mw_ov, iI_s, iI_na, iI_nm, Int.toNat_natCast, Int.add_zero, Int.zero_add, Nat.reduceEqDiff, Nat.reduceAdd, Int.reduceAdd, Int.reduceNeg, Int.reduceSub, Int.reduceMul, Int.reduceLT, Int.reduceEq, Int.reduceToNat, reduceCtorEq, ↓reduceIte, hT1.1.2.2.2.2.2, e14, r]
          rw [if_pos (by omega)]
          exact ih
      · rw [q, Bool.true_or] at ih
        rw [E_Md_findGrown_1]; simp (disch := omega) only [E_Md_findGrown_2, E_Md_findGrown_3, E_Md_findGrown_4, l_0, l_1, mK_0 H, mR_30 H, mK_14 H, mN_14 H, letT_eq, gd_true, bnd_some, aR_ov, aK_ov, aN_ov, okO_ov, aI_ov H.1, aL_ov H.1, sI_ov H.1, sL_ov H.1, sV_eq, sV_ne, sV_2, sW_eq, sW_ne, sW_1, iI_add, iI_sub, iI_mul, iI_neg, iI_lt, iI_eq, iI_cl, nI_iI, gd_in, bZ_0, bZ_1, bZ_eq, isB_bZ, isB_0, isB_1, nar_bZ, nar_0, nar_1, mw_ov, iI_s, iI_na, iI_nm, Int.toNat_natCast, Int.add_zero, Int.zero_add, Nat.reduceEqDiff, Nat.reduceAdd, Int.reduceAdd, Int.reduceNeg, Int.reduceSub, Int.reduceMul, Int.reduceLT, Int.reduceEq, Int.reduceToNat, reduceCtorEq, ↓reduceIte, hT1.1.2.2.2.2.2]
        rw [if_pos (by omega)]
        exact ih
    · show fgP d b A σ m (L_Md_findGrown_1 _ _ _ _)
      have hn := hb.1
      cases q : anyN (NL d) (fun i => fitT b (LL d i))
      · have no : ¬ gNo d b := fun z => by rw [(gNo_any hb).mpr z] at q; cases q
        have all : ∀ w, w < dW d → dMay d w = true → ∃ f, isFW b (lst d w) f := fun w hw hm => fw_ex fun z => no ⟨w, hw, hm, z⟩
        by_cases q0 : nT b = 0
        · refine ⟨m1, none, ?_, hK1, Or.inr ⟨all, fun y f t w hw hv => ?_, fun x hx => (by cases hx)⟩, fun x hx => (by cases hx)⟩
          · rw [E_Md_findGrown_1]
            simp (disch := omega) only [E_Md_findGrown_4, mK_0 H, okO_ov, gd_true, aI_ov H.1, hT1.1.2.2.2.2.2, hB1.1.1, iI_lt, l_0, bZ_0, ↓reduceIte, q0]
            rw [if_neg (by omega)]
            rfl
          · have := hv.2.1.2.1
            omega
        · have l5 : fgP d b A σ m (L_Md_findGrown_5 (A 0) (iI 1) (ov 40 A (sV m1 0 65 (iI (-1))) σ)) := by
            refine up_loopI (fun k mm => L_Md_findGrown_5 (A 0) (iI ((k + 1 : Nat) : Int)) (ov 40 A mm σ)) (fun k mm => f5 d b m (k + 1) mm) (fgP d b A σ m) 5 (fun k mm hk hI ih => Md_fg5 M0 all k mm hk hI ih) (fun mm hI => ?_) 0 _ (Nat.zero_le _) ⟨KM_V hK1 _ (by decide), Or.inl ⟨by simp (disch := decide) only [sV_eq, sW_eq, sV_ne, sW_ne, sV_2, sW_1, Nat.reduceEqDiff, ↓reduceIte], fun y' f t w h hw hv => by have := hv.2.2.2.1; omega⟩⟩
            obtain ⟨i1, ⟨i2, i3⟩ | ⟨x, i2, i3, i4, i5, i6⟩⟩ := hI
            · refine ⟨mm, none, ?_, i1, Or.inr ⟨all, fun y f t w hw hv => absurd hv (i3 y f t w (by have := hv.2.2.2.2.1; omega) hw), fun x hx => (by cases hx)⟩, fun x hx => (by cases hx)⟩
              show L_Md_findGrown_5 _ (iI 6) _ = _
              rw [E_Md_findGrown_5]
              simp (disch := omega) only [E_Md_findGrown_9, E_Md_findGrown_10, l_5, l_0, l_1, mK_0 H, okO_ov, gd_true, aI_ov H.1, i2, iI_lt, isB_0, Int.reduceLT, Int.reduceNeg, ↓reduceIte]
              rfl
            · refine ⟨mm, some x, ?_, i1, Or.inr i6, fun z hz => by cases hz; exact ⟨i2, i3, i4⟩⟩
              show L_Md_findGrown_5 _ (iI 6) _ = _
              rw [E_Md_findGrown_5]
              simp (disch := omega) only [E_Md_findGrown_9, E_Md_findGrown_10, l_5, l_0, l_1, mK_0 H, okO_ov, gd_true, aI_ov H.1, i3, iI_lt, isB_1, Int.reduceLT, ↓reduceIte]
              rw [if_neg (by omega)]
              rfl
          rw [E_Md_findGrown_1]
          simp (disch := omega) only [mK_0 H, okO_ov, gd_true, aI_ov H.1, sI_ov H.1, hT1.1.2.2.2.2.2, hB1.1.1, iI_lt, l_0, l_1, iI_neg, bZ_0, ↓reduceIte, iI_eq, letT_eq]
          rw [if_neg (by omega), if_neg (by omega)]
          exact l5
      · refine ⟨m1, none, ?_, hK1, Or.inl ⟨rfl, (gNo_any hb).mp q⟩, fun x hx => (by cases hx)⟩
        rw [E_Md_findGrown_1]
        simp (disch := omega) only [E_Md_findGrown_4, mK_0 H, okO_ov, gd_true, aI_ov H.1, hT1.1.2.2.2.2.2, iI_lt]
        rw [if_neg (by omega), if_neg (by decide)]
        rfl
  obtain ⟨m', o, e, p⟩ := l1
  refine ⟨m', o, ?_, p⟩
  unfold M_Md_findGrown
  rw [E_Md_findGrown_0]; simp (disch := omega) only [l_0, mK_0 H, letT_eq, gd_true, bnd_some, aR_ov, aK_ov, aN_ov, okO_ov, aI_ov H.1, aL_ov H.1, sI_ov H.1, sL_ov H.1, sV_eq, sV_ne, sV_2, sW_eq, sW_ne, sW_1, iI_add, iI_sub, iI_mul, iI_neg, iI_lt, iI_eq, iI_cl, nI_iI, gd_in, bZ_0, bZ_1, bZ_eq, isB_bZ, isB_0, isB_1, nar_bZ, nar_0, nar_1, mw_ov, iI_s, iI_na, iI_nm, Int.toNat_natCast, Int.add_zero, Int.zero_add, Nat.reduceEqDiff, Nat.reduceAdd, Int.reduceAdd, Int.reduceNeg, Int.reduceSub, Int.reduceMul, Int.reduceLT, Int.reduceEq, Int.reduceToNat, reduceCtorEq, ↓reduceIte, e1, e]
theorem m_grown {d : TD} {b : BD} {A : Nat → Nat} {σ : AM} {m : VM} (M : MS0 d b A σ m) {c : Int} (h1 : -2147483648 ≤ c) (h2 : c < 2147483648) : ∃ r : Int, Mf A σ m (M_Md_grown (A 0) (iI c) (ov 40 A m σ)) (iI r) ∧ (if 0 ≤ c ∧ c ≤ 2 then ∃ o, gQ d b o ∧ r = grA o c else r = -1) := by
  have M0 := MS0_K (KM_0 m) M
  have H := M.1
  have hw := q_Md_within (a := c) (l := 0) (h := 2) (ov 40 A (sV m 0 0 (iI 0)) σ) h1 h2 (by omega) (by omega) (by omega) (by omega)
  unfold M_Md_grown
  by_cases q : 0 ≤ c ∧ c ≤ 2
  · rw [decide_eq_true q] at hw
    obtain ⟨m', o, e, k, hq, hE⟩ := p_Md_findGrown M0
    refine ⟨grA o c, ⟨m', ?_, KM_t (KM_0 m) k⟩, by rw [if_pos q]; exact ⟨o, hq, rfl⟩⟩
    cases o with
    | none =>
      replace e : M_Md_findGrown (A 0) _ = some (bZ false, _) := e
      rw [E_Md_grown_0]; simp (disch := omega) only [E_Md_grown_1, E_Md_grown_2, l_0, l_1, l_2, mK_0 H, letT_eq, gd_true, bnd_some, aR_ov, aK_ov, aN_ov, okO_ov, aI_ov H.1, aL_ov H.1, sI_ov H.1, sL_ov H.1, sV_eq, sV_ne, sV_2, sW_eq, sW_ne, sW_1, iI_add, iI_sub, iI_mul, iI_neg, iI_lt, iI_eq, iI_cl, nI_iI, gd_in, bZ_0, bZ_1, bZ_eq, isB_bZ, isB_0, isB_1, nar_bZ, nar_0, nar_1, mw_ov, iI_s, iI_na, iI_nm, Int.toNat_natCast, Int.add_zero, Int.zero_add, Nat.reduceEqDiff, Nat.reduceAdd, Int.reduceAdd, Int.reduceNeg, Int.reduceSub, Int.reduceMul, Int.reduceLT, Int.reduceEq, Int.reduceToNat, reduceCtorEq, ↓reduceIte, hw, e]
      rfl
    | some x =>
      obtain ⟨a1, a2, a3⟩ := hE x rfl
      replace e : M_Md_findGrown (A 0) _ = some (bZ true, _) := e
      rw [E_Md_grown_0]; simp (disch := omega) only [E_Md_grown_1, E_Md_grown_2, l_0, l_1, l_2, mK_0 H, letT_eq, gd_true, bnd_some, aR_ov, aK_ov, aN_ov, okO_ov, aI_ov H.1, aL_ov H.1, sI_ov H.1, sL_ov H.1, sV_eq, sV_ne, sV_2, sW_eq, sW_ne, sW_1, iI_add, iI_sub, iI_mul, iI_neg, iI_lt, iI_eq, iI_cl, nI_iI, gd_in, bZ_0, bZ_1, bZ_eq, isB_bZ, isB_0, isB_1, nar_bZ, nar_0, nar_1, mw_ov, iI_s, iI_na, iI_nm, Int.toNat_natCast, Int.add_zero, Int.zero_add, Nat.reduceEqDiff, Nat.reduceAdd, Int.reduceAdd, Int.reduceNeg, Int.reduceSub, Int.reduceMul, Int.reduceLT, Int.reduceEq, Int.reduceToNat, reduceCtorEq, ↓reduceIte, hw, e, a1, a2, a3]
      unfold grA
      dsimp only
      by_cases z : c = 0
      · rw [if_pos z, if_pos z, mw_ov]
      · rw [if_neg z, if_neg z]
        by_cases z2 : c = 1
        · rw [if_pos z2, if_pos z2, mw_ov]
        · rw [if_neg z2, if_neg z2, mw_ov]
  · rw [decide_eq_false q] at hw
    refine ⟨-1, ⟨_, ?_, KM_0 m⟩, by rw [if_neg q]⟩
    rw [E_Md_grown_0]; simp (disch := omega) only [E_Md_grown_1, E_Md_grown_2, l_0, l_1, l_2, mK_0 H, letT_eq, gd_true, bnd_some, aR_ov, aK_ov, aN_ov, okO_ov, aI_ov H.1, aL_ov H.1, sI_ov H.1, sL_ov H.1, sV_eq, sV_ne, sV_2, sW_eq, sW_ne, sW_1, iI_add, iI_sub, iI_mul, iI_neg, iI_lt, iI_eq, iI_cl, nI_iI, gd_in, bZ_0, bZ_1, bZ_eq, isB_bZ, isB_0, isB_1, nar_bZ, nar_0, nar_1, mw_ov, iI_s, iI_na, iI_nm, Int.toNat_natCast, Int.add_zero, Int.zero_add, Nat.reduceEqDiff, Nat.reduceAdd, Int.reduceAdd, Int.reduceNeg, Int.reduceSub, Int.reduceMul, Int.reduceLT, Int.reduceEq, Int.reduceToNat, reduceCtorEq, ↓reduceIte, hw]
