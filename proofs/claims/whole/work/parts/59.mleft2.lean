theorem allN_mono {k n : Nat} {p : Nat → Bool} (h : k ≤ n) (hn : allN n p = true) : allN k p = true := allN_iff.mpr fun i hi => allN_iff.mp hn i (by omega)
theorem q_Md_fitsAll {A : Nat → Nat} {σ : AM} (H : LM A σ) {m : VM} {d : TD} {b : BD} (hd : wfD d) (hm : MT d m) (hb : wfB d b) (hB : MB b m) (h1 : m.2 0 40 = must b) (h2 : m.2 0 41 = mustN b) {x : Int64} (hx : low d x) : M_Md_fitsAll (A 0) x (ov 40 A m σ) = some (bZ (fitL b x), (ov 40 A m σ)) := by
  have hn := hb.2.1
  have h := up_loop (fun k => L_Md_fitsAll_1 (A 0) x (bZ (fitT b x && allN k (fun j => decide (cntS x (hS b j) = hN b j)))) (iI (k : Int)) (ov 40 A m σ)) (nH b) (some (bZ (fitL b x), (ov 40 A m σ))) (fun k hk ih => by
    have h42 : m.1 0 42 = iI (nH b : Int) := hB.1.2
    have h23 : m.1 23 k = iI (hS b k : Int) := hB.2.2.2.1 k (by omega)
    have h24 : m.1 24 k = iI (hN b k : Int) := hB.2.2.2.2 k (by omega)
    have hk8 := hb.2.2.2.2 k (by omega)
    have hc : cntS x (hS b k) ≤ 64 := cntN_le 64 _
    show L_Md_fitsAll_1 _ _ _ _ _ = _
    replace ih : L_Md_fitsAll_1 _ _ (bZ (fitT b x && (allN k (fun j => decide (cntS x (hS b j) = hN b j)) && decide (cntS x (hS b k) = hN b k)))) _ _ = _ := ih
    cases hq : (fitT b x && allN k (fun j => decide (cntS x (hS b j) = hN b j)))
    · rw [E_Md_fitsAll_1]; simp (disch := omega) only [E_Md_fitsAll_2, E_Md_fitsAll_3, l_0, l_1, mK_0 H, mR_43 H, mK_23 H, mN_23 H, mR_44 H, mK_24 H, mN_24 H, letT_eq, gd_true, bnd_some, aR_ov, aK_ov, aN_ov, okO_ov, aI_ov H.1, aL_ov H.1, sI_ov H.1, sL_ov H.1, sV_eq, sV_ne, sV_2, sW_eq, sW_ne, sW_1, iI_add, iI_sub, iI_mul, iI_neg, iI_lt, iI_eq, iI_cl, nI_iI, gd_in, bZ_0, bZ_1, bZ_eq, isB_bZ, isB_0, isB_1, nar_bZ, nar_0, nar_1, mw_ov, iI_s, iI_na, Int.toNat_natCast, Int.add_zero, Int.zero_add, Nat.reduceEqDiff, Nat.reduceAdd, Int.reduceAdd, Int.reduceNeg, Int.reduceSub, Int.reduceMul, Int.reduceLT, Int.reduceEq, Int.reduceToNat, reduceCtorEq, ↓reduceIte, h42, h23, h24]
      rw [if_pos (by omega)]
      have : fitL b x = false := by
        cases z : fitL b x
        · rfl
        · unfold fitL at z
          rw [Bool.and_eq_true] at z
          rw [z.1, allN_mono (Nat.le_of_lt hk) z.2] at hq; cases hq
      rw [this]
    · rw [E_Md_fitsAll_1]; simp (disch := omega) only [E_Md_fitsAll_2, E_Md_fitsAll_3, l_0, l_1, mK_0 H, mR_43 H, mK_23 H, mN_23 H, mR_44 H, mK_24 H, mN_24 H, letT_eq, gd_true, bnd_some, aR_ov, aK_ov, aN_ov, okO_ov, aI_ov H.1, aL_ov H.1, sI_ov H.1, sL_ov H.1, sV_eq, sV_ne, sV_2, sW_eq, sW_ne, sW_1, iI_add, iI_sub, iI_mul, iI_neg, iI_lt, iI_eq, iI_cl, nI_iI, gd_in, bZ_0, bZ_1, bZ_eq, isB_bZ, isB_0, isB_1, nar_bZ, nar_0, nar_1, mw_ov, iI_s, iI_na, Int.toNat_natCast, Int.add_zero, Int.zero_add, Nat.reduceEqDiff, Nat.reduceAdd, Int.reduceAdd, Int.reduceNeg, Int.reduceSub, Int.reduceMul, Int.reduceLT, Int.reduceEq, Int.reduceToNat, reduceCtorEq, ↓reduceIte, h42, h23, h24, q_Md_ringOfSize H hd hm hx hk8.1]
      rw [if_pos (by omega)]
      rw [← Bool.and_assoc, hq, Bool.true_and] at ih
      by_cases e : cntS x (hS b k) = hN b k
      · rw [if_pos (by omega)]; rw [decide_eq_true e] at ih; exact ih
      · rw [if_neg (by omega)]; rw [decide_eq_false e] at ih; exact ih) (by
    have h42 : m.1 0 42 = iI (nH b : Int) := hB.1.2
    show L_Md_fitsAll_1 _ _ _ _ _ = _
    rw [E_Md_fitsAll_1]; simp (disch := omega) only [E_Md_fitsAll_2, E_Md_fitsAll_3, l_0, l_1, mK_0 H, mR_43 H, mK_23 H, mN_23 H, mR_44 H, mK_24 H, mN_24 H, letT_eq, gd_true, bnd_some, aR_ov, aK_ov, aN_ov, okO_ov, aI_ov H.1, aL_ov H.1, sI_ov H.1, sL_ov H.1, sV_eq, sV_ne, sV_2, sW_eq, sW_ne, sW_1, iI_add, iI_sub, iI_mul, iI_neg, iI_lt, iI_eq, iI_cl, nI_iI, gd_in, bZ_0, bZ_1, bZ_eq, isB_bZ, isB_0, isB_1, nar_bZ, nar_0, nar_1, mw_ov, iI_s, iI_na, Int.toNat_natCast, Int.add_zero, Int.zero_add, Nat.reduceEqDiff, Nat.reduceAdd, Int.reduceAdd, Int.reduceNeg, Int.reduceSub, Int.reduceMul, Int.reduceLT, Int.reduceEq, Int.reduceToNat, reduceCtorEq, ↓reduceIte, h42]
    rw [if_neg (by omega)]; rfl) 0 (by omega)
  replace h : L_Md_fitsAll_1 _ _ (bZ (fitT b x && true)) (iI 0) _ = _ := h
  rw [Bool.and_true] at h
  unfold M_Md_fitsAll
  rw [E_Md_fitsAll_0]; simp (disch := omega) only [l_0, mK_0 H, letT_eq, gd_true, bnd_some, aR_ov, aK_ov, aN_ov, okO_ov, aI_ov H.1, aL_ov H.1, sI_ov H.1, sL_ov H.1, sV_eq, sV_ne, sV_2, sW_eq, sW_ne, sW_1, iI_add, iI_sub, iI_mul, iI_neg, iI_lt, iI_eq, iI_cl, nI_iI, gd_in, bZ_0, bZ_1, bZ_eq, isB_bZ, isB_0, isB_1, nar_bZ, nar_0, nar_1, mw_ov, iI_s, iI_na, Int.toNat_natCast, Int.add_zero, Int.zero_add, Nat.reduceEqDiff, Nat.reduceAdd, Int.reduceAdd, Int.reduceNeg, Int.reduceSub, Int.reduceMul, Int.reduceLT, Int.reduceEq, Int.reduceToNat, reduceCtorEq, ↓reduceIte, q_Md_fits H h1 h2]
  exact (congrArg (mw _) h).trans (mw_ov _ _ _ _ _ _)
def LeftM (d : TD) (b : BD) (m : VM) : Prop := m.2 0 40 = must b ∧ m.2 0 41 = mustN b ∧ m.1 0 46 = iI (nLf d b : Int) ∧ m.1 0 47 = iI (wLf d b : Int) ∧ Row (m.1 25) (lefts d b)
theorem p_Md_findLeft {A : Nat → Nat} {σ : AM} (H : LM A σ) {m : VM} {d : TD} {b : BD} (hd : wfD d) (hm : MT d m) (hb : wfB d b) (hB : MB b m) : ∃ m' : VM, M_Md_findLeft (A 0) (ov 40 A m σ) = some ((), (ov 40 A m' σ)) ∧ KM m m' ∧ LeftM d b m' := by
  obtain ⟨m0, e0, i1, i2, i3, i4⟩ := p_Md_findMust H hb hB
  have hW := hd.2.2.2.2.2.2
  have hN := NL_le d
  have k0 : KM m m0 := ⟨fun j _ => by rw [i1], fun c _ => by rw [i1], fun c hc => i2 c (by intro e; subst e; revert hc; decide)⟩
  have h := up_loopI (fun k m1 => L_Md_findLeft_1 (A 0) (iI (k : Int)) (ov 40 A m1 σ)) (fun k m1 => KM m m1 ∧ m1.2 0 40 = must b ∧ m1.2 0 41 = mustN b ∧ m1.1 0 46 = iI ((flt (fitK d b) k).length : Int) ∧ m1.1 0 47 = iI (sumN k (fun k => if fitK d b k = true then sh d k else 0) : Int) ∧ Row (m1.1 25) (flt (fitK d b) k)) (fun x => ∃ m' : VM, x = some ((), (ov 40 A m' σ)) ∧ KM m m' ∧ LeftM d b m') (NL d) (fun k m1 hk ⟨j1, j2, j3, j4, j5, j6⟩ ih => by
      have hT := MT_K j1 hm
      have hBk := MB_K j1 hB
      have h29 := hT.1.2.2.2.2.2
      have h14 : m1.2 14 k = LL d k := hT.2.2.2.1 k hk
      have h15 : m1.1 15 k = iI (sh d k : Int) := hT.2.2.2.2.1 k hk
      have hle := flt_le (fitK d b) k
      show ∃ m' : VM, L_Md_findLeft_1 _ _ _ = _ ∧ _
      have hf := q_Md_fitsAll H hd hT hb hBk j2 j3 (LL_low hd k)
      cases q : fitK d b k
      · rw [show fitL b (LL d k) = false from q] at hf
        rw [E_Md_findLeft_1]; simp (disch := omega) only [E_Md_findLeft_2, l_0, l_1, mK_0 H, mR_30 H, mK_14 H, mN_14 H, mR_31 H, mK_15 H, mN_15 H, mR_45 H, mK_25 H, mN_25 H, letT_eq, gd_true, bnd_some, aR_ov, aK_ov, aN_ov, okO_ov, aI_ov H.1, aL_ov H.1, sI_ov H.1, sL_ov H.1, sV_eq, sV_ne, sV_2, sW_eq, sW_ne, sW_1, iI_add, iI_sub, iI_mul, iI_neg, iI_lt, iI_eq, iI_cl, nI_iI, gd_in, bZ_0, bZ_1, bZ_eq, isB_bZ, isB_0, isB_1, nar_bZ, nar_0, nar_1, mw_ov, iI_s, iI_na, Int.toNat_natCast, Int.add_zero, Int.zero_add, Nat.reduceEqDiff, Nat.reduceAdd, Int.reduceAdd, Int.reduceNeg, Int.reduceSub, Int.reduceMul, Int.reduceLT, Int.reduceEq, Int.reduceToNat, reduceCtorEq, ↓reduceIte, h29, h14, hf]
        rw [if_pos (by omega)]
        refine ih m1 ⟨j1, j2, j3, ?_, ?_, ?_⟩
        · rw [flt_s, q, if_neg (by simp)]; exact j4
        · rw [sumN_s, q, if_neg (by simp)]; exact j5
        · rw [flt_s, q, if_neg (by simp)]; exact j6
      · rw [show fitL b (LL d k) = true from q] at hf
        rw [E_Md_findLeft_1]; simp (disch := omega) only [E_Md_findLeft_2, l_0, l_1, mK_0 H, mR_30 H, mK_14 H, mN_14 H, mR_31 H, mK_15 H, mN_15 H, mR_45 H, mK_25 H, mN_25 H, letT_eq, gd_true, bnd_some, aR_ov, aK_ov, aN_ov, okO_ov, aI_ov H.1, aL_ov H.1, sI_ov H.1, sL_ov H.1, sV_eq, sV_ne, sV_2, sW_eq, sW_ne, sW_1, iI_add, iI_sub, iI_mul, iI_neg, iI_lt, iI_eq, iI_cl, nI_iI, gd_in, bZ_0, bZ_1, bZ_eq, isB_bZ, isB_0, isB_1, nar_bZ, nar_0, nar_1, mw_ov, iI_s, iI_na, Int.toNat_natCast, Int.add_zero, Int.zero_add, Nat.reduceEqDiff, Nat.reduceAdd, Int.reduceAdd, Int.reduceNeg, Int.reduceSub, Int.reduceMul, Int.reduceLT, Int.reduceEq, Int.reduceToNat, reduceCtorEq, ↓reduceIte, h29, h14, h15, hf, j4, j5]
        rw [if_pos (by omega)]
        refine ih _ ⟨KM_V (KM_V (KM_A j1 _ _ (by decide)) _ (by decide)) _ (by decide), ?_, ?_, ?_, ?_, ?_⟩
        · simp only [sV_2]; exact j2
        · simp only [sV_2]; exact j3
        · simp (disch := decide) only [sV_eq, sW_eq, sV_ne, sW_ne, sV_2, sW_1, Nat.reduceEqDiff, ↓reduceIte]; rw [flt_s, q, if_pos rfl, List.length_append]; rfl
        · simp (disch := decide) only [sV_eq, sW_eq, sV_ne, sW_ne, sV_2, sW_1, Nat.reduceEqDiff, ↓reduceIte]; rw [sumN_s, q, if_pos rfl]
        · rw [flt_s, q, if_pos rfl]
          refine Row_app j6 fun i => ?_
          rw [sV_ne _ _ _ _ (by decide), sV_ne _ _ _ _ (by decide), sV_eq]) (fun m1 ⟨j1, j2, j3, j4, j5, j6⟩ => by
      have h29 := (MT_K j1 hm).1.2.2.2.2.2
      show ∃ m' : VM, L_Md_findLeft_1 _ _ _ = _ ∧ _
      rw [E_Md_findLeft_1]; simp (disch := omega) only [E_Md_findLeft_2, l_0, l_1, mK_0 H, mR_30 H, mK_14 H, mN_14 H, mR_31 H, mK_15 H, mN_15 H, mR_45 H, mK_25 H, mN_25 H, letT_eq, gd_true, bnd_some, aR_ov, aK_ov, aN_ov, okO_ov, aI_ov H.1, aL_ov H.1, sI_ov H.1, sL_ov H.1, sV_eq, sV_ne, sV_2, sW_eq, sW_ne, sW_1, iI_add, iI_sub, iI_mul, iI_neg, iI_lt, iI_eq, iI_cl, nI_iI, gd_in, bZ_0, bZ_1, bZ_eq, isB_bZ, isB_0, isB_1, nar_bZ, nar_0, nar_1, mw_ov, iI_s, iI_na, Int.toNat_natCast, Int.add_zero, Int.zero_add, Nat.reduceEqDiff, Nat.reduceAdd, Int.reduceAdd, Int.reduceNeg, Int.reduceSub, Int.reduceMul, Int.reduceLT, Int.reduceEq, Int.reduceToNat, reduceCtorEq, ↓reduceIte, h29]
      rw [if_neg (by omega)]
      exact ⟨m1, rfl, j1, j2, j3, j4, j5, j6⟩) 0 (sV (sV m0 0 46 (iI 0)) 0 47 (iI 0)) (by omega) ⟨KM_V (KM_V k0 _ (by decide)) _ (by decide), i3, i4, by simp (disch := decide) only [sV_eq, sW_eq, sV_ne, sW_ne, sV_2, sW_1, Nat.reduceEqDiff, ↓reduceIte]; rfl, by simp (disch := decide) only [sV_eq, sW_eq, sV_ne, sW_ne, sV_2, sW_1, Nat.reduceEqDiff, ↓reduceIte]; rfl, Row_nil _⟩
  obtain ⟨m', e, q⟩ := h
  refine ⟨m', ?_, q⟩
  unfold M_Md_findLeft
  rw [E_Md_findLeft_0]; simp (disch := omega) only [l_0, mK_0 H, letT_eq, gd_true, bnd_some, aR_ov, aK_ov, aN_ov, okO_ov, aI_ov H.1, aL_ov H.1, sI_ov H.1, sL_ov H.1, sV_eq, sV_ne, sV_2, sW_eq, sW_ne, sW_1, iI_add, iI_sub, iI_mul, iI_neg, iI_lt, iI_eq, iI_cl, nI_iI, gd_in, bZ_0, bZ_1, bZ_eq, isB_bZ, isB_0, isB_1, nar_bZ, nar_0, nar_1, mw_ov, iI_s, iI_na, Int.toNat_natCast, Int.add_zero, Int.zero_add, Nat.reduceEqDiff, Nat.reduceAdd, Int.reduceAdd, Int.reduceNeg, Int.reduceSub, Int.reduceMul, Int.reduceLT, Int.reduceEq, Int.reduceToNat, reduceCtorEq, ↓reduceIte, e0]
  exact (congrArg (mw _) e).trans (mw_ov _ _ _ _ _ _)
theorem flt_mem {p : Nat → Bool} {n i : Nat} (h : i < (flt p n).length) : (flt p n).getD i 0 < n ∧ p ((flt p n).getD i 0) = true := by
  have : (flt p n).getD i 0 ∈ flt p n := by rw [List.getD_eq_getElem?_getD, List.getElem?_eq_getElem h]; exact List.getElem_mem h
  unfold flt at this ⊢
  rw [List.mem_filter, List.mem_range] at this
  exact this
theorem lf_lt {d : TD} {b : BD} {i : Nat} (h : i < nLf d b) : lf d b i < NL d := (flt_mem h).1
theorem nLf_le (d : TD) (b : BD) : nLf d b ≤ NL d := flt_le _ _
theorem q_Md_ringCount {A : Nat → Nat} {σ : AM} (H : LM A σ) {m : VM} {d : TD} (hd : wfD d) (hm : MT d m) {x : Int64} (hx : low d x) : M_Md_ringCount (A 0) x (ov 40 A m σ) = some (iI (pcl x : Int), (ov 40 A m σ)) := by
  have hp := sN_le hd
  have h := up_loop (fun k => L_Md_ringCount_1 (A 0) x (iI (cntN k (bt x) : Int)) (iI (k : Int)) (ov 40 A m σ)) (sN d) (some (iI (pcl x : Int), (ov 40 A m σ))) (fun k hk ih => by
    have h64 : k < 64 := by omega
    show L_Md_ringCount_1 _ _ _ _ _ = _
    rw [E_Md_ringCount_1]; simp (disch := omega) only [E_Md_ringCount_2, l_0, l_1, mK_0 H, letT_eq, gd_true, bnd_some, aR_ov, aK_ov, aN_ov, okO_ov, aI_ov H.1, aL_ov H.1, sI_ov H.1, sL_ov H.1, sV_eq, sV_ne, sV_2, sW_eq, sW_ne, sW_1, iI_add, iI_sub, iI_mul, iI_neg, iI_lt, iI_eq, iI_cl, nI_iI, gd_in, bZ_0, bZ_1, bZ_eq, isB_bZ, isB_0, isB_1, nar_bZ, nar_0, nar_1, mw_ov, iI_s, iI_na, Int.toNat_natCast, Int.add_zero, Int.zero_add, Nat.reduceEqDiff, Nat.reduceAdd, Int.reduceAdd, Int.reduceNeg, Int.reduceSub, Int.reduceMul, Int.reduceLT, Int.reduceEq, Int.reduceToNat, reduceCtorEq, ↓reduceIte, q_Md_sets H hd hm, q_Md_doesRing x h64]
    rw [if_pos (by omega)]
    replace ih : L_Md_ringCount_1 _ _ _ _ _ = _ := ih
    rw [cntN_s] at ih
    cases q : bt x k
    · rw [q] at ih; exact ih
    · rw [q] at ih; exact ih) (by
    show L_Md_ringCount_1 _ _ _ _ _ = _
    rw [E_Md_ringCount_1]; simp (disch := omega) only [E_Md_ringCount_2, l_0, l_1, mK_0 H, letT_eq, gd_true, bnd_some, aR_ov, aK_ov, aN_ov, okO_ov, aI_ov H.1, aL_ov H.1, sI_ov H.1, sL_ov H.1, sV_eq, sV_ne, sV_2, sW_eq, sW_ne, sW_1, iI_add, iI_sub, iI_mul, iI_neg, iI_lt, iI_eq, iI_cl, nI_iI, gd_in, bZ_0, bZ_1, bZ_eq, isB_bZ, isB_0, isB_1, nar_bZ, nar_0, nar_1, mw_ov, iI_s, iI_na, Int.toNat_natCast, Int.add_zero, Int.zero_add, Nat.reduceEqDiff, Nat.reduceAdd, Int.reduceAdd, Int.reduceNeg, Int.reduceSub, Int.reduceMul, Int.reduceLT, Int.reduceEq, Int.reduceToNat, reduceCtorEq, ↓reduceIte, q_Md_sets H hd hm]
    rw [if_neg (by omega), pcl_low hd hx]) 0 (by omega)
  unfold M_Md_ringCount
  rw [E_Md_ringCount_0]
  exact (congrArg (mw _) h).trans (mw_ov _ _ _ _ _ _)
theorem q_Md_ringing1 {A : Nat → Nat} {σ : AM} (H : LM A σ) {m : VM} {d : TD} {b : BD} (hd : wfD d) (hm : MT d m) (hl : LeftM d b m) {s : Nat} (hs : s < 64) (k : Nat) (hk : k < nLf d b) (ih : L_Md_ringing_1 (A 0) (iI (s : Int)) (iI (cntN (k + 1) (fun i => bt (LL d (lf d b i)) s) : Int)) (iI ((k + 1 : Nat) : Int)) (ov 40 A m σ) = (some (iI (cntN (nLf d b) (fun i => bt (LL d (lf d b i)) s) : Int), (ov 40 A m σ)))) : L_Md_ringing_1 (A 0) (iI (s : Int)) (iI (cntN k (fun i => bt (LL d (lf d b i)) s) : Int)) (iI (k : Int)) (ov 40 A m σ) = (some (iI (cntN (nLf d b) (fun i => bt (LL d (lf d b i)) s) : Int), (ov 40 A m σ))) := by
  have hW := hd.2.2.2.2.2.2
  have hN := NL_le d
  have hL := nLf_le d b
  have h25 : m.1 25 k = iI (lf d b k : Int) := hl.2.2.2.2 k hk
  have hlt := lf_lt hk
  have h14 : m.2 14 (lf d b k) = LL d (lf d b k) := hm.2.2.2.1 _ hlt
  rw [E_Md_ringing_1]; simp (disch := omega) only [E_Md_ringing_2, l_0, l_1, mK_0 H, mR_30 H, mK_14 H, mN_14 H, mR_45 H, mK_25 H, mN_25 H, letT_eq, gd_true, bnd_some, aR_ov, aK_ov, aN_ov, okO_ov, aI_ov H.1, aL_ov H.1, sI_ov H.1, sL_ov H.1, sV_eq, sV_ne, sV_2, sW_eq, sW_ne, sW_1, iI_add, iI_sub, iI_mul, iI_neg, iI_lt, iI_eq, iI_cl, nI_iI, gd_in, bZ_0, bZ_1, bZ_eq, isB_bZ, isB_0, isB_1, nar_bZ, nar_0, nar_1, mw_ov, iI_s, iI_na, Int.toNat_natCast, Int.add_zero, Int.zero_add, Nat.reduceEqDiff, Nat.reduceAdd, Int.reduceAdd, Int.reduceNeg, Int.reduceSub, Int.reduceMul, Int.reduceLT, Int.reduceEq, Int.reduceToNat, reduceCtorEq, ↓reduceIte, hl.2.2.1, h25, h14, q_Md_doesRing (LL d (lf d b k)) hs]
  rw [if_pos (by omega)]
  rw [cntN_s] at ih
  cases q : bt (LL d (lf d b k)) s
  · rw [q] at ih; exact ih
  · rw [q] at ih; exact ih
theorem q_Md_ringing2 {A : Nat → Nat} {σ : AM} (H : LM A σ) {m : VM} {n : Nat} (hn : n < 2147483648) (h46 : m.1 0 46 = iI (n : Int)) (s acc : Int32) : L_Md_ringing_1 (A 0) s acc (iI (n : Int)) (ov 40 A m σ) = some (acc, (ov 40 A m σ)) := by
  rw [E_Md_ringing_1]
  simp (disch := omega) only [mK_0 H, okO_ov, gd_true, aI_ov H.1, h46, iI_lt]
  rw [if_neg (by omega)]
theorem q_Md_ringing {A : Nat → Nat} {σ : AM} (H : LM A σ) {m : VM} {d : TD} {b : BD} (hd : wfD d) (hm : MT d m) (hl : LeftM d b m) {s : Nat} (hs : s < 64) : M_Md_ringing (A 0) (iI (s : Int)) (ov 40 A m σ) = some (iI (cntN (nLf d b) (fun i => bt (LL d (lf d b i)) s) : Int), (ov 40 A m σ)) := by
  have hW := hd.2.2.2.2.2.2
  have hN := NL_le d
  have hL := nLf_le d b
  have h := up_loop (fun k => L_Md_ringing_1 (A 0) (iI (s : Int)) (iI (cntN k (fun i => bt (LL d (lf d b i)) s) : Int)) (iI (k : Int)) (ov 40 A m σ)) (nLf d b) (some (iI (cntN (nLf d b) (fun i => bt (LL d (lf d b i)) s) : Int), (ov 40 A m σ))) (fun k hk ih => q_Md_ringing1 H hd hm hl hs k hk ih) (q_Md_ringing2 H (by omega) hl.2.2.1 _ _) 0 (Nat.zero_le _)
  unfold M_Md_ringing
  rw [E_Md_ringing_0]
  simp only [l_0]
  exact (congrArg (mw _) h).trans (mw_ov _ _ _ _ _ _)
