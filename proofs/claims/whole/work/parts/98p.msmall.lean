/-! ===== smallest, same: the reference ===== -/
def msE (o : SR) (m : VM) : Prop := (o = none → m.1 0 60 = iI (-1)) ∧ ∀ x, o = some x → m.1 0 60 = iI (x.2.2 : Int) ∧ m.1 0 61 = iI (x.2.1 : Int) ∧ m.1 0 62 = iI (x.1 : Int)
theorem Md_fs2 {d : TD} {A : Nat → Nat} {σ : AM} (H : LM A σ) (hd : wfD d) {m : VM} (hT : MT d m) (yes no : Int64) {w : Nat} (h19 : ∀ s, s < sN d → m.1 19 s = iI (wtS (dg d w) s : Int)) : L_Md_findSmallest_2 (A 0) yes no (iI (w : Int)) (iI 0) (iI 1000) (iI 0) (ov 40 A m σ) = if gdW d yes no w = true then L_Md_findSmallest_7 (A 0) yes no (iI (w : Int)) (iI (bl d no w : Int)) (iI (suW d w : Int)) (iI 1) (ov 40 A m σ) else L_Md_findSmallest_7 (A 0) yes no (iI (w : Int)) (iI (bl d no w : Int)) (iI (suW d w : Int)) (iI 0) (ov 40 A m σ) := by
  have hN := sN_le hd
  have hp := sN_pos d
  refine up_loop (fun k => L_Md_findSmallest_2 (A 0) yes no (iI (w : Int)) (iI (blN d no w k : Int)) (iI (abN d yes w k : Int)) (iI (k : Int)) (ov 40 A m σ)) (sN d) _ (fun k hk ih => ?_) ?_ 0 (Nat.zero_le _)
  · have ih : L_Md_findSmallest_2 _ _ _ _ (iI ((if bt no k = true ∧ blN d no w k < wtS (dg d w) k then wtS (dg d w) k else blN d no w k : Nat) : Int)) (iI ((if bt yes k = true ∧ wtS (dg d w) k < abN d yes w k then wtS (dg d w) k else abN d yes w k : Nat) : Int)) _ _ = _ := ih
    have b1 := blN_le hd no w k
    have b2 := abN_le hd yes w k
    have b3 := wts_le hd w k
    have e19 := h19 k hk
    have r1 := q_Md_doesRing no (s := k) (by omega) (ov 40 A m σ)
    have r2 := q_Md_doesRing yes (s := k) (by omega) (ov 40 A m σ)
    -- the second half of a step
    have st4 : ∀ v : Int32, L_Md_findSmallest_4 (A 0) yes no (iI (w : Int)) (iI (abN d yes w k : Int)) (iI (k : Int)) v (ov 40 A m σ) = L_Md_findSmallest_2 (A 0) yes no (iI (w : Int)) v (iI ((if bt yes k = true ∧ wtS (dg d w) k < abN d yes w k then wtS (dg d w) k else abN d yes w k : Nat) : Int)) (iI ((k + 1 : Nat) : Int)) (ov 40 A m σ) := by
      intro v
      cases q : bt yes k
      · rw [q] at r2
        rw [if_neg (fun z => absurd z.1 (by decide)), E_Md_findSmallest_4]
        simp (disch := omega) only [E_Md_findSmallest_5, E_Md_findSmallest_6, bnd_some, r2, bZ_0, l_0, l_1, iI_add, iI_s, ↓reduceIte]
      · rw [q] at r2
        rw [E_Md_findSmallest_4]
        simp (disch := omega) only [E_Md_findSmallest_5, E_Md_findSmallest_6, bnd_some, r2, bZ_0, l_0, l_1, iI_add, iI_s, reduceCtorEq, ↓reduceIte, mK_0 H, mR_35 H, mK_19 H, mN_19 H, okO_ov, aR_ov, aN_ov, gd_true, gd_in, iI_cl, Int.toNat_natCast, aI_ov H.1, e19, iI_lt]
        by_cases c : wtS (dg d w) k < abN d yes w k
        · rw [if_pos (by omega), if_pos ⟨trivial, c⟩]
        · rw [if_neg (by omega), if_neg (fun z => c z.2)]
    show L_Md_findSmallest_2 _ _ _ _ _ _ _ _ = _
    cases q : bt no k
    · rw [q] at r1 ih
      rw [if_neg (fun z => absurd z.1 (by decide))] at ih
      rw [E_Md_findSmallest_2]
      simp (disch := omega) only [E_Md_findSmallest_3, mK_0 H, okO_ov, gd_true, bnd_some, q_Md_sets H hd hT, r1, bZ_0, l_0, iI_lt, ↓reduceIte, st4]
      rw [if_pos (by omega)]
      exact ih
    · rw [q] at r1 ih
      rw [E_Md_findSmallest_2]
      simp (disch := omega) only [E_Md_findSmallest_3, mK_0 H, mR_35 H, mK_19 H, mN_19 H, okO_ov, aR_ov, aN_ov, gd_true, gd_in, iI_cl, Int.toNat_natCast, aI_ov H.1, e19, bnd_some, q_Md_sets H hd hT, r1, bZ_0, l_0, iI_lt, reduceCtorEq, ↓reduceIte, st4]
      rw [if_pos (by omega)]
      by_cases c : blN d no w k < wtS (dg d w) k
      · rw [if_pos ⟨rfl, c⟩] at ih
        rw [if_pos (by omega)]
        exact ih
      · rw [if_neg (fun z => c z.2)] at ih
        rw [if_neg (by omega)]
        exact ih
  · have b1 := blN_le hd no w (sN d)
    have b2 := abN_le hd yes w (sN d)
    have e19 := h19 (sN d - 1) (by omega)
    have es : (sN d : Int) - 1 = ((sN d - 1 : Nat) : Int) := by omega
    show L_Md_findSmallest_2 _ _ _ _ _ _ _ _ = _
    rw [E_Md_findSmallest_2]
    simp (disch := omega) only [mK_0 H, mR_35 H, mK_19 H, mN_19 H, okO_ov, aR_ov, aN_ov, gd_true, gd_in, iI_cl, Int.toNat_natCast, aI_ov H.1, e19, bnd_some, q_Md_sets H hd hT, l_0, l_1, iI_sub, es, letT_eq, iI_add, iI_s, iI_lt]
    rw [if_neg (by omega)]
    unfold gdW bl suW
    by_cases c : blN d no w (sN d) + 1 ≤ abN d yes w (sN d)
    · rw [if_neg (by omega), decide_eq_true c, if_pos rfl]
    · rw [if_pos (by omega), decide_eq_false c, if_neg (by decide)]
theorem Md_fs7 {d : TD} {A : Nat → Nat} {σ : AM} (H : LM A σ) (hd : wfD d) {m : VM} (yes no : Int64) {w : Nat} (hw : w < 16384) {o : SR} (hE : msE o m) (hW : smW o) : ∃ m' : VM, (if gdW d yes no w = true then L_Md_findSmallest_7 (A 0) yes no (iI (w : Int)) (iI (bl d no w : Int)) (iI (suW d w : Int)) (iI 1) (ov 40 A m σ) else L_Md_findSmallest_7 (A 0) yes no (iI (w : Int)) (iI (bl d no w : Int)) (iI (suW d w : Int)) (iI 0) (ov 40 A m σ)) = L_Md_findSmallest_1 (A 0) yes no (iI ((w + 1 : Nat) : Int)) (ov 40 A (m') σ) ∧ KM m m' ∧ m'.2 = m.2 ∧ msE (if gdW d yes no w = true then smT o (suW d w, bl d no w + 1, w) else o) m' := by
  have hb : bl d no w ≤ 60 := blN_le hd no w (sN d)
  have hs : suW d w ≤ 60 := wts_le hd w _
  have wrE : msE (some (suW d w, bl d no w + 1, w)) (sV (sV (sV m 0 60 (iI (w : Int))) 0 61 (iI ((bl d no w + 1 : Nat) : Int))) 0 62 (iI (suW d w : Int))) := ⟨fun z => (by cases z), fun x hx => by cases hx; exact ⟨by simp (disch := decide) only [sV_eq, sW_eq, sV_ne, sW_ne, sV_2, sW_1, Nat.reduceEqDiff, ↓reduceIte], by simp (disch := decide) only [sV_eq, sW_eq, sV_ne, sW_ne, sV_2, sW_1, Nat.reduceEqDiff, ↓reduceIte], by simp (disch := decide) only [sV_eq, sW_eq, sV_ne, sW_ne, sV_2, sW_1, Nat.reduceEqDiff, ↓reduceIte]⟩⟩
  have wrK : KM m (sV (sV (sV m 0 60 (iI (w : Int))) 0 61 (iI ((bl d no w + 1 : Nat) : Int))) 0 62 (iI (suW d w : Int))) := KM_V (KM_V (KM_V (KM_r _) _ (by decide)) _ (by decide)) _ (by decide)
  have w1 : L_Md_findSmallest_10 (A 0) yes no (iI (w : Int)) (iI (bl d no w : Int)) (iI (suW d w : Int)) (iI 1) (iI 1) (ov 40 A m σ) = L_Md_findSmallest_1 (A 0) yes no (iI ((w + 1 : Nat) : Int)) (ov 40 A (sV (sV (sV m 0 60 (iI (w : Int))) 0 61 (iI ((bl d no w + 1 : Nat) : Int))) 0 62 (iI (suW d w : Int))) σ) := by
    rw [E_Md_findSmallest_10]
    simp (disch := omega) only [E_Md_findSmallest_11, mK_0 H, okO_ov, gd_true, letT_eq, sI_ov H.1, l_0, l_1, iI_eq, iI_add, iI_s, Int.reduceEq, ↓reduceIte]
  have w0 : ∀ g s : Int32, g = iI 0 ∨ s = iI 0 → L_Md_findSmallest_10 (A 0) yes no (iI (w : Int)) (iI (bl d no w : Int)) (iI (suW d w : Int)) g s (ov 40 A m σ) = L_Md_findSmallest_1 (A 0) yes no (iI ((w + 1 : Nat) : Int)) (ov 40 A m σ) := fun g s h => by
    rw [E_Md_findSmallest_10]
    simp only [E_Md_findSmallest_11, l_0, l_1, iI_add, iI_s]
    rcases h with h | h
    · rw [if_pos h]
    · by_cases z : g = iI 0
      · rw [if_pos z]
      · rw [if_neg z, if_pos h]
  by_cases c : gdW d yes no w = true
  · rw [if_pos c, if_pos c]
    cases o with
    | none =>
      have e60 := hE.1 rfl
      refine ⟨_, ?_, wrK, rfl, wrE⟩
      rw [E_Md_findSmallest_7]
      simp (disch := omega) only [E_Md_findSmallest_8, mK_0 H, okO_ov, gd_true, aI_ov H.1, e60, l_0, l_1, iI_lt]
      rw [if_pos (by omega)]
      exact w1
    | some y =>
      obtain ⟨e60, e61, e62⟩ := hE.2 y rfl
      obtain ⟨y1, y2, y3⟩ := hW y rfl
      by_cases c2 : suW d w < y.1 ∨ (suW d w = y.1 ∧ bl d no w + 1 < y.2.1)
      · refine ⟨_, ?_, wrK, rfl, by show msE (if suW d w < y.1 ∨ (suW d w = y.1 ∧ bl d no w + 1 < y.2.1) then some (suW d w, bl d no w + 1, w) else some y) _; rw [if_pos c2]; exact wrE⟩
        rw [E_Md_findSmallest_7]
        simp (disch := omega) only [E_Md_findSmallest_8, E_Md_findSmallest_9, mK_0 H, okO_ov, gd_true, aI_ov H.1, e60, e61, e62, l_0, l_1, iI_lt, iI_eq, iI_add, iI_s, w1]
        rw [if_neg (by omega)]
        by_cases c3 : suW d w < y.1
        · rw [if_pos (by omega)]
        · rw [if_neg (by omega), if_pos (by omega), if_pos (by omega)]
      · refine ⟨m, ?_, KM_r m, rfl, by show msE (if suW d w < y.1 ∨ (suW d w = y.1 ∧ bl d no w + 1 < y.2.1) then some (suW d w, bl d no w + 1, w) else some y) _; rw [if_neg c2]; exact hE⟩
        rw [E_Md_findSmallest_7]
        simp (disch := omega) only [E_Md_findSmallest_8, E_Md_findSmallest_9, mK_0 H, okO_ov, gd_true, aI_ov H.1, e60, e61, e62, l_0, l_1, iI_lt, iI_eq, iI_add, iI_s, w0 (iI 1) (iI 0) (Or.inr rfl)]
        rw [if_neg (by omega), if_neg (by omega)]
        by_cases c3 : suW d w = y.1
        · rw [if_pos (by omega), if_neg (by omega)]
        · rw [if_neg (by omega)]
  · rw [if_neg c, if_neg c]
    refine ⟨m, ?_, KM_r m, rfl, hE⟩
    rw [E_Md_findSmallest_7]
    simp (disch := omega) only [E_Md_findSmallest_8, E_Md_findSmallest_9, mK_0 H, okO_ov, gd_true, l_0, l_1, w0 (iI 0) (iI 1) (Or.inl rfl), w0 (iI 0) (iI 0) (Or.inl rfl), ite_self]
theorem p_Md_findSmallest {d : TD} {A : Nat → Nat} {σ : AM} (H : LM A σ) (hd : wfD d) {m : VM} (hT : MT d m) (yes no : Int64) : ∃ m' : VM, M_Md_findSmallest (A 0) yes no (ov 40 A m σ) = some (bZ (smF d yes no (dW d)).isSome, (ov 40 A (m') σ)) ∧ KM m m' ∧ msE (smF d yes no (dW d)) m' := by
  have hW := hd.2.2.2.2.2.2
  have lp : ∃ m' : VM, L_Md_findSmallest_1 (A 0) yes no (iI ((0 : Nat) : Int)) (ov 40 A (sV m 0 60 (iI (-1))) σ) = some (bZ (smF d yes no (dW d)).isSome, (ov 40 A (m') σ)) ∧ KM m m' ∧ msE (smF d yes no (dW d)) m' := by
    refine up_loopI (fun w mm => L_Md_findSmallest_1 (A 0) yes no (iI (w : Int)) (ov 40 A mm σ)) (fun w mm => KM m mm ∧ msE (smF d yes no w) mm) (fun X => ∃ m' : VM, X = some (bZ (smF d yes no (dW d)).isSome, (ov 40 A (m') σ)) ∧ KM m m' ∧ msE (smF d yes no (dW d)) m') (dW d) (fun w mm hw ⟨i1, i2⟩ ih => ?_) (fun mm ⟨i1, i2⟩ => ?_) 0 _ (Nat.zero_le _) ⟨KM_V (KM_r _) _ (by decide), ⟨fun _ => by simp (disch := decide) only [sV_eq, sW_eq, sV_ne, sW_ne, sV_2, sW_1, Nat.reduceEqDiff, ↓reduceIte], fun x hx => (by cases hx)⟩⟩
    · have hTm := MT_K i1 hT
      obtain ⟨m2, e2, k2, u2, v2⟩ := p_Md_unpacks H hd hTm.1.1 hTm.1.2.1 (w := w) (by omega)
      have hT2 := MT_K (OnW_KM k2) hTm
      have e3 := Md_fs2 H hd hT2 yes no v2
      have E2 : msE (smF d yes no w) m2 := ⟨fun z => by rw [k2.1 0 (by decide) (by decide)]; exact i2.1 z, fun x hx => by rw [k2.1 0 (by decide) (by decide)]; exact i2.2 x hx⟩
      obtain ⟨m3, e4, k3, _, E3⟩ := Md_fs7 H hd yes no (show w < 16384 by omega) E2 (smF_W hd yes no (show w ≤ dW d by omega))
      have ih := ih m3 ⟨KM_t i1 (KM_t (OnW_KM k2) k3), E3⟩
      show ∃ m' : VM, L_Md_findSmallest_1 _ _ _ _ _ = _ ∧ _
      rw [E_Md_findSmallest_1]
      simp (disch := omega) only [mK_0 H, okO_ov, gd_true, aI_ov H.1, hTm.1.2.2.2.2.1, iI_lt, bnd_some, e2, l_0, l_1000, e3]
      rw [if_pos (by omega), e4]
      exact ih
    · have hTm := MT_K i1 hT
      refine ⟨mm, ?_, i1, i2⟩
      show L_Md_findSmallest_1 _ _ _ _ _ = _
      cases ho : smF d yes no (dW d) with
      | none =>
        have e60 := i2.1 ho
        rw [E_Md_findSmallest_1]
        simp (disch := omega) only [E_Md_findSmallest_12, mK_0 H, okO_ov, gd_true, aI_ov H.1, hTm.1.2.2.2.2.1, e60, l_0, l_1, iI_lt, isB_0, isB_1]
        rw [if_neg (by omega), if_pos (by omega)]
        rfl
      | some y =>
        have e60 := (i2.2 y ho).1
        have hy := (smF_W hd yes no (Nat.le_refl _) y ho).2.2
        rw [E_Md_findSmallest_1]
        simp (disch := omega) only [E_Md_findSmallest_12, mK_0 H, okO_ov, gd_true, aI_ov H.1, hTm.1.2.2.2.2.1, e60, l_0, l_1, iI_lt, isB_0, isB_1]
        rw [if_neg (by omega), if_neg (by omega)]
        rfl
  obtain ⟨m', e, k⟩ := lp
  refine ⟨m', ?_, k⟩
  unfold M_Md_findSmallest
  rw [E_Md_findSmallest_0]
  simp (disch := omega) only [mK_0 H, okO_ov, gd_true, letT_eq, sI_ov H.1, l_0, l_1, iI_neg]
  exact (congrArg (mw _) e).trans (mw_ov _ _ _ _ _ _)
theorem p_findM {d : TD} {b : BD} {A : Nat → Nat} {σ : AM} {m : VM} (M : MS0 d b A σ m) : ∃ m' : VM, M_Md_findMust (A 0) (ov 40 A (sV m 0 0 (iI 0)) σ) = some ((), (ov 40 A (m') σ)) ∧ KM m m' ∧ MS0 d b A σ m' ∧ m'.2 0 40 = must b ∧ m'.2 0 41 = mustN b := by
  have M0 := MS0_K (KM_0 m) M
  obtain ⟨m1, e1, k1, k2, k3, k4⟩ := p_Md_findMust M0.1 M0.2.2.2.1 M0.2.2.2.2
  have hK1 : KM m m1 := KM_t (KM_0 m) ⟨fun j _ => by rw [k1], fun c _ => by rw [k1], fun c hc => k2 c (fun z => by subst z; revert hc; decide)⟩
  exact ⟨m1, e1, hK1, MS0_K hK1 M, k3, k4⟩
theorem m_smallest {d : TD} {b : BD} {A : Nat → Nat} {σ : AM} {m : VM} (M : MS0 d b A σ m) {c : Int} (h1 : -2147483648 ≤ c) (h2 : c < 2147483648) : Mf A σ m (M_Md_smallest (A 0) (iI c) (ov 40 A m σ)) (iI (smallS d b c)) := by
  have H := M.1
  have hd := M.2.1
  obtain ⟨m1, e1, k1, M1, f40, f41⟩ := p_findM M
  have hw := q_Md_within (a := c) (l := 0) (h := 2) (ov 40 A m1 σ) h1 h2 (by omega) (by omega) (by omega) (by omega)
  unfold M_Md_smallest smallS
  by_cases q : 0 ≤ c ∧ c ≤ 2
  · rw [decide_eq_true q] at hw
    obtain ⟨m2, e2, k2, E2⟩ := p_Md_findSmallest H hd M1.2.2.1 (must b) (mustN b)
    refine ⟨m2, ?_, KM_t k1 k2⟩
    rw [if_pos q]
    cases ho : smF d (must b) (mustN b) (dW d) with
    | none =>
      rw [ho] at e2
      replace e2 : M_Md_findSmallest _ _ _ _ = some (bZ false, _) := e2
      rw [E_Md_smallest_0]
      simp (disch := omega) only [E_Md_smallest_1, mK_0 H, okO_ov, gd_true, letT_eq, sI_ov H.1, l_0, l_1, l_2, iI_neg, e1, bnd_some, hw, bZ_0, reduceCtorEq, ↓reduceIte, aL_ov H.1, f40, f41, e2, mw_ov]
      rfl
    | some y =>
      rw [ho] at e2
      obtain ⟨e60, e61, e62⟩ := E2.2 y ho
      replace e2 : M_Md_findSmallest _ _ _ _ = some (bZ true, _) := e2
      rw [E_Md_smallest_0]
      simp (disch := omega) only [E_Md_smallest_2, mK_0 H, okO_ov, gd_true, letT_eq, sI_ov H.1, l_0, l_1, l_2, iI_neg, e1, bnd_some, hw, bZ_0, reduceCtorEq, ↓reduceIte, aL_ov H.1, aI_ov H.1, f40, f41, e2, e60, e61, e62, iI_eq]
      unfold smA
      dsimp only
      by_cases z : c = 0
      · rw [if_pos z, if_pos z, mw_ov]
      · rw [if_neg z, if_neg z]
        by_cases z2 : c = 1
        · rw [if_pos z2, if_pos z2, mw_ov]
        · rw [if_neg z2, if_neg z2, mw_ov]
  · rw [decide_eq_false q] at hw
    refine ⟨m1, ?_, k1⟩
    rw [if_neg q, E_Md_smallest_0]
    simp (disch := omega) only [E_Md_smallest_1, mK_0 H, okO_ov, gd_true, letT_eq, sI_ov H.1, l_0, l_1, l_2, iI_neg, e1, bnd_some, hw, bZ_0, ↓reduceIte, mw_ov]
theorem m_same {d : TD} {b : BD} {A : Nat → Nat} {σ : AM} {m : VM} (M : MS0 d b A σ m) {a c : Int} (h1 : -2147483648 ≤ a) (h2 : a < 2147483648) (h3 : -2147483648 ≤ c) (h4 : c < 2147483648) : Mf A σ m (M_Md_same (A 0) (iI a) (iI c) (ov 40 A m σ)) (iI (sameS d a c)) := by
  have M0 := MS0_K (KM_0 m) M
  have H := M.1
  have hd := M.2.1
  have hT := M0.2.2.1
  have hW := hd.2.2.2.2.2.2
  have hN := sN_le hd
  have hiw := q_Md_isWeights H hd hT h1 h2
  have hw := q_Md_within (a := c) (l := 0) (h := 2) (ov 40 A (sV m 0 0 (iI 0)) σ) h3 h4 (by omega) (by omega) (by omega) (by omega)
  unfold M_Md_same sameS
  by_cases q1 : 0 ≤ a ∧ a < (dW d : Int)
  · rw [decide_eq_true q1] at hiw
    by_cases q2 : 0 ≤ c ∧ c ≤ 2
    · rw [decide_eq_true q2] at hw
      rw [if_pos ⟨q1, q2⟩]
      obtain ⟨n, rfl⟩ := Int.eq_ofNat_of_zero_le q1.1
      have hn : n < dW d := by omega
      have e12 : m.2 12 n = lst d n := M.2.2.1.2.1 n hn
      obtain ⟨m2, e2, k2, E2⟩ := p_Md_findSmallest H hd hT (lst d n) (nnL d n)
      obtain ⟨y, hy⟩ := smF_some hn (gd_self hd n)
      obtain ⟨e60, e61, e62⟩ := E2.2 y hy
      have lp : L_Md_same_2 (A 0) (iI c) (lst d n) 0 (iI ((0 : Nat) : Int)) (ov 40 A (sV m 0 0 (iI 0)) σ) = some (iI (smA (smF d (lst d n) (nnL d n) (dW d)) c), (ov 40 A m2 σ)) := by
        refine up_loop (fun k => L_Md_same_2 (A 0) (iI c) (lst d n) (mkB k (fun s => !bt (lst d n) s)) (iI (k : Int)) (ov 40 A (sV m 0 0 (iI 0)) σ)) (sN d) _ (fun k hk ih => ?_) ?_ 0 (Nat.zero_le _)
        · have ih : L_Md_same_2 _ _ _ (if (!bt (lst d n) k) = true then mkB k (fun s => !bt (lst d n) s) ||| b1 k else mkB k (fun s => !bt (lst d n) s)) _ _ = _ := ih
          have r1 := q_Md_doesRing (lst d n) (s := k) (by omega) (ov 40 A (sV m 0 0 (iI 0)) σ)
          have hsb := shl_b1 (s := k) (by omega)
          show L_Md_same_2 _ _ _ _ _ _ = _
          cases z : bt (lst d n) k
          · rw [z] at r1 ih
            rw [if_pos (by decide)] at ih
            rw [E_Md_same_2]
            simp (disch := omega) only [E_Md_same_3, mK_0 H, okO_ov, gd_true, bnd_some, q_Md_sets H hd hT, r1, bZ_0, l_0, l_1, iI_lt, iI_add, iI_s, letT_eq, hsb, ↓reduceIte]
            rw [if_pos (by omega)]
            exact ih
          · rw [z] at r1 ih
            rw [if_neg (by decide)] at ih
            rw [E_Md_same_2]
            simp (disch := omega) only [E_Md_same_3, mK_0 H, okO_ov, gd_true, bnd_some, q_Md_sets H hd hT, r1, bZ_0, l_0, l_1, iI_lt, iI_add, iI_s, letT_eq, or0, reduceCtorEq, ↓reduceIte]
            rw [if_pos (by omega)]
            exact ih
        · show L_Md_same_2 _ _ _ (nnL d n) _ _ = _
          rw [E_Md_same_2]
          simp (disch := omega) only [E_Md_same_4, mK_0 H, okO_ov, gd_true, bnd_some, q_Md_sets H hd hT, l_0, l_1, iI_lt, iI_eq, e2, aI_ov H.1, e60, e61, e62]
          rw [if_neg (by omega), hy]
          unfold smA
          dsimp only
          by_cases z : c = 0
          · rw [if_pos z, if_pos z]
          · rw [if_neg z, if_neg z]
            by_cases z2 : c = 1
            · rw [if_pos z2, if_pos z2]
            · rw [if_neg z2, if_neg z2]
      replace lp : L_Md_same_2 (A 0) (iI c) (lst d n) 0 (iI 0) _ = _ := lp
      refine ⟨m2, ?_, KM_t (KM_0 m) k2⟩
      rw [E_Md_same_0]
      simp (disch := omega) only [mK_0 H, mR_27 H, mK_12 H, mN_12 H, okO_ov, aR_ov, aN_ov, gd_true, gd_in, iI_cl, Int.toNat_natCast, aL_ov H.1, sV_2, letT_eq, sI_ov H.1, l_0, l_1, l_2, hiw, hw, bnd_some, bZ_0, reduceCtorEq, ↓reduceIte, e12, lp, mw_ov]
    · rw [decide_eq_false q2] at hw
      refine ⟨_, ?_, KM_0 m⟩
      rw [if_neg (fun z => q2 z.2), E_Md_same_0]
      simp (disch := omega) only [E_Md_same_1, mK_0 H, okO_ov, gd_true, letT_eq, sI_ov H.1, l_0, l_1, l_2, iI_neg, hiw, hw, bnd_some, bZ_0, reduceCtorEq, ↓reduceIte, mw_ov]
  · rw [decide_eq_false q1] at hiw
    refine ⟨_, ?_, KM_0 m⟩
    rw [if_neg (fun z => q1 z.1), E_Md_same_0]
    simp (disch := omega) only [E_Md_same_1, mK_0 H, okO_ov, gd_true, letT_eq, sI_ov H.1, l_0, l_1, l_2, iI_neg, hiw, bnd_some, bZ_0, ↓reduceIte, mw_ov]
