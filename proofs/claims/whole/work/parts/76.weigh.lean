/-! ===== weights unpacked and sets weighed, the list of any weights ===== -/
theorem q_Tw_setsG {A : Nat → Nat} {σ : AM} (H : LC A σ) {m : VM} {T : Nat} (hT : T ≤ 6) (h7 : m.1 10 7 = iI (T : Int)) : M_Tw_sets (A 10) (ov 68 A m σ) = some (iI ((2 ^ T : Nat) : Int), (ov 68 A m σ)) := by
  unfold M_Tw_sets
  rw [E_Tw_sets_0]; simp (disch := omega) only [l_1, l_31, cK_10 H, letT_eq, gd_true, bnd_some, aR_ov, aK_ov, aN_ov, okO_ov, aI_ov H.1, aL_ov H.1, sI_ov H.1, sL_ov H.1, sV_eq, sV_ne, sV_2, sW_eq, sW_ne, sW_1, iI_add, iI_sub, iI_mul, iI_neg, iI_lt, iI_eq, iI_cl, nI_iI, gd_in, bZ_0, bZ_1, bZ_eq, isB_bZ, isB_0, isB_1, nar_bZ, nar_0, nar_1, mw_ov, iI_s, iI_na, iI_nm, Int.toNat_natCast, Int.add_zero, Int.zero_add, Nat.reduceEqDiff, Nat.reduceAdd, Int.reduceAdd, Int.reduceNeg, Int.reduceSub, Int.reduceMul, Int.reduceLT, Int.reduceEq, Int.reduceToNat, reduceCtorEq, ↓reduceIte, h7]
  rw [iI_shl1 (by omega)]
theorem p_Tw_spread {A : Nat → Nat} {σ : AM} (H : LC A σ) {m : VM} {d : TD} (hT : dT d ≤ 6) (hM : dM d ≤ 9) (h7 : m.1 10 7 = iI (dT d : Int)) (h8 : m.1 10 8 = iI (dM d : Int)) {c : Nat} (hc : c < 68) (hk : aK σ (A c) = 101) (hn : aN σ (A c) = 6) (hc10 : c ≠ 10) {w : Nat} (hw : w < 2147483648) : ∃ m' : VM, M_Tw_spread (A 10) (iI (w : Int)) (A c) (ov 68 A m σ) = some ((), (ov 68 A (m') σ)) ∧ (∀ a, a ≠ c → m'.1 a = m.1 a) ∧ m'.2 = m.2 ∧ ∀ t, t < dT d → m'.1 c t = iI (dg d w t : Int) := by
  have ho := okO_of hk
  have h := up_loopI (fun k m1 => L_Tw_spread_1 (A 10) (A c) (iI ((w / (dM d + 1) ^ k : Nat) : Int)) (iI ((dM d + 1 : Nat) : Int)) (iI (k : Int)) (ov 68 A m1 σ)) (fun k m1 => (∀ a, a ≠ c → m1.1 a = m.1 a) ∧ m1.2 = m.2 ∧ ∀ t, t < k → m1.1 c t = iI (dg d w t : Int)) (fun x => ∃ m' : VM, x = some ((), (ov 68 A (m') σ)) ∧ (∀ a, a ≠ c → m'.1 a = m.1 a) ∧ m'.2 = m.2 ∧ ∀ t, t < dT d → m'.1 c t = iI (dg d w t : Int)) (dT d) (fun k m1 hk1 hI ih => by
    obtain ⟨i1, i2, i3⟩ := hI
    have g7 : m1.1 10 7 = iI (dT d : Int) := by rw [i1 10 (fun z => hc10 z.symm)]; exact h7
    have hq : w / (dM d + 1) ^ k ≤ w := Nat.div_le_self _ _
    have hst := dg_step d w k hk1
    have hnx : w / (dM d + 1) ^ k / (dM d + 1) = w / (dM d + 1) ^ (k + 1) := by rw [Nat.div_div_eq_div_mul, Nat.pow_succ]
    show ∃ m' : VM, L_Tw_spread_1 _ _ _ _ _ _ = _ ∧ _
    replace ih : ∀ m2, ((∀ a, a ≠ c → m2.1 a = m.1 a) ∧ m2.2 = m.2 ∧ ∀ t, t < k + 1 → m2.1 c t = iI (dg d w t : Int)) → ∃ m' : VM, L_Tw_spread_1 (A 10) (A c) (iI ((w / (dM d + 1) ^ (k + 1) : Nat) : Int)) (iI ((dM d + 1 : Nat) : Int)) (iI ((k + 1 : Nat) : Int)) (ov 68 A m2 σ) = some ((), (ov 68 A (m') σ)) ∧ (∀ a, a ≠ c → m'.1 a = m.1 a) ∧ m'.2 = m.2 ∧ ∀ t, t < dT d → m'.1 c t = iI (dg d w t : Int) := ih
    rw [← hnx] at ih
    generalize w / (dM d + 1) ^ k = x at *
    have hdv := iI_div (a := x) (b := dM d + 1) (by omega) (by omega)
    have hmd := iI_mod (a := x) (b := dM d + 1) (by omega) (by omega)
    rw [hst] at hmd
    rw [E_Tw_spread_1]
    simp (disch := omega) only [cK_10 H, okO_ov, gd_true, aI_ov H.1, g7, iI_lt, ho, nI_iI, aN_ov, hn, nzI_iI, gd_in, letT_eq, hdv, hmd, iI_cl, Int.toNat_natCast, sI_ov H.1, l_1, iI_add, iI_s]
    rw [if_pos (by omega), if_pos (by omega)]
    refine ih _ ⟨fun a ha => by rw [sV_ne _ _ _ _ ha]; exact i1 a ha, i2, fun t ht => ?_⟩
    rw [sV_eq]
    by_cases e : t = k
    · rw [if_pos e, e]
    · rw [if_neg e]; exact i3 t (by omega)) (fun m1 hI => by
    obtain ⟨i1, i2, i3⟩ := hI
    have g7 : m1.1 10 7 = iI (dT d : Int) := by rw [i1 10 (fun z => hc10 z.symm)]; exact h7
    show ∃ m' : VM, L_Tw_spread_1 _ _ _ _ _ _ = _ ∧ _
    refine ⟨m1, ?_, i1, i2, i3⟩
    rw [E_Tw_spread_1]
    simp (disch := omega) only [cK_10 H, okO_ov, gd_true, aI_ov H.1, g7, iI_lt, E_Tw_spread_2]
    rw [if_neg (by omega)]) 0 m (Nat.zero_le _) ⟨fun _ _ => rfl, rfl, fun t ht => absurd ht (Nat.not_lt_zero t)⟩
  obtain ⟨m', e, q⟩ := h
  refine ⟨m', ?_, q⟩
  replace e : L_Tw_spread_1 (A 10) (A c) (iI ((w / 1 : Nat) : Int)) (iI ((dM d + 1 : Nat) : Int)) (iI 0) (ov 68 A m σ) = _ := e
  rw [Nat.div_one] at e
  have emx : mxI (iI (dM d : Int) + iI 1) (iI 1) = iI ((dM d + 1 : Nat) : Int) := by
    rw [iI_add, mxI_iI (by omega) (by omega) (by omega) (by omega), if_neg (by omega)]; rfl
  unfold M_Tw_spread
  rw [E_Tw_spread_0]
  simp (disch := omega) only [cK_10 H, okO_ov, gd_true, aI_ov H.1, h8, l_0, l_1, emx, letT_eq]
  exact (congrArg (mw _) e).trans (mw_ov _ _ _ _ _ _)
theorem bit_new {t r : Nat} (ht : t < 6) (hr : r < 2 ^ t) : 2 ^ t + r < 64 ∧ (2 ^ t + r).testBit t = true := by
  have : ∀ t : Fin 6, ∀ r : Fin 32, r.val < 2 ^ t.val → 2 ^ t.val + r.val < 64 ∧ (2 ^ t.val + r.val).testBit t.val = true := by decide +kernel
  have hp := pw6 ht
  exact this ⟨t, ht⟩ ⟨r, by omega⟩ hr
theorem Ls_weigh2 {A : Nat → Nat} {σ : AM} (H : LC A σ) {f : Nat → Nat} (hb : ∀ t, f t ≤ 100) {t : Nat} (ht : t < 6) (k : Nat) (hk : k < 2 ^ t) {m : VM} (h18 : m.1 18 t = iI (f t : Int)) (h19 : ∀ s, s < 2 ^ t + k → m.1 19 s = iI (wtS f s : Int)) : L_Ls_weigh_2 (A 17) (iI (t : Int)) (iI ((2 ^ t : Nat) : Int)) (iI (k : Int)) (ov 68 A m σ) = L_Ls_weigh_2 (A 17) (iI (t : Int)) (iI ((2 ^ t : Nat) : Int)) (iI ((k + 1 : Nat) : Int)) (ov 68 A (sV m 19 (2 ^ t + k) (iI (wtS f (2 ^ t + k) : Int))) σ) := by
  have hp := pw6 ht
  have hn := bit_new ht hk
  have e1 : wtS f (2 ^ t + k) = wtS f k + f t := by
    rw [wtS_clr f hn.1 ht hn.2, Nat.add_sub_cancel_left]
  have e2 := h19 k (by omega)
  have w1 := wtS_le hb k
  have w2 := hb t
  rw [e1]
  generalize 2 ^ t = u at *
  rw [E_Ls_weigh_2]; simp (disch := omega) only [l_1, cK_17 H, cR_17_1 H, cK_18 H, cN_18 H, cR_17_2 H, cK_19 H, cN_19 H, letT_eq, gd_true, bnd_some, aR_ov, aK_ov, aN_ov, okO_ov, aI_ov H.1, aL_ov H.1, sI_ov H.1, sL_ov H.1, sV_eq, sV_ne, sV_2, sW_eq, sW_ne, sW_1, iI_add, iI_sub, iI_mul, iI_neg, iI_lt, iI_eq, iI_cl, nI_iI, gd_in, bZ_0, bZ_1, bZ_eq, isB_bZ, isB_0, isB_1, nar_bZ, nar_0, nar_1, mw_ov, iI_s, iI_na, iI_nm, Int.toNat_natCast, Int.add_zero, Int.zero_add, Nat.reduceEqDiff, Nat.reduceAdd, Int.reduceAdd, Int.reduceNeg, Int.reduceSub, Int.reduceMul, Int.reduceLT, Int.reduceEq, Int.reduceToNat, reduceCtorEq, ↓reduceIte, h18, e2]
  rw [if_pos (by omega)]
theorem p_Ls_weigh {A : Nat → Nat} {σ : AM} (H : LC A σ) {m : VM} {d : TD} (hT : dT d ≤ 6) (hM : dM d ≤ 9) (h7 : m.1 10 7 = iI (dT d : Int)) (h8 : m.1 10 8 = iI (dM d : Int)) {w : Nat} (hw : w < 2147483648) : ∃ m' : VM, M_Ls_weigh (A 17) (iI (w : Int)) (ov 68 A m σ) = some ((), (ov 68 A (m') σ)) ∧ OnW m m' ∧ (∀ t, t < dT d → m'.1 18 t = iI (dg d w t : Int)) ∧ ∀ s, s < sN d → m'.1 19 s = iI (wtS (dg d w) s : Int) := by
  have hb : ∀ t, dg d w t ≤ 100 := fun t => by
    unfold dg; split
    · have := Nat.mod_lt (w / (dM d + 1) ^ t) (show 0 < dM d + 1 by omega); omega
    · omega
  obtain ⟨m0, e0, a1, a2, a3⟩ := p_Tw_spread H hT hM h7 h8 (c := 18) (by decide) (H.2.2.1 (18, 101) (by decide)) (cN_18 H) (by decide) hw
  have h := up_loopI (fun t m1 => L_Ls_weigh_1 (A 17) (iI (t : Int)) (ov 68 A m1 σ)) (fun t m1 => OnW m m1 ∧ (∀ t, t < dT d → m1.1 18 t = iI (dg d w t : Int)) ∧ ∀ s, s < 2 ^ t → m1.1 19 s = iI (wtS (dg d w) s : Int)) (fun x => ∃ m' : VM, x = some ((), (ov 68 A (m') σ)) ∧ OnW m m' ∧ (∀ t, t < dT d → m'.1 18 t = iI (dg d w t : Int)) ∧ ∀ s, s < sN d → m'.1 19 s = iI (wtS (dg d w) s : Int)) (dT d) (fun t m1 ht hI ih => by
    obtain ⟨i1, i2, i3⟩ := hI
    have g7 : m1.1 10 7 = iI (dT d : Int) := by rw [i1.1 10 (by decide) (by decide)]; exact h7
    have hp := pw6 (show t < 6 by omega)
    have h2 := up_loopI (fun k m2 => L_Ls_weigh_2 (A 17) (iI (t : Int)) (iI ((2 ^ t : Nat) : Int)) (iI (k : Int)) (ov 68 A m2 σ)) (fun k m2 => OnW m m2 ∧ (∀ t, t < dT d → m2.1 18 t = iI (dg d w t : Int)) ∧ ∀ s, s < 2 ^ t + k → m2.1 19 s = iI (wtS (dg d w) s : Int)) (fun x => ∃ m2 : VM, x = L_Ls_weigh_1 (A 17) (iI ((t + 1 : Nat) : Int)) (ov 68 A m2 σ) ∧ OnW m m2 ∧ (∀ t, t < dT d → m2.1 18 t = iI (dg d w t : Int)) ∧ ∀ s, s < 2 ^ (t + 1) → m2.1 19 s = iI (wtS (dg d w) s : Int)) (2 ^ t) (fun k m2 hk hJ ih2 => by
      obtain ⟨j1, j2, j3⟩ := hJ
      show ∃ m3 : VM, L_Ls_weigh_2 _ _ _ _ _ = _ ∧ _
      rw [Ls_weigh2 H hb (show t < 6 by omega) k hk (j2 t ht) j3]
      refine ih2 _ ⟨OnW_V j1 _ _ (Or.inr rfl), fun t' ht' => by rw [sV_ne _ _ _ _ (by decide)]; exact j2 t' ht', fun s hs => ?_⟩
      rw [sV_eq]
      by_cases e : s = 2 ^ t + k
      · rw [if_pos e, e]
      · rw [if_neg e]; exact j3 s (by omega)) (fun m2 hJ => by
      obtain ⟨j1, j2, j3⟩ := hJ
      show ∃ m3 : VM, L_Ls_weigh_2 _ _ _ _ _ = _ ∧ _
      refine ⟨m2, ?_, j1, j2, fun s hs => j3 s (by rw [Nat.pow_succ] at hs; omega)⟩
      rw [E_Ls_weigh_2]
      simp (disch := omega) only [iI_lt, l_1, iI_add]
      rw [if_neg (fun z => Int32.lt_irrefl z)]
      rfl) 0 m1 (Nat.zero_le _) ⟨i1, i2, fun s hs => i3 s (by omega)⟩
    obtain ⟨m2, k1, k2⟩ := h2
    show ∃ m' : VM, L_Ls_weigh_1 _ _ _ = _ ∧ _
    have e1 : L_Ls_weigh_1 (A 17) (iI (t : Int)) (ov 68 A m1 σ) = L_Ls_weigh_2 (A 17) (iI (t : Int)) (iI ((2 ^ t : Nat) : Int)) (iI ((0 : Nat) : Int)) (ov 68 A m1 σ) := by
      rw [E_Ls_weigh_1]
      simp (disch := omega) only [cK_17 H, cR_17_0 H, cK_10 H, okO_ov, aR_ov, gd_true, q_Tw_things (LTt H), bnd_some, g7, iI_lt, l_0, l_1, l_31, shl1N, letT_eq]
      rw [if_pos (by omega)]
      rfl
    rw [e1, k1]
    exact ih m2 k2) (fun m1 hI => by
    obtain ⟨i1, i2, i3⟩ := hI
    have g7 : m1.1 10 7 = iI (dT d : Int) := by rw [i1.1 10 (by decide) (by decide)]; exact h7
    show ∃ m' : VM, L_Ls_weigh_1 _ _ _ = _ ∧ _
    refine ⟨m1, ?_, i1, i2, i3⟩
    rw [E_Ls_weigh_1]
    simp (disch := omega) only [cK_17 H, cR_17_0 H, cK_10 H, okO_ov, aR_ov, gd_true, q_Tw_things (LTt H), bnd_some, g7, iI_lt]
    rw [if_neg (by omega)]) 0 (sV m0 19 0 (iI 0)) (Nat.zero_le _) ⟨OnW_V ⟨fun c h1 h2 => a1 c h1, a2⟩ _ _ (Or.inr rfl), fun t ht => by rw [sV_ne _ _ _ _ (by decide)]; exact a3 t ht, fun s hs => by
      obtain rfl : s = 0 := by simpa using hs
      rw [sV_eq, if_pos rfl]
      have : wtS (dg d w) 0 = 0 := by unfold wtS; simp only [Nat.zero_testBit, Bool.false_eq_true, if_false]; rfl
      rw [this]; rfl⟩
  obtain ⟨m', e, q⟩ := h
  refine ⟨m', ?_, q⟩
  replace e : L_Ls_weigh_1 (A 17) (iI 0) (ov 68 A (sV m0 19 0 (iI 0)) σ) = _ := e
  unfold M_Ls_weigh
  rw [E_Ls_weigh_0]; simp (disch := omega) only [l_0, cK_17 H, cR_17_0 H, cK_10 H, cR_17_1 H, cK_18 H, cN_18 H, cR_17_2 H, cK_19 H, cN_19 H, letT_eq, gd_true, bnd_some, aR_ov, aK_ov, aN_ov, okO_ov, aI_ov H.1, aL_ov H.1, sI_ov H.1, sL_ov H.1, sV_eq, sV_ne, sV_2, sW_eq, sW_ne, sW_1, iI_add, iI_sub, iI_mul, iI_neg, iI_lt, iI_eq, iI_cl, nI_iI, gd_in, bZ_0, bZ_1, bZ_eq, isB_bZ, isB_0, isB_1, nar_bZ, nar_0, nar_1, mw_ov, iI_s, iI_na, iI_nm, Int.toNat_natCast, Int.add_zero, Int.zero_add, Nat.reduceEqDiff, Nat.reduceAdd, Int.reduceAdd, Int.reduceNeg, Int.reduceSub, Int.reduceMul, Int.reduceLT, Int.reduceEq, Int.reduceToNat, reduceCtorEq, ↓reduceIte, e0]
  exact (congrArg (mw _) e).trans (mw_ov _ _ _ _ _ _)
theorem OnW_Ks {m m' : VM} (h : OnW m m') : Ks [0, 1, 2, 3, 4, 5, 10, 11, 12, 13, 14, 15] m m' := fun g hg => by
  refine ⟨fun q hq => ?_, fun c hc => ?_, fun q hq => by rw [h.2], fun c hc => by rw [h.2]⟩
  · have := (show ∀ g ∈ [0, 1, 2, 3, 4, 5, 10, 11, 12, 13, 14, 15], ∀ q ∈ gF g, q.1 ≠ 18 ∧ q.1 ≠ 19 by decide) g hg q hq
    rw [h.1 _ this.1 this.2]
  · have := (show ∀ g ∈ [0, 1, 2, 3, 4, 5, 10, 11, 12, 13, 14, 15], ∀ c ∈ gC g, c ≠ 18 ∧ c ≠ 19 by decide) g hg c hc
    exact h.1 _ this.1 this.2
theorem wts_le {d : TD} (hd : wfD d) (w s : Nat) : wtS (dg d w) s ≤ 60 := by
  have := wtS_le (f := dg d w) (c := 9) (fun t => by have := dg_lt hd w t; omega) s
  omega
theorem Ls_listOf1 {A : Nat → Nat} {σ : AM} (H : LC A σ) {m : VM} {d : TD} (hd : wfD d) (hT : CTw d m) {w : Nat} (h19 : ∀ s, s < sN d → m.1 19 s = iI (wtS (dg d w) s : Int)) : L_Ls_listOf_1 (A 17) 0 (iI 0) (ov 68 A m σ) = some (lst d w, (ov 68 A m σ)) := by
  have hN := sN_le hd
  have hB := hd.2.2.2.2.1
  exact up_loop (fun k => L_Ls_listOf_1 (A 17) (mkB k (ringsAt d w)) (iI (k : Int)) (ov 68 A m σ)) (sN d) (some (lst d w, (ov 68 A m σ))) (fun k hk ih => by
    have e1 := h19 k hk
    have w1 := wts_le hd w k
    have h64 : k < 64 := by omega
    show L_Ls_listOf_1 _ _ _ _ = _
    replace ih : L_Ls_listOf_1 _ (if ringsAt d w k = true then mkB k (ringsAt d w) ||| b1 k else mkB k (ringsAt d w)) _ _ = _ := ih
    rw [E_Ls_listOf_1]; simp (disch := omega) only [E_Ls_listOf_2, l_1, cK_17 H, cR_17_0 H, cK_10 H, cR_17_2 H, cK_19 H, cN_19 H, q_Tw_bar (LTt H), letT_eq, gd_true, bnd_some, aR_ov, aK_ov, aN_ov, okO_ov, aI_ov H.1, aL_ov H.1, sI_ov H.1, sL_ov H.1, sV_eq, sV_ne, sV_2, sW_eq, sW_ne, sW_1, iI_add, iI_sub, iI_mul, iI_neg, iI_lt, iI_eq, iI_cl, nI_iI, gd_in, bZ_0, bZ_1, bZ_eq, isB_bZ, isB_0, isB_1, nar_bZ, nar_0, nar_1, mw_ov, iI_s, iI_na, iI_nm, Int.toNat_natCast, Int.add_zero, Int.zero_add, Nat.reduceEqDiff, Nat.reduceAdd, Int.reduceAdd, Int.reduceNeg, Int.reduceSub, Int.reduceMul, Int.reduceLT, Int.reduceEq, Int.reduceToNat, reduceCtorEq, ↓reduceIte, q_Tw_sets H hd hT, hT.1.2.2.1, e1, shl_b1 h64]
    rw [if_pos (by omega)]
    by_cases c : dB d ≤ wtS (dg d w) k
    · rw [if_neg (by omega)]
      rw [if_pos (show ringsAt d w k = true from decide_eq_true c)] at ih
      exact ih
    · rw [if_pos (by omega)]
      rw [if_neg (show ¬ ringsAt d w k = true by unfold ringsAt; rw [decide_eq_false c]; decide)] at ih
      exact ih) (by
    show L_Ls_listOf_1 _ _ _ _ = _
    rw [E_Ls_listOf_1]
    simp (disch := omega) only [cK_17 H, cR_17_0 H, cK_10 H, okO_ov, aR_ov, gd_true, q_Tw_sets H hd hT, bnd_some, iI_lt]
    rw [if_neg (by omega)]
    rfl) 0 (Nat.zero_le _)
theorem p_Ls_listOf {A : Nat → Nat} {σ : AM} (H : LC A σ) {m : VM} {d : TD} (hd : wfD d) (hD : LD d A σ) (hT : CTw d m) {w : Nat} (hw : w < dW d) : ∃ m' : VM, M_Ls_listOf (A 17) (iI (w : Int)) (ov 68 A m σ) = some (lst d w, (ov 68 A (m') σ)) ∧ OnW m m' := by
  have hn := q_Ls_numberOf H hd hD hT hw
  have hW := hd.2.2.2.2.2.2
  have hN := NL_le d
  by_cases hm : dMay d w = true
  · rw [if_pos hm] at hn
    have hlt := num_lt hw hm
    have hat := q_Ls_at H hd hD hT hlt
    rw [LL_num hw hm] at hat
    refine ⟨m, ?_, OnW_r _⟩
    unfold M_Ls_listOf
    rw [E_Ls_listOf_0]
    simp (disch := omega) only [cK_17 H, okO_ov, gd_true, hn, bnd_some, l_0, iI_lt, hat]
    rw [if_neg (by omega), mw_ov]
  · rw [if_neg hm] at hn
    obtain ⟨m1, e1, j1, j2, j3⟩ := p_Ls_weigh H hd.1 hd.2.2.1 hT.1.1 hT.1.2.1 (w := w) (by omega)
    have hT1 : CTw d m1 := CTw_K (OnW_Ks j1 0 (by decide)) hT
    have hl := Ls_listOf1 H hd hT1 j3
    refine ⟨m1, ?_, j1⟩
    unfold M_Ls_listOf
    rw [E_Ls_listOf_0]
    simp (disch := omega) only [cK_17 H, okO_ov, gd_true, hn, bnd_some, l_0, iI_lt, e1, hl]
    rw [if_pos (by omega), mw_ov]
def listS (d : TD) (a : Int) : Int64 := if 0 ≤ a ∧ a < (dW d : Int) then lst d a.toNat else 0
theorem c_list {d : TD} {b : BD} {g z u : Nat} {A : Nat → Nat} {σ : AM} {m : VM} (C : CS0 d b g z u A σ m) {a : Int} (h1 : -2147483648 ≤ a) (h2 : a < 2147483648) : ∃ m' : VM, M_Bp_list (A 0) (iI a) (ov 68 A m σ) = some (listS d a, (ov 68 A (m') σ)) ∧ OnW m m' := by
  obtain ⟨H, hd, hD, _, hT, _⟩ := C
  have hw := q_Tw_hasWeights H hd hT h1 h2
  unfold M_Bp_list listS
  by_cases q : 0 ≤ a ∧ a < (dW d : Int)
  · rw [decide_eq_true q] at hw
    rw [if_pos q]
    obtain ⟨n, rfl⟩ := Int.eq_ofNat_of_zero_le q.1
    obtain ⟨m', e, j⟩ := p_Ls_listOf H hd hD hT (w := n) (by omega)
    refine ⟨m', ?_, j⟩
    rw [E_Bp_list_0]; simp (disch := omega) only [E_Bp_list_1, l_0, cK_0 H, cR_0_1 H, cK_10 H, cR_0_2 H, cK_17 H, letT_eq, gd_true, bnd_some, aR_ov, aK_ov, aN_ov, okO_ov, aI_ov H.1, aL_ov H.1, sI_ov H.1, sL_ov H.1, sV_eq, sV_ne, sV_2, sW_eq, sW_ne, sW_1, iI_add, iI_sub, iI_mul, iI_neg, iI_lt, iI_eq, iI_cl, nI_iI, gd_in, bZ_0, bZ_1, bZ_eq, isB_bZ, isB_0, isB_1, nar_bZ, nar_0, nar_1, mw_ov, iI_s, iI_na, iI_nm, Int.toNat_natCast, Int.add_zero, Int.zero_add, Nat.reduceEqDiff, Nat.reduceAdd, Int.reduceAdd, Int.reduceNeg, Int.reduceSub, Int.reduceMul, Int.reduceLT, Int.reduceEq, Int.reduceToNat, reduceCtorEq, ↓reduceIte, hw, e]
  · rw [decide_eq_false q] at hw
    rw [if_neg q]
    refine ⟨m, ?_, OnW_r _⟩
    rw [E_Bp_list_0]; simp (disch := omega) only [E_Bp_list_1, l_0, cK_0 H, cR_0_1 H, cK_10 H, cR_0_2 H, cK_17 H, letT_eq, gd_true, bnd_some, aR_ov, aK_ov, aN_ov, okO_ov, aI_ov H.1, aL_ov H.1, sI_ov H.1, sL_ov H.1, sV_eq, sV_ne, sV_2, sW_eq, sW_ne, sW_1, iI_add, iI_sub, iI_mul, iI_neg, iI_lt, iI_eq, iI_cl, nI_iI, gd_in, bZ_0, bZ_1, bZ_eq, isB_bZ, isB_0, isB_1, nar_bZ, nar_0, nar_1, mw_ov, iI_s, iI_na, iI_nm, Int.toNat_natCast, Int.add_zero, Int.zero_add, Nat.reduceEqDiff, Nat.reduceAdd, Int.reduceAdd, Int.reduceNeg, Int.reduceSub, Int.reduceMul, Int.reduceLT, Int.reduceEq, Int.reduceToNat, reduceCtorEq, ↓reduceIte, hw]
theorem m_list {d : TD} {b : BD} {A : Nat → Nat} {σ : AM} {m : VM} (M : MS0 d b A σ m) {a : Int} (h1 : -2147483648 ≤ a) (h2 : a < 2147483648) : Mf A σ m (M_Md_list (A 0) (iI a) (ov 40 A m σ)) (listS d a) := by
  obtain ⟨H, hd, hT, hb, hB⟩ := M
  have hw := q_Md_isWeights H hd (MT_K (KM_0 m) hT) h1 h2
  have hW := hd.2.2.2.2.2.2
  refine ⟨_, ?_, KM_0 m⟩
  unfold M_Md_list listS
  by_cases q : 0 ≤ a ∧ a < (dW d : Int)
  · rw [decide_eq_true q] at hw
    rw [if_pos q]
    obtain ⟨n, rfl⟩ := Int.eq_ofNat_of_zero_le q.1
    have e12 := hT.2.1 n (by omega)
    rw [E_Md_list_0]; simp (disch := omega) only [E_Md_list_1, l_0, mK_0 H, mR_27 H, mK_12 H, mN_12 H, letT_eq, gd_true, bnd_some, aR_ov, aK_ov, aN_ov, okO_ov, aI_ov H.1, aL_ov H.1, sI_ov H.1, sL_ov H.1, sV_eq, sV_ne, sV_2, sW_eq, sW_ne, sW_1, iI_add, iI_sub, iI_mul, iI_neg, iI_lt, iI_eq, iI_cl, nI_iI, gd_in, bZ_0, bZ_1, bZ_eq, isB_bZ, isB_0, isB_1, nar_bZ, nar_0, nar_1, mw_ov, iI_s, iI_na, iI_nm, Int.toNat_natCast, Int.add_zero, Int.zero_add, Nat.reduceEqDiff, Nat.reduceAdd, Int.reduceAdd, Int.reduceNeg, Int.reduceSub, Int.reduceMul, Int.reduceLT, Int.reduceEq, Int.reduceToNat, reduceCtorEq, ↓reduceIte, hw, e12]
  · rw [decide_eq_false q] at hw
    rw [if_neg q]
    rw [E_Md_list_0]; simp (disch := omega) only [E_Md_list_1, l_0, mK_0 H, mR_27 H, mK_12 H, mN_12 H, letT_eq, gd_true, bnd_some, aR_ov, aK_ov, aN_ov, okO_ov, aI_ov H.1, aL_ov H.1, sI_ov H.1, sL_ov H.1, sV_eq, sV_ne, sV_2, sW_eq, sW_ne, sW_1, iI_add, iI_sub, iI_mul, iI_neg, iI_lt, iI_eq, iI_cl, nI_iI, gd_in, bZ_0, bZ_1, bZ_eq, isB_bZ, isB_0, isB_1, nar_bZ, nar_0, nar_1, mw_ov, iI_s, iI_na, iI_nm, Int.toNat_natCast, Int.add_zero, Int.zero_add, Nat.reduceEqDiff, Nat.reduceAdd, Int.reduceAdd, Int.reduceNeg, Int.reduceSub, Int.reduceMul, Int.reduceLT, Int.reduceEq, Int.reduceToNat, reduceCtorEq, ↓reduceIte, hw]
