/-! ===== the reference: weights unpacked, what is left ===== -/
theorem bitOr {s t : Nat} (hs : s < 64) (ht : t < 6) : iI (s : Int) ||| (iI 1 <<< (iI (t : Int) &&& iI 31)) = iI ((s ||| 2 ^ t : Nat) : Int) := by
  have : ∀ t : Fin 6, ∀ s : Fin 64, iI (s.val : Int) ||| (iI 1 <<< (iI (t.val : Int) &&& iI 31)) = iI ((s.val ||| 2 ^ t.val : Nat) : Int) := by decide +kernel
  exact this ⟨t, ht⟩ ⟨s, hs⟩
theorem bitClr {s t : Nat} (hs : s < 64) (ht : t < 6) (h : s.testBit t = true) : iI (s : Int) &&& ((iI 1 <<< (iI (t : Int) &&& iI 31)) ^^^ iI (-1)) = iI ((s - 2 ^ t : Nat) : Int) := by
  have : ∀ t : Fin 6, ∀ s : Fin 64, s.val.testBit t.val = true → iI (s.val : Int) &&& ((iI 1 <<< (iI (t.val : Int) &&& iI 31)) ^^^ iI (-1)) = iI ((s.val - 2 ^ t.val : Nat) : Int) := by decide +kernel
  exact this ⟨t, ht⟩ ⟨s, hs⟩ h
theorem bitSwp {s a b : Nat} (hs : s < 64) (ha : a < 6) (hb : b < 6) (h1 : s.testBit a = true) (h2 : s.testBit b = false) : (iI (s : Int) &&& ((iI 1 <<< (iI (a : Int) &&& iI 31)) ^^^ iI (-1))) ||| (iI 1 <<< (iI (b : Int) &&& iI 31)) = iI ((swp s a b : Nat) : Int) := by
  have : ∀ a : Fin 6, ∀ b : Fin 6, ∀ s : Fin 64, s.val.testBit a.val = true → s.val.testBit b.val = false → (iI (s.val : Int) &&& ((iI 1 <<< (iI (a.val : Int) &&& iI 31)) ^^^ iI (-1))) ||| (iI 1 <<< (iI (b.val : Int) &&& iI 31)) = iI ((swp s.val a.val b.val : Nat) : Int) := by decide +kernel
  exact this ⟨a, ha⟩ ⟨b, hb⟩ ⟨s, hs⟩ h1 h2
theorem bit_some {s : Nat} (hs : s < 64) (h0 : s ≠ 0) : ∃ t, t < 6 ∧ s.testBit t = true := by
  have : ∀ s : Fin 64, s.val ≠ 0 → ∃ t : Fin 6, s.val.testBit t.val = true := by decide +kernel
  obtain ⟨t, ht⟩ := this ⟨s, hs⟩ h0
  exact ⟨t.val, t.isLt, ht⟩
theorem bit_clr {s t j : Nat} (hs : s < 64) (ht : t < 6) (hj : j < 6) (h : s.testBit t = true) : (s - 2 ^ t).testBit j = (s.testBit j && !decide (j = t)) ∧ s - 2 ^ t < s := by
  have : ∀ t : Fin 6, ∀ j : Fin 6, ∀ s : Fin 64, s.val.testBit t.val = true → (s.val - 2 ^ t.val).testBit j.val = (s.val.testBit j.val && !decide (j.val = t.val)) ∧ s.val - 2 ^ t.val < s.val := by decide +kernel
  exact this ⟨t, ht⟩ ⟨j, hj⟩ ⟨s, hs⟩ h
theorem bit_lt {d : TD} {s t : Nat} (hs : s < sN d) (h : s.testBit t = true) : t < dT d := by
  have h1 : 2 ^ t ≤ s := Nat.ge_two_pow_of_testBit h
  unfold sN at hs
  exact (Nat.pow_lt_pow_iff_right (by omega)).mp (Nat.lt_of_le_of_lt h1 hs)
theorem sum_one {n t : Nat} (ht : t < n) (f g : Nat → Nat) (h : ∀ i, i < n → i ≠ t → f i = g i) : sumN n f + g t = sumN n g + f t := by
  induction n with
  | zero => omega
  | succ n ih =>
    rw [sumN_s, sumN_s]
    by_cases e : t = n
    · subst e
      rw [sumN_congr (f := f) (g := g) fun i hi => h i (by omega) (by omega)]
      omega
    · have := ih (by omega) fun i hi => h i (by omega)
      have := h n (by omega) (fun z => e z.symm)
      omega
theorem wtS_clr (f : Nat → Nat) {s t : Nat} (hs : s < 64) (ht : t < 6) (h : s.testBit t = true) : wtS f s = wtS f (s - 2 ^ t) + f t := by
  unfold wtS
  have := sum_one (n := 6) (t := t) ht (fun t => if s.testBit t = true then f t else 0) (fun j => if (s - 2 ^ t).testBit j = true then f j else 0) (fun i hi hne => by
    show (if s.testBit i = true then f i else 0) = if (s - 2 ^ t).testBit i = true then f i else 0
    rw [(bit_clr hs ht hi h).1, decide_eq_false hne]; simp)
  simp only [h, (bit_clr hs ht ht h).1, decide_true, Bool.not_true, Bool.and_false, Bool.false_eq_true, if_true, if_false] at this
  omega
theorem wtS_le {f : Nat → Nat} {c : Nat} (h : ∀ t, f t ≤ c) (s : Nat) : wtS f s ≤ 6 * c := sumN_le fun i _ => by
  show (if s.testBit i = true then f i else 0) ≤ c
  have := h i
  split <;> omega
/-- only the rows of weights change -/
def OnW (m m' : VM) : Prop := (∀ c, c ≠ 18 → c ≠ 19 → m'.1 c = m.1 c) ∧ m'.2 = m.2
theorem OnW_r (m : VM) : OnW m m := ⟨fun _ _ _ => rfl, rfl⟩
theorem OnW_t {a b c : VM} (h : OnW a b) (k : OnW b c) : OnW a c := ⟨fun q h1 h2 => (k.1 q h1 h2).trans (h.1 q h1 h2), k.2.trans h.2⟩
theorem OnW_V {m m' : VM} (h : OnW m m') {c : Nat} (j : Nat) (v : Int32) (hc : c = 18 ∨ c = 19) : OnW m (sV m' c j v) := ⟨fun q h1 h2 => by rw [sV_ne _ _ _ _ (by omega)]; exact h.1 q h1 h2, h.2⟩
theorem OnW_KM {m m' : VM} (h : OnW m m') : KM m m' := ⟨fun j _ => by rw [h.1 0 (by decide) (by decide)], fun c hc => h.1 c (fun e => by subst e; revert hc; decide) (fun e => by subst e; revert hc; decide), fun c _ => by rw [h.2]⟩
theorem Md_weighs2 {A : Nat → Nat} {σ : AM} (H : LM A σ) {m : VM} {d : TD} (hd : wfD d) {f : Nat → Nat} (hf : ∀ t, t < dT d → m.1 18 t = iI (f t : Int)) (hb : ∀ t, f t ≤ 100) {s : Nat} (hs : s < sN d) (h0 : s ≠ 0) (hw : ∀ r, r < s → m.1 19 r = iI (wtS f r : Int)) : ∀ n t, t + n = 6 → (∀ j, j < t → s.testBit j = false) → L_Md_weighs_2 (A 0) (iI (s : Int)) (iI (t : Int)) (ov 40 A m σ) = L_Md_weighs_1 (A 0) (iI ((s + 1 : Nat) : Int)) (ov 40 A (sV m 19 s (iI (wtS f s : Int))) σ) := by
  have h64 : s < 64 := by have := sN_le hd; omega
  intro n
  induction n with
  | zero =>
    intro t ht hj
    obtain ⟨k, hk, hk2⟩ := bit_some h64 h0
    rw [hj k (by omega)] at hk2; cases hk2
  | succ n ih =>
    intro t ht hj
    have hb1 := bitI (s := s) (k := t) h64 (by omega)
    cases q : s.testBit t
    · rw [q] at hb1
      replace hb1 : (iI (s : Int) >>> (iI (t : Int) &&& iI 31)) &&& iI 1 = iI 0 := hb1
      rw [E_Md_weighs_2]; simp (disch := omega) only [l_0, l_1, l_31, mK_0 H, mR_34 H, mK_18 H, mN_18 H, mR_35 H, mK_19 H, mN_19 H, letT_eq, gd_true, bnd_some, aR_ov, aK_ov, aN_ov, okO_ov, aI_ov H.1, aL_ov H.1, sI_ov H.1, sL_ov H.1, sV_eq, sV_ne, sV_2, sW_eq, sW_ne, sW_1, iI_add, iI_sub, iI_mul, iI_neg, iI_lt, iI_eq, iI_cl, nI_iI, gd_in, bZ_0, bZ_1, bZ_eq, isB_bZ, isB_0, isB_1, nar_bZ, nar_0, nar_1, mw_ov, iI_s, iI_na, iI_nm, Int.toNat_natCast, Int.add_zero, Int.zero_add, Nat.reduceEqDiff, Nat.reduceAdd, Int.reduceAdd, Int.reduceNeg, Int.reduceSub, Int.reduceMul, Int.reduceLT, Int.reduceEq, Int.reduceToNat, reduceCtorEq, ↓reduceIte, hb1]
      exact ih (t + 1) (by omega) fun j hj2 => by
        by_cases e : j = t
        · rw [e]; exact q
        · exact hj j (by omega)
    · rw [q] at hb1
      replace hb1 : (iI (s : Int) >>> (iI (t : Int) &&& iI 31)) &&& iI 1 = iI 1 := hb1
      have htT := bit_lt hs q
      have hc := bit_clr h64 (by omega : t < 6) (by omega : t < 6) q
      have hb2 := bitClr h64 (by omega : t < 6) q
      have e1 := hf t htT
      have e2 := hw _ hc.2
      have w1 := wtS_le hb (s - 2 ^ t)
      have hb3 := hb t
      have hadd := wtS_clr f h64 (by omega : t < 6) q
      have hcl : ((s - 2 ^ t : Nat) : Int).toNat = s - 2 ^ t := rfl
      generalize s - 2 ^ t = r at *
      rw [hadd]
      rw [E_Md_weighs_2]; simp (disch := omega) only [l_0, l_1, l_31, mK_0 H, mR_34 H, mK_18 H, mN_18 H, mR_35 H, mK_19 H, mN_19 H, letT_eq, gd_true, bnd_some, aR_ov, aK_ov, aN_ov, okO_ov, aI_ov H.1, aL_ov H.1, sI_ov H.1, sL_ov H.1, sV_eq, sV_ne, sV_2, sW_eq, sW_ne, sW_1, iI_add, iI_sub, iI_mul, iI_neg, iI_lt, iI_eq, iI_cl, nI_iI, gd_in, bZ_0, bZ_1, bZ_eq, isB_bZ, isB_0, isB_1, nar_bZ, nar_0, nar_1, mw_ov, iI_s, iI_na, iI_nm, Int.toNat_natCast, Int.add_zero, Int.zero_add, Nat.reduceEqDiff, Nat.reduceAdd, Int.reduceAdd, Int.reduceNeg, Int.reduceSub, Int.reduceMul, Int.reduceLT, Int.reduceEq, Int.reduceToNat, reduceCtorEq, ↓reduceIte, hb1, hb2, e1, e2]
theorem p_Md_weighs {A : Nat → Nat} {σ : AM} (H : LM A σ) {m : VM} {d : TD} (hd : wfD d) (hT : m.1 0 10 = iI (dT d : Int)) {f : Nat → Nat} (hf : ∀ t, t < dT d → m.1 18 t = iI (f t : Int)) (hb : ∀ t, f t ≤ 100) : ∃ m' : VM, M_Md_weighs (A 0) (ov 40 A m σ) = some ((), (ov 40 A (m') σ)) ∧ (∀ c, c ≠ 19 → m'.1 c = m.1 c) ∧ m'.2 = m.2 ∧ ∀ s, s < sN d → m'.1 19 s = iI (wtS f s : Int) := by
  have hN := sN_le hd
  have hN0 := sN_pos d
  have hsets : ∀ m1 : VM, m1.1 0 10 = iI (dT d : Int) → M_Md_sets (A 0) (ov 40 A m1 σ) = some (iI (sN d : Int), (ov 40 A m1 σ)) := by
    intro m1 h1
    unfold M_Md_sets
    have := hd.1
    rw [E_Md_sets_0]; simp (disch := omega) only [l_1, l_31, mK_0 H, letT_eq, gd_true, bnd_some, aR_ov, aK_ov, aN_ov, okO_ov, aI_ov H.1, aL_ov H.1, sI_ov H.1, sL_ov H.1, sV_eq, sV_ne, sV_2, sW_eq, sW_ne, sW_1, iI_add, iI_sub, iI_mul, iI_neg, iI_lt, iI_eq, iI_cl, nI_iI, gd_in, bZ_0, bZ_1, bZ_eq, isB_bZ, isB_0, isB_1, nar_bZ, nar_0, nar_1, mw_ov, iI_s, iI_na, iI_nm, Int.toNat_natCast, Int.add_zero, Int.zero_add, Nat.reduceEqDiff, Nat.reduceAdd, Int.reduceAdd, Int.reduceNeg, Int.reduceSub, Int.reduceMul, Int.reduceLT, Int.reduceEq, Int.reduceToNat, reduceCtorEq, ↓reduceIte, h1]
    rw [iI_shl1 (by omega)]; rfl
  have h := up_loopI (fun k m1 => L_Md_weighs_1 (A 0) (iI ((k + 1 : Nat) : Int)) (ov 40 A m1 σ)) (fun k m1 => (∀ c, c ≠ 19 → m1.1 c = m.1 c) ∧ m1.2 = m.2 ∧ ∀ r, r < k + 1 → m1.1 19 r = iI (wtS f r : Int)) (fun x => ∃ m' : VM, x = some ((), (ov 40 A (m') σ)) ∧ (∀ c, c ≠ 19 → m'.1 c = m.1 c) ∧ m'.2 = m.2 ∧ ∀ s, s < sN d → m'.1 19 s = iI (wtS f s : Int)) (sN d - 1) (fun k m1 hk hI ih => by
    obtain ⟨i1, i2, i3⟩ := hI
    show ∃ m' : VM, L_Md_weighs_1 _ _ _ = _ ∧ _
    have hs := hsets m1 (by rw [i1 0 (by decide)]; exact hT)
    have h2 := Md_weighs2 H hd (f := f) (m := m1) (fun t ht => by rw [i1 18 (by decide)]; exact hf t ht) hb (s := k + 1) (by omega) (by omega) i3 6 0 rfl (fun j hj => absurd hj (Nat.not_lt_zero j))
    rw [E_Md_weighs_1]
    simp (disch := omega) only [mK_0 H, okO_ov, gd_true, hs, bnd_some, iI_lt, l_0]
    rw [if_pos (by omega)]
    rw [show (iI 0 : Int32) = iI ((0 : Nat) : Int) from rfl, h2]
    refine ih _ ⟨fun c hc => ?_, ?_, fun r hr => ?_⟩
    · rw [sV_ne _ _ _ _ hc]; exact i1 c hc
    · exact i2
    · rw [sV_eq]
      by_cases e : r = k + 1
      · rw [if_pos e, e]
      · rw [if_neg e]; exact i3 r (by omega)) (fun m1 hI => by
    obtain ⟨i1, i2, i3⟩ := hI
    show ∃ m' : VM, L_Md_weighs_1 _ _ _ = _ ∧ _
    have hs := hsets m1 (by rw [i1 0 (by decide)]; exact hT)
    refine ⟨m1, ?_, i1, i2, fun s hs => i3 s (by omega)⟩
    rw [E_Md_weighs_1]
    simp (disch := omega) only [mK_0 H, okO_ov, gd_true, hs, bnd_some, iI_lt]
    rw [if_neg (by omega)]) 0 (sV m 19 0 (iI 0)) (Nat.zero_le _) ⟨fun c hc => by rw [sV_ne _ _ _ _ hc], rfl, fun r hr => by
      obtain rfl : r = 0 := by omega
      rw [sV_eq, if_pos rfl]
      have : wtS f 0 = 0 := by unfold wtS; simp only [Nat.zero_testBit, Bool.false_eq_true, if_false]; rfl
      rw [this]; rfl⟩
  obtain ⟨m', e, q⟩ := h
  refine ⟨m', ?_, q⟩
  unfold M_Md_weighs
  rw [E_Md_weighs_0]; simp (disch := omega) only [l_0, l_1, mK_0 H, mR_35 H, mK_19 H, mN_19 H, letT_eq, gd_true, bnd_some, aR_ov, aK_ov, aN_ov, okO_ov, aI_ov H.1, aL_ov H.1, sI_ov H.1, sL_ov H.1, sV_eq, sV_ne, sV_2, sW_eq, sW_ne, sW_1, iI_add, iI_sub, iI_mul, iI_neg, iI_lt, iI_eq, iI_cl, nI_iI, gd_in, bZ_0, bZ_1, bZ_eq, isB_bZ, isB_0, isB_1, nar_bZ, nar_0, nar_1, mw_ov, iI_s, iI_na, iI_nm, Int.toNat_natCast, Int.add_zero, Int.zero_add, Nat.reduceEqDiff, Nat.reduceAdd, Int.reduceAdd, Int.reduceNeg, Int.reduceSub, Int.reduceMul, Int.reduceLT, Int.reduceEq, Int.reduceToNat, reduceCtorEq, ↓reduceIte]
  exact (congrArg (mw _) e).trans (mw_ov _ _ _ _ _ _)
theorem dg_step (d : TD) (w t : Nat) (ht : t < dT d) : w / (dM d + 1) ^ t % (dM d + 1) = dg d w t := by unfold dg; rw [if_pos ht]
theorem p_Md_unpacks {A : Nat → Nat} {σ : AM} (H : LM A σ) {m : VM} {d : TD} (hd : wfD d) (hT : m.1 0 10 = iI (dT d : Int)) (hM : m.1 0 11 = iI (dM d : Int)) {w : Nat} (hw : w < 2147483648) : ∃ m' : VM, M_Md_unpacks (A 0) (iI (w : Int)) (ov 40 A m σ) = some ((), (ov 40 A (m') σ)) ∧ OnW m m' ∧ (∀ t, t < dT d → m'.1 18 t = iI (dg d w t : Int)) ∧ ∀ s, s < sN d → m'.1 19 s = iI (wtS (dg d w) s : Int) := by
  have hT6 := hd.1
  have hM9 := hd.2.2.1
  have h := up_loopI (fun k m1 => L_Md_unpacks_1 (A 0) (iI ((w / (dM d + 1) ^ k : Nat) : Int)) (iI (k : Int)) (ov 40 A m1 σ)) (fun k m1 => OnW m m1 ∧ ∀ t, t < k → m1.1 18 t = iI (dg d w t : Int)) (fun x => ∃ m' : VM, x = some ((), (ov 40 A (m') σ)) ∧ OnW m m' ∧ (∀ t, t < dT d → m'.1 18 t = iI (dg d w t : Int)) ∧ ∀ s, s < sN d → m'.1 19 s = iI (wtS (dg d w) s : Int)) (dT d) (fun k m1 hk hI ih => by
    obtain ⟨i1, i2⟩ := hI
    have h10 : m1.1 0 10 = iI (dT d : Int) := by rw [i1.1 0 (by decide) (by decide)]; exact hT
    have h11 : m1.1 0 11 = iI (dM d : Int) := by rw [i1.1 0 (by decide) (by decide)]; exact hM
    have hq : w / (dM d + 1) ^ k ≤ w := Nat.div_le_self _ _
    have hst := dg_step d w k hk
    have hnx : w / (dM d + 1) ^ k / (dM d + 1) = w / (dM d + 1) ^ (k + 1) := by rw [Nat.div_div_eq_div_mul, Nat.pow_succ]
    show ∃ m' : VM, L_Md_unpacks_1 _ _ _ _ = _ ∧ _
    replace ih : ∀ m2, (OnW m m2 ∧ ∀ t, t < k + 1 → m2.1 18 t = iI (dg d w t : Int)) → ∃ m' : VM, L_Md_unpacks_1 (A 0) (iI ((w / (dM d + 1) ^ (k + 1) : Nat) : Int)) (iI ((k + 1 : Nat) : Int)) (ov 40 A m2 σ) = some ((), (ov 40 A (m') σ)) ∧ OnW m m' ∧ (∀ t, t < dT d → m'.1 18 t = iI (dg d w t : Int)) ∧ ∀ s, s < sN d → m'.1 19 s = iI (wtS (dg d w) s : Int) := ih
    rw [← hnx] at ih
    generalize w / (dM d + 1) ^ k = x at *
    have hdv := iI_div (a := x) (b := dM d + 1) (by omega) (by omega)
    have hmd := iI_mod (a := x) (b := dM d + 1) (by omega) (by omega)
    rw [hst] at hmd
    rw [E_Md_unpacks_1]
    simp (disch := omega) only [mK_0 H, okO_ov, gd_true, aI_ov H.1, h10, h11, iI_lt, aR_ov, mR_34 H, mK_18 H, mN_18 H, aN_ov, l_1, iI_add, iI_s, iI_na, nzI_iI, gd_in, letT_eq, hdv, hmd, iI_cl, Int.toNat_natCast, sI_ov H.1, sV_ne, ↓reduceIte]
    rw [if_pos (by omega)]
    refine ih _ ⟨OnW_V i1 _ _ (Or.inl rfl), fun t ht => ?_⟩
    rw [sV_eq]
    by_cases e : t = k
    · rw [if_pos e, e]
    · rw [if_neg e]; exact i2 t (by omega)) (fun m1 hI => by
    obtain ⟨i1, i2⟩ := hI
    have h10 : m1.1 0 10 = iI (dT d : Int) := by rw [i1.1 0 (by decide) (by decide)]; exact hT
    obtain ⟨m2, e2, j1, j2, j3⟩ := p_Md_weighs H hd h10 (f := dg d w) i2 (fun t => by have := dg_lt hd w t; omega)
    show ∃ m' : VM, L_Md_unpacks_1 _ _ _ _ = _ ∧ _
    refine ⟨m2, ?_, ⟨fun c h1 h2 => (j1 c h2).trans (i1.1 c h1 h2), j2.trans i1.2⟩, fun t ht => by rw [j1 18 (by decide)]; exact i2 t ht, j3⟩
    rw [E_Md_unpacks_1]
    simp (disch := omega) only [mK_0 H, okO_ov, gd_true, aI_ov H.1, h10, iI_lt, e2, bnd_some]
    rw [if_neg (by omega)]) 0 m (Nat.zero_le _) ⟨OnW_r _, fun t ht => absurd ht (Nat.not_lt_zero t)⟩
  obtain ⟨m', e, q⟩ := h
  refine ⟨m', ?_, q⟩
  replace e : L_Md_unpacks_1 (A 0) (iI ((w / 1 : Nat) : Int)) (iI 0) (ov 40 A m σ) = _ := e
  rw [Nat.div_one] at e
  unfold M_Md_unpacks
  rw [E_Md_unpacks_0]
  simp only [l_0]
  exact (congrArg (mw _) e).trans (mw_ov _ _ _ _ _ _)
/-! what is left -/
def MS0 (d : TD) (b : BD) (A : Nat → Nat) (σ : AM) (m : VM) : Prop := LM A σ ∧ wfD d ∧ MT d m ∧ wfB d b ∧ MB b m
theorem MS0_K {d : TD} {b : BD} {A : Nat → Nat} {σ : AM} {m m' : VM} (h : KM m m') (M : MS0 d b A σ m) : MS0 d b A σ m' := ⟨M.1, M.2.1, MT_K h M.2.2.1, M.2.2.2.1, MB_K h M.2.2.2.2⟩
def Mf (A : Nat → Nat) (σ : AM) (m : VM) {ρ : Type} (x : Option (ρ × AM)) (r : ρ) : Prop := ∃ m' : VM, x = some (r, (ov 40 A (m') σ)) ∧ KM m m'
theorem KM_0 (m : VM) : KM m (sV m 0 0 (iI 0)) := KM_V (KM_r m) _ (by decide)
theorem p_findL {d : TD} {b : BD} {A : Nat → Nat} {σ : AM} {m : VM} (M : MS0 d b A σ m) : ∃ m' : VM, M_Md_findLeft (A 0) (ov 40 A (sV m 0 0 (iI 0)) σ) = some ((), (ov 40 A (m') σ)) ∧ KM m m' ∧ LeftM d b m' ∧ MS0 d b A σ m' := by
  have M1 := MS0_K (KM_0 m) M
  obtain ⟨m', e, k, l⟩ := p_Md_findLeft M1.1 M1.2.1 M1.2.2.1 M1.2.2.2.1 M1.2.2.2.2
  exact ⟨m', e, KM_t (KM_0 m) k, l, MS0_K k M1⟩
theorem q_Md_isLeft {d : TD} {b : BD} {A : Nat → Nat} {σ : AM} {m : VM} (M : MS0 d b A σ m) (h1 : m.2 0 40 = must b) (h2 : m.2 0 41 = mustN b) {w : Nat} (hw : w < dW d) : M_Md_isLeft (A 0) (iI (w : Int)) (ov 40 A m σ) = some (bZ (lfW d b w), (ov 40 A m σ)) := by
  obtain ⟨H, hd, hT, hb, hB⟩ := M
  have hW := hd.2.2.2.2.2.2
  have hf := q_Md_fitsAll H hd hT hb hB h1 h2 (lst_low hd w)
  have e12 := hT.2.1 w hw
  have e13 := hT.2.2.1 w hw
  unfold M_Md_isLeft lfW
  cases q : dMay d w
  · rw [q] at e13
    rw [E_Md_isLeft_0]; simp (disch := omega) only [E_Md_isLeft_1, E_Md_isLeft_2, l_0, l_1, mK_0 H, mR_27 H, mK_12 H, mN_12 H, mR_28 H, mK_13 H, mN_13 H, letT_eq, gd_true, bnd_some, aR_ov, aK_ov, aN_ov, okO_ov, aI_ov H.1, aL_ov H.1, sI_ov H.1, sL_ov H.1, sV_eq, sV_ne, sV_2, sW_eq, sW_ne, sW_1, iI_add, iI_sub, iI_mul, iI_neg, iI_lt, iI_eq, iI_cl, nI_iI, gd_in, bZ_0, bZ_1, bZ_eq, isB_bZ, isB_0, isB_1, nar_bZ, nar_0, nar_1, mw_ov, iI_s, iI_na, iI_nm, Int.toNat_natCast, Int.add_zero, Int.zero_add, Nat.reduceEqDiff, Nat.reduceAdd, Int.reduceAdd, Int.reduceNeg, Int.reduceSub, Int.reduceMul, Int.reduceLT, Int.reduceEq, Int.reduceToNat, reduceCtorEq, ↓reduceIte, e13]
    rfl
  · rw [q] at e13
    rw [E_Md_isLeft_0]; simp (disch := omega) only [E_Md_isLeft_1, E_Md_isLeft_2, l_0, l_1, mK_0 H, mR_27 H, mK_12 H, mN_12 H, mR_28 H, mK_13 H, mN_13 H, letT_eq, gd_true, bnd_some, aR_ov, aK_ov, aN_ov, okO_ov, aI_ov H.1, aL_ov H.1, sI_ov H.1, sL_ov H.1, sV_eq, sV_ne, sV_2, sW_eq, sW_ne, sW_1, iI_add, iI_sub, iI_mul, iI_neg, iI_lt, iI_eq, iI_cl, nI_iI, gd_in, bZ_0, bZ_1, bZ_eq, isB_bZ, isB_0, isB_1, nar_bZ, nar_0, nar_1, mw_ov, iI_s, iI_na, iI_nm, Int.toNat_natCast, Int.add_zero, Int.zero_add, Nat.reduceEqDiff, Nat.reduceAdd, Int.reduceAdd, Int.reduceNeg, Int.reduceSub, Int.reduceMul, Int.reduceLT, Int.reduceEq, Int.reduceToNat, reduceCtorEq, ↓reduceIte, e13, e12, hf]
    cases fitL b (lst d w) <;> exact mw_ov _ _ _ _ _ _
