/-! ===== a thing that has grown, the reference's search ===== -/
theorem wtS_grow (f : Nat → Nat) {t : Nat} (ht : t < 6) (y s : Nat) : wtS (fun i => f i + if t = i then y else 0) s = wtS f s + if s.testBit t = true then y else 0 := by
  unfold wtS
  have h1 : ∀ i, (if s.testBit i = true then f i + (if t = i then y else 0) else 0) = (if s.testBit i = true then f i else 0) + (if t = i then (if s.testBit i = true then y else 0) else 0) := by
    intro i
    by_cases q : s.testBit i = true
    · simp only [if_pos q]
    · simp only [if_neg q]; split <;> rfl
  rw [sumN_congr fun i _ => h1 i, sumN_add]
  congr 1
  exact sum_pick ht (fun i => if s.testBit i = true then y else 0)
def gAll (d : TD) (b : BD) (y f t w : Nat) : Prop := ∀ j, f ≤ j → j < nT b → gR d w t y (tS b j) = tR b j
theorem p_Md_growsBy {d : TD} {b : BD} {A : Nat → Nat} {σ : AM} {m : VM} (M : MS0 d b A σ m) {w t y f : Nat} (hw : w < dW d) (ht : t < dT d) (hy : y ≤ 5) (hf : isFW b (lst d w) f) {gf : Int} (h65 : m.1 0 65 = iI gf) (hg1 : -1 ≤ gf) (hg2 : gf < 60) : ∃ m' : VM, M_Md_growsBy (A 0) (iI (w : Int)) (iI (t : Int)) (iI (y : Int)) (ov 40 A m σ) = some ((), (ov 40 A (m') σ)) ∧ KM m m' ∧ m'.1 0 64 = m.1 0 64 ∧ (((gf < (f : Int) ∧ gAll d b y f t w) ∧ m'.1 0 65 = iI (f : Int) ∧ m'.1 0 66 = iI (t : Int)) ∨ (¬ (gf < (f : Int) ∧ gAll d b y f t w) ∧ m'.1 0 65 = m.1 0 65 ∧ m'.1 0 66 = m.1 0 66)) := by
  have M' := M
  obtain ⟨H, hd, hT, hb, hB⟩ := M
  have hn := hb.1
  have hT6 := hd.1
  have hfn := hf.2.1
  have hW := hd.2.2.2.2.2.2
  have e1 := hT.2.1 w hw
  have r1 := q_Md_firstWrong H hb hB hf
  have go : ∀ X, mw (ov 40 A m σ) (L_Md_growsBy_1 (A 0) (iI (w : Int)) (iI (t : Int)) (iI (y : Int)) (iI (f : Int)) (ov 40 A m σ)) = X → M_Md_growsBy (A 0) (iI (w : Int)) (iI (t : Int)) (iI (y : Int)) (ov 40 A m σ) = X := by
    intro X hX
    rw [← hX]
    unfold M_Md_growsBy
    rw [E_Md_growsBy_0]
    simp (disch := omega) only [l_1, mK_0 H, mR_27 H, mK_12 H, mN_12 H, mR_34 H, mK_18 H, mN_18 H, letT_eq, gd_true, bnd_some, aR_ov, aK_ov, aN_ov, okO_ov, aI_ov H.1, aL_ov H.1, sI_ov H.1, sL_ov H.1, sV_eq, sV_ne, sV_2, sW_eq, sW_ne, sW_1, iI_add, iI_sub, iI_mul, iI_neg, iI_lt, iI_eq, iI_cl, nI_iI, gd_in, bZ_0, bZ_1, bZ_eq, isB_bZ, isB_0, isB_1, nar_bZ, nar_0, nar_1, mw_ov, iI_s, iI_na, iI_nm, Int.toNat_natCast, Int.add_zero, Int.zero_add, Nat.reduceEqDiff, Nat.reduceAdd, Int.reduceAdd, Int.reduceNeg, Int.reduceSub, Int.reduceMul, Int.reduceLT, Int.reduceEq, Int.reduceToNat, reduceCtorEq, ↓reduceIte, e1, r1, hB.1.1]
    by_cases q : (f : Int) < (nT b : Int) - 1
    · rw [if_pos q]
    · rw [if_neg q, show (nT b : Int) - 1 = (f : Int) by omega]
  by_cases q : gf < (f : Int)
  · obtain ⟨m1, u1, u2, u3, u4⟩ := p_Md_unpacks H hd hT.1.1 hT.1.2.1 (w := w) (by omega)
    have u5 := u3 t ht
    have hdg := dg_lt hd w t
    have k1 : KM m (sV m1 18 t (iI ((dg d w t + y : Nat) : Int))) := KM_A (OnW_KM u2) _ _ (by decide)
    have hT1 := MT_K k1 hT
    obtain ⟨m2, v1, v2, v3, v4⟩ := p_Md_weighs H hd hT1.1.1 (f := fun i => dg d w i + if t = i then y else 0) (fun i hi => by
      by_cases e : i = t
      · subst e; rw [if_pos rfl]; simp (disch := decide) only [sV_eq, sW_eq, sV_ne, sW_ne, sV_2, sW_1, Nat.reduceEqDiff, ↓reduceIte]
      · rw [if_neg (fun z => e z.symm)]
        have : (sV m1 18 t (iI ((dg d w t + y : Nat) : Int))).1 18 i = m1.1 18 i := by
          rw [sV_eq, if_neg e]
        rw [this]; exact u3 i hi) (fun i => by
      have := dg_lt hd w i
      show dg d w i + (if t = i then y else 0) ≤ 100
      split <;> omega)
    have o2 : OnW (sV m1 18 t (iI ((dg d w t + y : Nat) : Int))) m2 := ⟨fun c _ h => v2 c h, v3⟩
    have k2 : KM m m2 := KM_t k1 (OnW_KM o2)
    have hT2 := MT_K k2 hT
    have hB2 := MB_K k2 hB
    have f64 : ∀ j, m2.1 0 j = m.1 0 j := fun j => by rw [v2 0 (by decide)]; simp (disch := decide) only [sV_eq, sW_eq, sV_ne, sW_ne, sV_2, sW_1, Nat.reduceEqDiff, ↓reduceIte]; rw [u2.1 0 (by decide) (by decide)]
    have w1 := q_Md_listNow H hd hT2 (f := fun s => wtS (dg d w) s + if s.testBit t = true then y else 0) (fun s => by
      have := wts_le hd w s
      show wtS (dg d w) s + (if s.testBit t = true then y else 0) ≤ 1000
      split <;> omega) (fun s hs => by rw [v4 s hs, wtS_grow _ (by omega)])
    obtain ⟨r, x1, x2, x3, x4⟩ := q_Md_lastWrong H hb hB2 (mkB (sN d) (fun s => decide (dB d ≤ wtS (dg d w) s + if s.testBit t = true then y else 0)))
    have ga : (r < (f : Int)) ↔ gAll d b y f t w := by
      rw [x4 f]
      have : ∀ j, j < nT b → (wrB b (mkB (sN d) (fun s => decide (dB d ≤ wtS (dg d w) s + if s.testBit t = true then y else 0))) j = false ↔ gR d w t y (tS b j) = tR b j) := by
        intro j hj
        have hs := hb.2.2.2.1 j hj
        unfold wrB
        rw [bt_mkB (sN_le hd), decide_eq_true hs, Bool.true_and]
        show ((gR d w t y (tS b j) != tR b j) = false) ↔ _
        cases gR d w t y (tS b j) <;> cases tR b j <;> simp
      exact ⟨fun h j h1 h2 => (this j h2).mp (h j h1 h2), fun h j h1 h2 => (this j h2).mpr (h j h1 h2)⟩
    by_cases q2 : r < (f : Int)
    · refine ⟨sV (sV m2 0 65 (iI (f : Int))) 0 66 (iI (t : Int)), go _ ?_, KM_V (KM_V k2 _ (by decide)) _ (by decide), by simp (disch := decide) only [sV_eq, sW_eq, sV_ne, sW_ne, sV_2, sW_1, Nat.reduceEqDiff, ↓reduceIte]; exact f64 64, Or.inl ⟨⟨q, ga.mp q2⟩, by simp (disch := decide) only [sV_eq, sW_eq, sV_ne, sW_ne, sV_2, sW_1, Nat.reduceEqDiff, ↓reduceIte], by simp (disch := decide) only [sV_eq, sW_eq, sV_ne, sW_ne, sV_2, sW_1, Nat.reduceEqDiff, ↓reduceIte]⟩⟩
      rw [E_Md_growsBy_1]; simp (disch := omega) only [E_Md_growsBy_2, mK_0 H, mR_34 H, mK_18 H, mN_18 H, letT_eq, gd_true, bnd_some, aR_ov, aK_ov, aN_ov, okO_ov, aI_ov H.1, aL_ov H.1, sI_ov H.1, sL_ov H.1, sV_eq, sV_ne, sV_2, sW_eq, sW_ne, sW_1, iI_add, iI_sub, iI_mul, iI_neg, iI_lt, iI_eq, iI_cl, nI_iI, gd_in, bZ_0, bZ_1, bZ_eq, isB_bZ, isB_0, isB_1, nar_bZ, nar_0, nar_1, mw_ov, iI_s, iI_na, iI_nm, Int.toNat_natCast, Int.add_zero, Int.zero_add, Nat.reduceEqDiff, Nat.reduceAdd, Int.reduceAdd, Int.reduceNeg, Int.reduceSub, Int.reduceMul, Int.reduceLT, Int.reduceEq, Int.reduceToNat, reduceCtorEq, ↓reduceIte, h65, u1, u5, v1, w1, x1]
      rw [if_pos q, if_pos q2, mw_ov]
    · refine ⟨m2, go _ ?_, k2, f64 64, Or.inr ⟨fun z => q2 (ga.mpr z.2), f64 65, f64 66⟩⟩
      rw [E_Md_growsBy_1]; simp (disch := omega) only [E_Md_growsBy_2, mK_0 H, mR_34 H, mK_18 H, mN_18 H, letT_eq, gd_true, bnd_some, aR_ov, aK_ov, aN_ov, okO_ov, aI_ov H.1, aL_ov H.1, sI_ov H.1, sL_ov H.1, sV_eq, sV_ne, sV_2, sW_eq, sW_ne, sW_1, iI_add, iI_sub, iI_mul, iI_neg, iI_lt, iI_eq, iI_cl, nI_iI, gd_in, bZ_0, bZ_1, bZ_eq, isB_bZ, isB_0, isB_1, nar_bZ, nar_0, nar_1, mw_ov, iI_s, iI_na, iI_nm, Int.toNat_natCast, Int.add_zero, Int.zero_add, Nat.reduceEqDiff, Nat.reduceAdd, Int.reduceAdd, Int.reduceNeg, Int.reduceSub, Int.reduceMul, Int.reduceLT, Int.reduceEq, Int.reduceToNat, reduceCtorEq, ↓reduceIte, h65, u1, u5, v1, w1, x1]
      rw [if_pos q, if_neg q2, mw_ov]
  · refine ⟨m, go _ ?_, KM_r m, rfl, Or.inr ⟨fun z => q z.1, rfl, rfl⟩⟩
    rw [E_Md_growsBy_1]
    simp (disch := omega) only [mK_0 H, okO_ov, gd_true, aI_ov H.1, h65, iI_lt]
    rw [if_neg q, mw_ov]
