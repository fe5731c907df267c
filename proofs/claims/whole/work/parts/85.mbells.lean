theorem sub0 {x y : Int64} : (x &&& y = y) ↔ ∀ s, s < 64 → bt y s = true → bt x s = true := by
  constructor
  · intro h s hs hy
    have := congrArg (fun w => bt w s) h
    simp only [bt_and, hy, Bool.and_true] at this
    exact this
  · intro h
    apply bt_ext
    intro s hs
    rw [bt_and]
    cases q : bt y s
    · rw [Bool.and_false]
    · rw [h s hs q]; rfl
def mbI (d : TD) (b : BD) (m0 : VM) (k : Nat) (m : VM) : Prop := KM m0 m ∧ m.2 0 40 = must b ∧ m.2 0 41 = mustN b ∧ m.1 0 68 = iI ((flt (cvB d b) k).length : Int) ∧ ∀ j, j < (flt (cvB d b) k).length → m.2 34 j = LL d ((flt (cvB d b) k).getD j 0) &&& must b
theorem Md_bells1 {A : Nat → Nat} {σ : AM} {d : TD} {b : BD} {m0 m : VM} (H : LM A σ) (hd : wfD d) (hT : MT d m0) (k : Nat) (hk : k < NL d) (hI : mbI d b m0 k m) : ∃ m' : VM, mbI d b m0 (k + 1) m' ∧ L_Md_bells_1 (A 0) (bZ (anyN k (onB d b))) (iI (k : Int)) (ov 40 A m σ) = L_Md_bells_1 (A 0) (bZ (anyN (k + 1) (onB d b))) (iI ((k + 1 : Nat) : Int)) (ov 40 A (m') σ) := by
  obtain ⟨i1, i2, i3, i4, i5⟩ := hI
  have hTm := MT_K i1 hT
  have hN := NL_le d
  have hW := hd.2.2.2.2.2.2
  have h29 := hTm.1.2.2.2.2.2
  have e14 := hTm.2.2.2.1 k hk
  have hle := flt_le (cvB d b) k
  rw [anyN_s]
  by_cases c : LL d k &&& mustN b = 0
  · have hcv : cvB d b k = true := decide_eq_true c
    have hon : onB d b k = decide (LL d k &&& must b = must b) := by
      unfold onB
      rw [hcv, Bool.true_and]
      by_cases z : LL d k &&& must b = must b
      · rw [decide_eq_true z, decide_eq_true (sub1.mpr (sub0.mp z))]
      · rw [decide_eq_false z, decide_eq_false (fun y => z (sub0.mpr (sub1.mp y)))]
    refine ⟨sV (sW m 34 (flt (cvB d b) k).length (LL d k &&& must b)) 0 68 (iI (((flt (cvB d b) k).length + 1 : Nat) : Int)), ⟨KM_V (KM_W i1 _ _ (by decide)) _ (by decide), ?_, ?_, ?_, fun j hj => ?_⟩, ?_⟩
    · simp (disch := decide) only [sV_eq, sW_eq, sV_ne, sW_ne, sV_2, sW_1, Nat.reduceEqDiff, ↓reduceIte]; exact i2
    · simp (disch := decide) only [sV_eq, sW_eq, sV_ne, sW_ne, sV_2, sW_1, Nat.reduceEqDiff, ↓reduceIte]; exact i3
    · simp (disch := decide) only [sV_eq, sW_eq, sV_ne, sW_ne, sV_2, sW_1, Nat.reduceEqDiff, ↓reduceIte]; rw [flt_s, hcv, if_pos rfl, List.length_append]; rfl
    · rw [flt_s, hcv, if_pos rfl] at hj ⊢
      rw [List.length_append, List.length_singleton] at hj
      rw [sV_2, sW_eq]
      by_cases z : j = (flt (cvB d b) k).length
      · rw [if_pos z, z, getD_app2]
      · rw [if_neg z, getD_app1 _ _ _ (by omega)]; exact i5 j (by omega)
    · rw [hon]
      cases q : anyN k (onB d b)
      · rw [E_Md_bells_1]; simp (disch := omega) only [E_Md_bells_2, E_Md_bells_3, E_Md_bells_4, l_0, l_1, mK_0 H, mR_30 H, mK_14 H, mN_14 H, mR_67 H, mK_34 H, mN_34 H, letT_eq, gd_true, bnd_some, aR_ov, aK_ov, aN_ov, okO_ov, aI_ov H.1, aL_ov H.1, sI_ov H.1, sL_ov H.1, sV_eq, sV_ne, sV_2, sW_eq, sW_ne, sW_1, iI_add, iI_sub, iI_mul, iI_neg, iI_lt, iI_eq, iI_cl, nI_iI, gd_in, bZ_0, bZ_1, bZ_eq, isB_bZ, isB_0, isB_1, nar_bZ, nar_0, nar_1, mw_ov, iI_s, iI_na, iI_nm, Int.toNat_natCast, Int.add_zero, Int.zero_add, Nat.reduceEqDiff, Nat.reduceAdd, Int.reduceAdd, Int.reduceNeg, Int.reduceSub, Int.reduceMul, Int.reduceLT, Int.reduceEq, Int.reduceToNat, reduceCtorEq, ↓reduceIte, h29, e14, i2, i3, i4, lgc0]
        rw [if_pos (show (k : Int) < (NL d : Int) by omega), if_pos c]
        by_cases z : LL d k &&& must b = must b
        · rw [if_pos z, decide_eq_true z]; rfl
        · rw [if_neg z, decide_eq_false z]; rfl
      · rw [E_Md_bells_1]; simp (disch := omega) only [E_Md_bells_2, E_Md_bells_3, E_Md_bells_4, l_0, l_1, mK_0 H, mR_30 H, mK_14 H, mN_14 H, mR_67 H, mK_34 H, mN_34 H, letT_eq, gd_true, bnd_some, aR_ov, aK_ov, aN_ov, okO_ov, aI_ov H.1, aL_ov H.1, sI_ov H.1, sL_ov H.1, sV_eq, sV_ne, sV_2, sW_eq, sW_ne, sW_1, iI_add, iI_sub, iI_mul, iI_neg, iI_lt, iI_eq, iI_cl, nI_iI, gd_in, bZ_0, bZ_1, bZ_eq, isB_bZ, isB_0, isB_1, nar_bZ, nar_0, nar_1, mw_ov, iI_s, iI_na, iI_nm, Int.toNat_natCast, Int.add_zero, Int.zero_add, Nat.reduceEqDiff, Nat.reduceAdd, Int.reduceAdd, Int.reduceNeg, Int.reduceSub, Int.reduceMul, Int.reduceLT, Int.reduceEq, Int.reduceToNat, reduceCtorEq, ↓reduceIte, h29, e14, i2, i3, i4, lgc0]
        rw [if_pos (show (k : Int) < (NL d : Int) by omega), if_pos c]
        rfl
  · have hcv : cvB d b k = false := decide_eq_false c
    have hon : onB d b k = false := by unfold onB; rw [hcv]; rfl
    refine ⟨m, ⟨i1, i2, i3, ?_, fun j hj => ?_⟩, ?_⟩
    · rw [flt_s, hcv, if_neg (by decide)]; exact i4
    · rw [flt_s, hcv, if_neg (by decide)] at hj ⊢; exact i5 j hj
    · rw [hon, Bool.or_false]
      rw [E_Md_bells_1]
      simp (disch := omega) only [E_Md_bells_4, mK_0 H, mR_30 H, mK_14 H, mN_14 H, okO_ov, aR_ov, aN_ov, gd_true, gd_in, aI_ov H.1, aL_ov H.1, h29, iI_lt, iI_cl, Int.toNat_natCast, e14, i3, lgc0, l_0, l_1, iI_add, iI_s]
      rw [if_pos (show (k : Int) < (NL d : Int) by omega), if_neg c]
theorem Md_bells5 {A : Nat → Nat} {σ : AM} (H : LM A σ) {m : VM} {n : Nat} (hn : n ≤ 16384) {y : Int64} (h40 : m.2 0 40 = y) (h68 : m.1 0 68 = iI (n : Int)) {f : Nat → Int64} (hf : ∀ j, j < n → m.2 34 j = f j) : ∃ r : Bool, L_Md_bells_5 (A 0) (iI 0) (ov 40 A m σ) = some (iI (if r = true then 2 else -1), (ov 40 A m σ)) ∧ (r = true ↔ ∃ i j, i < j ∧ j < n ∧ f i ||| f j = y) := by
  exact up_loopI (fun k (_ : Unit) => L_Md_bells_5 (A 0) (iI (k : Int)) (ov 40 A m σ)) (fun k _ => ∀ i j, i < k → i < j → j < n → ¬ f i ||| f j = y) (fun z => ∃ r : Bool, z = some (iI (if r = true then 2 else -1), (ov 40 A m σ)) ∧ (r = true ↔ ∃ i j, i < j ∧ j < n ∧ f i ||| f j = y)) n (fun k _ hk hI ih => by
    have e1 := hf k hk
    have inn := up_loopI (fun j (_ : Unit) => L_Md_bells_6 (A 0) (iI (k : Int)) (iI (j : Int)) (ov 40 A m σ)) (fun j _ => k < j ∧ ∀ i, k < i → i < j → ¬ f k ||| f i = y) (fun z => ∃ r : Bool, z = some (iI (if r = true then 2 else -1), (ov 40 A m σ)) ∧ (r = true ↔ ∃ i j, i < j ∧ j < n ∧ f i ||| f j = y)) n (fun j _ hj hJ ih2 => by
      have e2 := hf j hj
      show ∃ r : Bool, L_Md_bells_6 _ _ _ _ = _ ∧ _
      rw [E_Md_bells_6]; simp (disch := omega) only [l_0, l_1, l_2, mK_0 H, mR_67 H, mK_34 H, mN_34 H, letT_eq, gd_true, bnd_some, aR_ov, aK_ov, aN_ov, okO_ov, aI_ov H.1, aL_ov H.1, sI_ov H.1, sL_ov H.1, sV_eq, sV_ne, sV_2, sW_eq, sW_ne, sW_1, iI_add, iI_sub, iI_mul, iI_neg, iI_lt, iI_eq, iI_cl, nI_iI, gd_in, bZ_0, bZ_1, bZ_eq, isB_bZ, isB_0, isB_1, nar_bZ, nar_0, nar_1, mw_ov, iI_s, iI_na, iI_nm, Int.toNat_natCast, Int.add_zero, Int.zero_add, Nat.reduceEqDiff, Nat.reduceAdd, Int.reduceAdd, Int.reduceNeg, Int.reduceSub, Int.reduceMul, Int.reduceLT, Int.reduceEq, Int.reduceToNat, reduceCtorEq, ↓reduceIte, h68, h40, e1, e2, lgc0]
      rw [if_pos (show (j : Int) < (n : Int) by omega)]
      by_cases c : f k ||| f j = y
      · rw [if_pos c]
        exact ⟨true, rfl, fun _ => ⟨k, j, hJ.1, hj, c⟩, fun _ => rfl⟩
      · rw [if_neg c]
        exact ih2 () ⟨by omega, fun i h1 h2 => by
          by_cases e : i = j
          · rw [e]; exact c
          · exact hJ.2 i h1 (by omega)⟩) (fun _ hJ => by
      show ∃ r : Bool, L_Md_bells_6 _ _ _ _ = _ ∧ _
      rw [E_Md_bells_6]
      simp (disch := omega) only [mK_0 H, okO_ov, gd_true, aI_ov H.1, h68, iI_lt, l_1, iI_add]
      rw [if_neg (by omega)]
      exact ih () fun i j h1 h2 h3 => by
        by_cases e : i = k
        · subst e; exact hJ.2 j h2 h3
        · exact hI i j (by omega) h2 h3) (k + 1) () (by omega) ⟨by omega, fun i h1 h2 => by omega⟩
    show ∃ r : Bool, L_Md_bells_5 _ _ _ = _ ∧ _
    rw [E_Md_bells_5]
    simp (disch := omega) only [mK_0 H, okO_ov, gd_true, aI_ov H.1, h68, iI_lt, l_1, iI_add, letT_eq]
    rw [if_pos (show (k : Int) < (n : Int) by omega)]
    exact inn) (fun _ hI => by
    show ∃ r : Bool, L_Md_bells_5 _ _ _ = _ ∧ _
    refine ⟨false, ?_, fun z => (by cases z), fun ⟨i, j, h1, h2, z⟩ => absurd z (hI i j (by omega) h1 h2)⟩
    rw [E_Md_bells_5]
    simp (disch := omega) only [mK_0 H, okO_ov, gd_true, aI_ov H.1, h68, iI_lt, l_1, iI_neg]
    rw [if_neg (by omega)]
    rfl) 0 () (Nat.zero_le _) (fun i j hi => absurd hi (Nat.not_lt_zero i))
theorem m_bells {d : TD} {b : BD} {A : Nat → Nat} {σ : AM} {m : VM} (M : MS0 d b A σ m) : ∃ (r : Int) (m' : VM), M_Md_bells (A 0) (ov 40 A m σ) = some (iI r, (ov 40 A (m') σ)) ∧ belR d b r ∧ KM m m' := by
  have M0 := MS0_K (KM_0 m) M
  obtain ⟨H, hd, hT, hb, hB⟩ := M0
  obtain ⟨m1, e1, q1, q2, q3, q4⟩ := p_Md_findMust H hb hB
  have k1 : KM m m1 := KM_t (KM_0 m) ⟨fun j _ => by rw [q1], fun c _ => by rw [q1], fun c hc => q2 c (by intro e; subst e; revert hc; decide)⟩
  have hN := NL_le d
  have hW := hd.2.2.2.2.2.2
  unfold M_Md_bells
  by_cases h0 : must b = 0
  · refine ⟨0, m1, ?_, ⟨fun _ => rfl, fun z => absurd h0 z⟩, k1⟩
    rw [E_Md_bells_0]; simp (disch := omega) only [l_0, mK_0 H, letT_eq, gd_true, bnd_some, aR_ov, aK_ov, aN_ov, okO_ov, aI_ov H.1, aL_ov H.1, sI_ov H.1, sL_ov H.1, sV_eq, sV_ne, sV_2, sW_eq, sW_ne, sW_1, iI_add, iI_sub, iI_mul, iI_neg, iI_lt, iI_eq, iI_cl, nI_iI, gd_in, bZ_0, bZ_1, bZ_eq, isB_bZ, isB_0, isB_1, nar_bZ, nar_0, nar_1, mw_ov, iI_s, iI_na, iI_nm, Int.toNat_natCast, Int.add_zero, Int.zero_add, Nat.reduceEqDiff, Nat.reduceAdd, Int.reduceAdd, Int.reduceNeg, Int.reduceSub, Int.reduceMul, Int.reduceLT, Int.reduceEq, Int.reduceToNat, reduceCtorEq, ↓reduceIte, e1, q3, lgc0]
    rw [if_pos h0, mw_ov]
  · have hl := up_loopI (fun k mm => L_Md_bells_1 (A 0) (bZ (anyN k (onB d b))) (iI (k : Int)) (ov 40 A mm σ)) (mbI d b m) (fun x => ∃ (r : Int) (m' : VM), x = some (iI r, (ov 40 A (m') σ)) ∧ belR d b r ∧ KM m m') (NL d) (fun k mm hk hI ih => by
      obtain ⟨m2, j1, j2⟩ := Md_bells1 H hd M.2.2.1 k hk hI
      show ∃ (r : Int) (m' : VM), L_Md_bells_1 _ _ _ _ = _ ∧ _
      rw [j2]
      exact ih m2 j1) (fun mm hI => by
      obtain ⟨i1, i2, i3, i4, i5⟩ := hI
      have hTm := MT_K i1 M.2.2.1
      have h29 := hTm.1.2.2.2.2.2
      have hle := flt_le (cvB d b) (NL d)
      show ∃ (r : Int) (m' : VM), L_Md_bells_1 _ _ _ _ = _ ∧ _
      cases q : anyN (NL d) (onB d b)
      · obtain ⟨r, e5, qr⟩ := Md_bells5 H (n := (flt (cvB d b) (NL d)).length) (by omega) i2 i4 (f := fun j => LL d ((flt (cvB d b) (NL d)).getD j 0) &&& must b) i5
        have hpr : r = true ↔ prP d b := by
          rw [qr]
          constructor
          · rintro ⟨i, j, h1, h2, h3⟩
            have f1 := flt_mem (p := cvB d b) (n := NL d) (i := i) (by omega)
            have f2 := flt_mem (p := cvB d b) (n := NL d) (i := j) h2
            exact ⟨_, _, f1.1, f2.1, f1.2, f2.2, sub3.mp h3⟩
          · rintro ⟨i, j, hi, hj, ci, cj, hs⟩
            obtain ⟨a, ha, ea⟩ := flt_has (p := cvB d b) hi ci
            obtain ⟨c, hc, ec⟩ := flt_has (p := cvB d b) hj cj
            have hne : a ≠ c := by
              intro e
              subst e
              have : i = j := ea.symm.trans ec
              subst this
              have h1 : onB d b i = true := by
                unfold onB
                rw [ci, decide_eq_true (sub1.mpr fun s h1 h2 => (hs s h1 h2).elim id id)]; rfl
              have : anyN (NL d) (onB d b) = true := anyN_iff.mpr ⟨i, hi, h1⟩
              rw [q] at this; cases this
            by_cases lt : a < c
            · refine ⟨a, c, lt, hc, ?_⟩
              show (LL d ((flt (cvB d b) (NL d)).getD a 0) &&& must b) ||| (LL d ((flt (cvB d b) (NL d)).getD c 0) &&& must b) = must b
              rw [ea, ec]; exact sub3.mpr hs
            · refine ⟨c, a, by omega, ha, ?_⟩
              show (LL d ((flt (cvB d b) (NL d)).getD c 0) &&& must b) ||| (LL d ((flt (cvB d b) (NL d)).getD a 0) &&& must b) = must b
              rw [ea, ec]; exact sub3.mpr fun s h1 h2 => (hs s h1 h2).symm
        refine ⟨if r = true then 2 else -1, mm, ?_, ⟨fun z => absurd z h0, fun _ => ⟨fun z => (by rw [q] at z; cases z), fun _ => ⟨fun p => if_pos (hpr.mpr p), fun p => if_neg (fun z => p (hpr.mp z))⟩⟩⟩, i1⟩
        rw [E_Md_bells_1]
        simp (disch := omega) only [mK_0 H, okO_ov, gd_true, aI_ov H.1, h29, iI_lt, l_0, bZ_0, ↓reduceIte]
        rw [if_neg (by omega)]
        exact e5
      · refine ⟨1, mm, ?_, ⟨fun z => absurd z h0, fun _ => ⟨fun _ => rfl, fun z => (by rw [q] at z; cases z)⟩⟩, i1⟩
        rw [E_Md_bells_1]
        simp (disch := omega) only [mK_0 H, okO_ov, gd_true, aI_ov H.1, h29, iI_lt, l_0, l_1, bZ_0, reduceCtorEq, ↓reduceIte]
        rw [if_neg (by omega)]) 0 (sV m1 0 68 (iI 0)) (Nat.zero_le _) ⟨KM_V k1 _ (by decide), q3, q4, by simp (disch := decide) only [sV_eq, sW_eq, sV_ne, sW_ne, sV_2, sW_1, Nat.reduceEqDiff, ↓reduceIte]; rfl, fun j hj => absurd hj (Nat.not_lt_zero j)⟩
    obtain ⟨r, m', e, q, k⟩ := hl
    refine ⟨r, m', ?_, q, k⟩
    replace e : L_Md_bells_1 (A 0) (iI 0) (iI 0) (ov 40 A (sV m1 0 68 (iI 0)) σ) = _ := e
    rw [E_Md_bells_0]; simp (disch := omega) only [l_0, mK_0 H, letT_eq, gd_true, bnd_some, aR_ov, aK_ov, aN_ov, okO_ov, aI_ov H.1, aL_ov H.1, sI_ov H.1, sL_ov H.1, sV_eq, sV_ne, sV_2, sW_eq, sW_ne, sW_1, iI_add, iI_sub, iI_mul, iI_neg, iI_lt, iI_eq, iI_cl, nI_iI, gd_in, bZ_0, bZ_1, bZ_eq, isB_bZ, isB_0, isB_1, nar_bZ, nar_0, nar_1, mw_ov, iI_s, iI_na, iI_nm, Int.toNat_natCast, Int.add_zero, Int.zero_add, Nat.reduceEqDiff, Nat.reduceAdd, Int.reduceAdd, Int.reduceNeg, Int.reduceSub, Int.reduceMul, Int.reduceLT, Int.reduceEq, Int.reduceToNat, reduceCtorEq, ↓reduceIte, e1, q3, lgc0]
    rw [if_neg h0]
    exact (congrArg (mw _) e).trans (mw_ov _ _ _ _ _ _)
