/-! ===== the class's lines: cost, and the whole text ===== -/
theorem c_cost2 {t : PD} {A : Nat → Nat} {σ : AM} (H : LC A σ) (ht : wfT t) {x : XS} (hx : xOk t x) {c : List Nat} {m : VM} (hL : XSt t x c m) (hk7 : kdT t (xsK x) = 8) : ∃ m' : VM, M_Rd_costLine (A 1) (ov 68 A m σ) = some ((), (ov 68 A (m') σ)) ∧ XZ t (coL t x) m m' := by
  obtain ⟨hR, hT, hc⟩ := hL
  obtain ⟨x1, x2, x3, x4, x5⟩ := hx
  have hF := DN_F hT.2.1 x2
  have hk1 := kOk_s x1 (show ¬ kdT t (xsK x) = 0 by omega)
  have hkl := kOk_le ht hk1
  have h11 := hT.1.2.2
  unfold M_Rd_costLine coL
  cases hs : (xsC x).isSome
  · rw [hs] at h11
    rw [if_neg (by decide)]
    have e0 : M_Tw_beginCost (A 3) (ov 68 A (sV (sV m 1 11 (iI 1)) 1 12 (iI 1)) σ) = some ((), (ov 68 A (sV (sV (sV m 1 11 (iI 1)) 1 12 (iI 1)) 6 4 (iI (c.length : Int))) σ)) := by
      have h2 : (sV (sV m 1 11 (iI 1)) 1 12 (iI 1)).1 3 6 = iI (c.length : Int) := by simp (disch := decide) only [sV_eq, sW_eq, sV_ne, sW_ne, sV_2, sW_1, Nat.reduceEqDiff, ↓reduceIte]; exact hT.2.2.1.1
      unfold M_Tw_beginCost
      rw [E_Tw_beginCost_0]
      simp (disch := omega) only [cK_3 H, cR_3_2 H, cK_6 H, cN_6 H, okO_ov, aR_ov, aN_ov, gd_true, l_4, gd_in, iI_cl, Int.toNat_natCast, nI_iI, aI_ov H.1, sI_ov H.1, letT_eq, h2]
      exact mw_ov _ _ _ _ _ _
    generalize hm0 : sV (sV (sV m 1 11 (iI 1)) 1 12 (iI 1)) 6 4 (iI (c.length : Int)) = m0 at *
    have R0 : XRs t (xsK x) m0 := by
      rw [← hm0]
      refine ⟨⟨by simp (disch := decide) only [sV_eq, sW_eq, sV_ne, sW_ne, sV_2, sW_1, Nat.reduceEqDiff, ↓reduceIte]; exact hR.1.1, fun j hj => by rw [sV_ne _ _ _ _ (by decide), sV_ne _ _ _ _ (by decide), sV_ne _ _ _ _ (by decide)]; exact hR.1.2 j hj⟩, ?_, by simp (disch := decide) only [sV_eq, sW_eq, sV_ne, sW_ne, sV_2, sW_1, Nat.reduceEqDiff, ↓reduceIte]; exact hR.2.2⟩
      obtain ⟨a1, a2, a3, a4, a5⟩ := hR.2.1
      exact ⟨by simp (disch := decide) only [sV_eq, sW_eq, sV_ne, sW_ne, sV_2, sW_1, Nat.reduceEqDiff, ↓reduceIte]; exact a1, by simp (disch := decide) only [sV_eq, sW_eq, sV_ne, sW_ne, sV_2, sW_1, Nat.reduceEqDiff, ↓reduceIte]; exact a2, by simp (disch := decide) only [sV_eq, sW_eq, sV_ne, sW_ne, sV_2, sW_1, Nat.reduceEqDiff, ↓reduceIte]; exact a3, a4, fun z => by simp (disch := decide) only [sV_eq, sW_eq, sV_ne, sW_ne, sV_2, sW_1, Nat.reduceEqDiff, ↓reduceIte]; exact a5 z⟩
    have h012 : m0.1 1 12 = bZ true := by rw [← hm0]; simp (disch := decide) only [sV_eq, sW_eq, sV_ne, sW_ne, sV_2, sW_1, Nat.reduceEqDiff, ↓reduceIte]; rfl
    have N0 : DN (xsN x) m0 := by rw [← hm0]; exact ⟨by simp (disch := decide) only [sV_eq, sW_eq, sV_ne, sW_ne, sV_2, sW_1, Nat.reduceEqDiff, ↓reduceIte]; exact hT.2.1.1, hT.2.1.2⟩
    have C0' : DC c m0 := by rw [← hm0]; exact ⟨by simp (disch := decide) only [sV_eq, sW_eq, sV_ne, sW_ne, sV_2, sW_1, Nat.reduceEqDiff, ↓reduceIte]; exact hT.2.2.1.1, by rw [sV_ne _ _ _ _ (by decide), sV_ne _ _ _ _ (by decide), sV_ne _ _ _ _ (by decide)]; exact hT.2.2.1.2⟩
    obtain ⟨m1, e1, k1, r1⟩ := p_advR H ht R0
    obtain ⟨m2, m3, e2, e3, f1, f2, f3, f4, f5⟩ := p_formula H ht x2 (ic := true) hk1 (show c.length ≤ xsK x + 1 by omega) (XP r1 (by rw [k1.2.1 12 (by decide)]; exact h012) (DN_A N0 k1) (DC_A C0' k1))
    have o03 : OnPr m0 m3 := OnPr_t (OnPr_A k1) f1
    have h37 : m3.1 3 7 = iI ((xsN x).length : Int) := by rw [o03.2.2.1 7 (by decide)]; exact N0.1
    obtain ⟨u, u1, u2⟩ := f2
    have e4 : M_Tw_endCost (A 3) (ov 68 A m3 σ) = some ((), (ov 68 A (sV m3 7 4 (iI (u : Int))) σ)) := by
      unfold M_Tw_endCost
      rw [E_Tw_endCost_0]
      simp (disch := omega) only [cK_3 H, cR_3_3 H, cK_7 H, cN_7 H, okO_ov, aR_ov, aN_ov, gd_true, l_4, gd_in, iI_cl, Int.toNat_natCast, nI_iI, aI_ov H.1, sI_ov H.1, letT_eq, u2]
      exact mw_ov _ _ _ _ _ _
    have oA : OnRd m (sV m3 7 4 (iI (u : Int))) := by
      refine OnRd_V (OnRd_t ?_ (OnRd_P o03)) _ (by decide) (by decide)
      rw [← hm0]
      exact OnRd_V (OnRd_V (OnRd_V (OnRd_r m) _ (by decide) (by decide)) _ (by decide) (by decide)) _ (by decide) (by decide)
    have fin : ∀ r : XR, r.1 = (if (fmS t (xsN x) true (xsK x + 1)).1 = 0 then (if kdT t (fmS t (xsN x) true (xsK x + 1)).2.1 = 59 then 0 else 1 + 16 * plT t (fmS t (xsN x) true (xsK x + 1)).2.1) else (fmS t (xsN x) true (xsK x + 1)).1 : Nat) → (r.1 = 0 → ∃ cc, XSt t r.2 cc (sV m3 7 4 (iI (u : Int)))) → ∃ m' : VM, mw (ov 68 A m σ) (L_Rd_costLine_0 (A 1) (ov 68 A m σ)) = some ((), (ov 68 A (m') σ)) ∧ XZ t r m m' := fun r hr hr2 => by
      refine ⟨_, ?_, oA, ?_, by rw [hr]; exact f4, ⟨(xsN x).length, x2.1, by simp (disch := decide) only [sV_eq, sW_eq, sV_ne, sW_ne, sV_2, sW_1, Nat.reduceEqDiff, ↓reduceIte]; exact h37⟩, hr2⟩
      · rw [E_Rd_costLine_0]
        simp (disch := omega) only [cK_1 H, cR_1_1 H, cK_3 H, okO_ov, aR_ov, gd_true, aI_ov H.1, h11, bZ_0, bnd_some, l_0, l_1, l_59, sI_ov H.1, letT_eq, e0, e1, e2, e3, e4, ↓reduceIte, mw_ov]
      · rw [hr]; simp (disch := decide) only [sV_eq, sW_eq, sV_ne, sW_ne, sV_2, sW_1, Nat.reduceEqDiff, ↓reduceIte]; exact f3
    by_cases y : (fmS t (xsN x) true (xsK x + 1)).1 = 0
    · rw [if_pos y]
      unfold epL
      by_cases c59 : kdT t (fmS t (xsN x) true (xsK x + 1)).2.1 = 59
      · rw [if_pos c59]
        refine fin _ (by rw [if_pos y, if_pos c59]) (fun _ => ?_)
        obtain ⟨g1, g2, g3⟩ := fm_gd (t := t) (ns := xsN x) (ic := true) (xsK x + 1) hk1 y
        have hgl := kOk_le ht g1
        obtain ⟨r3, d3⟩ := f5 y c59
        have eu : u = (c ++ (fmS t (xsN x) true (xsK x + 1)).2.2).length := by
          have := u2.symm.trans d3.1
          rw [iI_eq (by omega) (by omega) (by omega) (by rw [List.length_append]; omega)] at this
          omega
        refine ⟨c ++ (fmS t (xsN x) true (xsK x + 1)).2.2, ?_, ?_, ?_⟩
        · refine ⟨⟨by simp (disch := decide) only [sV_eq, sW_eq, sV_ne, sW_ne, sV_2, sW_1, Nat.reduceEqDiff, ↓reduceIte]; exact r3.1.1, fun j hj => by rw [sV_ne _ _ _ _ (by decide)]; exact r3.1.2 j hj⟩, ?_, by simp (disch := decide) only [sV_eq, sW_eq, sV_ne, sW_ne, sV_2, sW_1, Nat.reduceEqDiff, ↓reduceIte]; exact r3.2.2⟩
          obtain ⟨a1, a2, a3, a4, a5⟩ := r3.2.1
          exact ⟨by simp (disch := decide) only [sV_eq, sW_eq, sV_ne, sW_ne, sV_2, sW_1, Nat.reduceEqDiff, ↓reduceIte]; exact a1, by simp (disch := decide) only [sV_eq, sW_eq, sV_ne, sW_ne, sV_2, sW_1, Nat.reduceEqDiff, ↓reduceIte]; exact a2, by simp (disch := decide) only [sV_eq, sW_eq, sV_ne, sW_ne, sV_2, sW_1, Nat.reduceEqDiff, ↓reduceIte]; exact a3, a4, fun z => by simp (disch := decide) only [sV_eq, sW_eq, sV_ne, sW_ne, sV_2, sW_1, Nat.reduceEqDiff, ↓reduceIte]; exact a5 z⟩
        · obtain ⟨t1, t2, t3, t4, t5, t6⟩ := hT
          have w : ∀ j, j ∉ [3, 4, 5, 6, 8] → j ≠ 12 → j ≠ 11 → m3.1 1 j = m.1 1 j := fun j hj h12 h11 => by rw [o03.2.1 j hj, ← hm0, sV_ne _ _ _ _ (by decide), sV_eq, if_neg h12, sV_eq, if_neg h11]
          have w11 : m3.1 1 11 = iI 1 := by rw [o03.2.1 11 (by decide), ← hm0]; simp (disch := decide) only [sV_eq, sW_eq, sV_ne, sW_ne, sV_2, sW_1, Nat.reduceEqDiff, ↓reduceIte]
          have w3 : ∀ j, j ≠ 6 → m3.1 3 j = m.1 3 j := fun j hj => by rw [o03.2.2.1 j hj, ← hm0, sV_ne _ _ _ _ (by decide), sV_ne _ _ _ _ (by decide), sV_ne _ _ _ _ (by decide)]
          have w6 : ∀ j, m3.1 6 j = if j = 4 then iI (c.length : Int) else m.1 6 j := fun j => by rw [o03.1 6 (by decide) (by decide) (by decide), ← hm0, sV_eq, sV_ne _ _ _ _ (by decide), sV_ne _ _ _ _ (by decide)]
          have w7 : m3.1 7 = m.1 7 := by rw [o03.1 7 (by decide) (by decide) (by decide), ← hm0, sV_ne _ _ _ _ (by decide), sV_ne _ _ _ _ (by decide), sV_ne _ _ _ _ (by decide)]
          have w2 : m3.2 4 = m.2 4 := by rw [o03.2.2.2 4 (by decide), ← hm0, sV_2, sV_2, sV_2]
          have v6 : ∀ j, (sV m3 7 4 (iI (u : Int))).1 6 j = if j = 4 then iI (c.length : Int) else m.1 6 j := fun j => by rw [sV_ne _ _ _ _ (by decide)]; exact w6 j
          have v7 : ∀ j, (sV m3 7 4 (iI (u : Int))).1 7 j = if j = 4 then iI (u : Int) else m.1 7 j := fun j => by rw [sV_eq, w7]
          refine ⟨⟨by simp (disch := decide) only [sV_eq, sW_eq, sV_ne, sW_ne, sV_2, sW_1, Nat.reduceEqDiff, ↓reduceIte]; rw [w 9 (by decide) (by decide) (by decide)]; exact t1.1, by simp (disch := decide) only [sV_eq, sW_eq, sV_ne, sW_ne, sV_2, sW_1, Nat.reduceEqDiff, ↓reduceIte]; rw [w 10 (by decide) (by decide) (by decide)]; exact t1.2.1, by simp (disch := decide) only [sV_eq, sW_eq, sV_ne, sW_ne, sV_2, sW_1, Nat.reduceEqDiff, ↓reduceIte]; exact w11⟩, ⟨by simp (disch := decide) only [sV_eq, sW_eq, sV_ne, sW_ne, sV_2, sW_1, Nat.reduceEqDiff, ↓reduceIte]; rw [w3 7 (by decide)]; exact t2.1, fun i hi => by rw [sV_2, w2]; exact t2.2 i hi⟩, ⟨by simp (disch := decide) only [sV_eq, sW_eq, sV_ne, sW_ne, sV_2, sW_1, Nat.reduceEqDiff, ↓reduceIte]; exact d3.1, by rw [sV_ne _ _ _ _ (by decide)]; exact d3.2⟩, ⟨by simp (disch := decide) only [sV_eq, sW_eq, sV_ne, sW_ne, sV_2, sW_1, Nat.reduceEqDiff, ↓reduceIte]; rw [w3 8 (by decide)]; exact t4.1, by simp (disch := decide) only [sV_eq, sW_eq, sV_ne, sW_ne, sV_2, sW_1, Nat.reduceEqDiff, ↓reduceIte]; rw [w3 9 (by decide)]; exact t4.2.1, by simp (disch := decide) only [sV_eq, sW_eq, sV_ne, sW_ne, sV_2, sW_1, Nat.reduceEqDiff, ↓reduceIte]; rw [w3 10 (by decide)]; exact t4.2.2⟩, fun i hi => ?_, ?_⟩
          · replace hi : i < (xsA x).length := hi
            obtain ⟨s, s1, s2, s3, s4⟩ := t5 i hi
            exact ⟨s, by rw [v6, if_neg (by omega)]; exact s1, by rw [v7, if_neg (by omega)]; exact s2, slc_app s3 _, s4⟩
          · exact ⟨c.length, by rw [v6, if_pos rfl], by rw [v7, if_pos rfl, eu, List.length_append]; rfl, slc_new _ _, fun _ => g3⟩
        · show (c ++ (fmS t (xsN x) true (xsK x + 1)).2.2).length ≤ (fmS t (xsN x) true (xsK x + 1)).2.1 + 1
          rw [List.length_append]; omega
      · rw [if_neg c59]
        refine fin _ (by rw [if_pos y, if_neg c59]; rfl) (fun z => ?_)
        have z : 1 + 16 * plT t (fmS t (xsN x) true (xsK x + 1)).2.1 = 0 := z
        omega
    · rw [if_neg y]
      exact fin _ (by rw [if_neg y]) (fun z => absurd z y)
  · rw [hs] at h11
    rw [if_pos rfl]
    obtain ⟨m2, e2, _, Z2⟩ := p_failR H ht hR hF 3 (by decide) (by decide)
    replace e2 : M_Rd_fail (A 1) (iI 3) _ = _ := e2
    refine ⟨m2, ?_, Z2 x⟩
    rw [E_Rd_costLine_0]
    simp (disch := omega) only [cK_1 H, okO_ov, gd_true, aI_ov H.1, h11, bZ_0, l_0, l_3, e2, bnd_some, reduceCtorEq, ↓reduceIte, mw_ov]
/-! what is told stays well -/
theorem ln_ok {t : PD} (ht : wfT t) {x : XS} (hx : xOk t x) (h : (lnS t x).1 = 0) : xOk t (lnS t x).2 ∧ xsK x < xsK (lnS t x).2 := by
  obtain ⟨x1, x2, x3, x4, x5⟩ := hx
  have ep : ∀ k y y0, (epL t k y y0).1 = 0 → kdT t k = 59 ∧ epL t k y y0 = (0, y) := fun k y y0 z => by
    unfold epL at z ⊢
    by_cases c : kdT t k = 59
    · rw [if_pos c]; exact ⟨c, rfl⟩
    · rw [if_neg c] at z
      have z : 1 + 16 * plT t k = 0 := z
      omega
  unfold lnS at h ⊢
  by_cases c4 : kdT t (xsK x) = 4
  · rw [if_pos c4] at h ⊢
    have k1 := kOk_s x1 (show ¬ kdT t (xsK x) = 0 by omega)
    unfold thL at h ⊢
    by_cases a1 : (xsN x).length < 6
    · rw [if_pos a1] at h ⊢
      by_cases a2 : kdT t (xsK x + 1) = 3
      · rw [if_pos a2] at h ⊢
        have k2 := kOk_s k1 (show ¬ kdT t (xsK x + 1) = 0 by omega)
        by_cases a3 : idxN (xsN x) (wdK t (xsK x + 1)) = (xsN x).length
        · rw [if_pos a3] at h ⊢
          obtain ⟨b1, b2⟩ := ep _ _ _ h
          rw [b2]
          have hw := kd_W (t := t) (k := xsK x + 1) (by omega) (by omega) ht
          refine ⟨⟨kOk_s k2 (show ¬ kdT t (xsK x + 2) = 0 by omega), ⟨?_, fun n hn => ?_⟩, x3, x4, x5⟩, by show xsK x < xsK x + 3; omega⟩
          · show (xsN x ++ [wdK t (xsK x + 1)]).length ≤ 6
            rw [List.length_append, List.length_singleton]; omega
          · replace hn : n ∈ xsN x ++ [wdK t (xsK x + 1)] := hn
            rcases List.mem_append.mp hn with z | z
            · exact x2.2 n z
            · rw [List.mem_singleton.mp z]; exact wdK_ok hw
        · rw [if_neg a3] at h
          have h : 3 + 16 * plT t _ = 0 := h
          omega
      · rw [if_neg a2] at h
        have h : 1 + 16 * plT t _ = 0 := h
        omega
    · rw [if_neg a1] at h
      have h : 5 + 16 * plT t _ = 0 := h
      omega
  rw [if_neg c4] at h ⊢
  by_cases c5 : kdT t (xsK x) = 5
  · rw [if_pos c5] at h ⊢
    have k1 := kOk_s x1 (show ¬ kdT t (xsK x) = 0 by omega)
    unfold moL at h ⊢
    by_cases a1 : (xsM x).isSome = true
    · rw [if_pos a1] at h
      have h : 3 + 16 * plT t _ = 0 := h
      omega
    · rw [if_neg a1] at h ⊢
      obtain ⟨n1, n2⟩ := nu_R (t := t) (k := xsK x) (g := 9) (f := fun v => (xsK x + 3, xsN x, some v, xsB x, xsA x, xsC x)) (x := x)
      rw [n1] at h
      obtain ⟨y1, y2, y3, y4, y5⟩ := n2 h
      rw [y1]
      have k2 := kOk_s k1 (show ¬ kdT t (xsK x + 1) = 0 by omega)
      exact ⟨⟨kOk_s k2 (show ¬ kdT t (xsK x + 2) = 0 by omega), x2, fun v hv => by cases hv; exact ⟨y3, y4⟩, x4, x5⟩, by show xsK x < xsK x + 3; omega⟩
  rw [if_neg c5] at h ⊢
  by_cases c6 : kdT t (xsK x) = 6
  · rw [if_pos c6] at h ⊢
    have k1 := kOk_s x1 (show ¬ kdT t (xsK x) = 0 by omega)
    unfold baL at h ⊢
    by_cases a1 : (xsB x).isSome = true
    · rw [if_pos a1] at h
      have h : 3 + 16 * plT t _ = 0 := h
      omega
    · rw [if_neg a1] at h ⊢
      obtain ⟨n1, n2⟩ := nu_R (t := t) (k := xsK x) (g := 60) (f := fun v => (xsK x + 3, xsN x, xsM x, some v, xsA x, xsC x)) (x := x)
      rw [n1] at h
      obtain ⟨y1, y2, y3, y4, y5⟩ := n2 h
      rw [y1]
      have k2 := kOk_s k1 (show ¬ kdT t (xsK x + 1) = 0 by omega)
      exact ⟨⟨kOk_s k2 (show ¬ kdT t (xsK x + 2) = 0 by omega), x2, x3, fun v hv => by cases hv; exact ⟨y3, y4⟩, x5⟩, by show xsK x < xsK x + 3; omega⟩
  rw [if_neg c6] at h ⊢
  by_cases c7 : kdT t (xsK x) = 7
  · rw [if_pos c7] at h ⊢
    have k1 := kOk_s x1 (show ¬ kdT t (xsK x) = 0 by omega)
    unfold alL at h ⊢
    by_cases a1 : (xsA x).length < 4
    · rw [if_pos a1] at h ⊢
      by_cases a2 : (fmS t (xsN x) false (xsK x + 1)).1 = 0
      · rw [if_pos a2] at h ⊢
        obtain ⟨g1, g2, g3⟩ := fm_gd (t := t) (ns := xsN x) (ic := false) (xsK x + 1) k1 a2
        obtain ⟨b1, b2⟩ := ep _ _ _ h
        rw [b2]
        refine ⟨⟨kOk_s g1 (show ¬ kdT t _ = 0 by omega), x2, x3, x4, ?_⟩, by show xsK x < (fmS t (xsN x) false (xsK x + 1)).2.1 + 1; omega⟩
        show (xsA x ++ [(fmS t (xsN x) false (xsK x + 1)).2.2]).length ≤ 4
        rw [List.length_append, List.length_singleton]; omega
      · rw [if_neg a2] at h; exact absurd h a2
    · rw [if_neg a1] at h
      have h : 5 + 16 * plT t _ = 0 := h
      omega
  rw [if_neg c7] at h ⊢
  by_cases c8 : kdT t (xsK x) = 8
  · rw [if_pos c8] at h ⊢
    have k1 := kOk_s x1 (show ¬ kdT t (xsK x) = 0 by omega)
    unfold coL at h ⊢
    by_cases a1 : (xsC x).isSome = true
    · rw [if_pos a1] at h
      have h : 3 + 16 * plT t _ = 0 := h
      omega
    · rw [if_neg a1] at h ⊢
      by_cases a2 : (fmS t (xsN x) true (xsK x + 1)).1 = 0
      · rw [if_pos a2] at h ⊢
        obtain ⟨g1, g2, g3⟩ := fm_gd (t := t) (ns := xsN x) (ic := true) (xsK x + 1) k1 a2
        obtain ⟨b1, b2⟩ := ep _ _ _ h
        rw [b2]
        exact ⟨⟨kOk_s g1 (show ¬ kdT t _ = 0 by omega), x2, x3, x4, x5⟩, by show xsK x < (fmS t (xsN x) true (xsK x + 1)).2.1 + 1; omega⟩
      · rw [if_neg a2] at h; exact absurd h a2
  rw [if_neg c8] at h
  have h : 1 + 16 * plT t _ = 0 := h
  omega
