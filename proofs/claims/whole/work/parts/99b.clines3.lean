/-! ===== the class's lines, on ===== -/
theorem c_bar {t : PD} {A : Nat → Nat} {σ : AM} (H : LC A σ) (ht : wfT t) {x : XS} (hx : xOk t x) {c : List Nat} {m : VM} (hL : XSt t x c m) : ∃ m' : VM, M_Rd_barLine (A 1) (ov 68 A m σ) = some ((), (ov 68 A (m') σ)) ∧ XZ t (baL t x) m m' := by
  obtain ⟨hR, hT, hc⟩ := hL
  obtain ⟨x1, x2, x3, x4, x5⟩ := hx
  have hF := DN_F hT.2.1 x2
  have h9 := hT.1.2.1
  unfold M_Rd_barLine baL
  cases hs : (xsB x).isSome
  · rw [hs] at h9
    rw [if_neg (by decide)]
    have hR1 : XRs t (xsK x) (sV m 1 10 (iI 1)) := by
      refine ⟨⟨by simp (disch := decide) only [sV_eq, sW_eq, sV_ne, sW_ne, sV_2, sW_1, Nat.reduceEqDiff, ↓reduceIte]; exact hR.1.1, fun j hj => by rw [sV_ne _ _ _ _ (by decide)]; exact hR.1.2 j hj⟩, ?_, by simp (disch := decide) only [sV_eq, sW_eq, sV_ne, sW_ne, sV_2, sW_1, Nat.reduceEqDiff, ↓reduceIte]; exact hR.2.2⟩
      obtain ⟨a1, a2, a3, a4, a5⟩ := hR.2.1
      exact ⟨by simp (disch := decide) only [sV_eq, sW_eq, sV_ne, sW_ne, sV_2, sW_1, Nat.reduceEqDiff, ↓reduceIte]; exact a1, by simp (disch := decide) only [sV_eq, sW_eq, sV_ne, sW_ne, sV_2, sW_1, Nat.reduceEqDiff, ↓reduceIte]; exact a2, by simp (disch := decide) only [sV_eq, sW_eq, sV_ne, sW_ne, sV_2, sW_1, Nat.reduceEqDiff, ↓reduceIte]; exact a3, a4, fun z => by simp (disch := decide) only [sV_eq, sW_eq, sV_ne, sW_ne, sV_2, sW_1, Nat.reduceEqDiff, ↓reduceIte]; exact a5 z⟩
    obtain ⟨m1, v, e1, k1, k2, k3, k4⟩ := p_number H ht hR1 (g := 60) (by decide)
    replace e1 : M_Rd_numberUpTo (A 1) (iI 60) _ = _ := e1
    have e2 : M_Tw_setBar (A 3) v (ov 68 A m1 σ) = some ((), (ov 68 A (sV m1 3 9 v) σ)) := by
      unfold M_Tw_setBar
      rw [E_Tw_setBar_0]
      simp (disch := omega) only [cK_3 H, okO_ov, gd_true, letT_eq, sI_ov H.1, mw_ov]
    have o : OnRd m (sV m1 3 9 v) := OnRd_V (OnRd_t (OnRd_V (OnRd_r m) _ (by decide) (by decide)) (OnRd_P k1)) _ (by decide) (by decide)
    have h37 : m1.1 3 = m.1 3 := by rw [k2, sV_ne _ _ _ _ (by decide)]
    obtain ⟨n1, n2⟩ := nu_R (t := t) (k := xsK x) (g := 60) (f := fun v => (xsK x + 3, xsN x, xsM x, some v, xsA x, xsC x)) (x := x)
    refine ⟨sV m1 3 9 v, ?_, o, ?_, ?_, ?_, fun z => ?_⟩
    · rw [E_Rd_barLine_0]
      simp (disch := omega) only [cK_1 H, cR_1_1 H, cK_3 H, okO_ov, aR_ov, gd_true, aI_ov H.1, h9, bZ_0, l_0, l_1, l_60, letT_eq, sI_ov H.1, e1, e2, bnd_some, ↓reduceIte, mw_ov]
    · rw [n1]; simp (disch := decide) only [sV_eq, sW_eq, sV_ne, sW_ne, sV_2, sW_1, Nat.reduceEqDiff, ↓reduceIte]; exact k3
    · rw [n1]; exact nuR_le ht
    · obtain ⟨n, f1, f2⟩ := hF
      exact ⟨n, f1, by simp (disch := decide) only [sV_eq, sW_eq, sV_ne, sW_ne, sV_2, sW_1, Nat.reduceEqDiff, ↓reduceIte]; rw [h37]; exact f2⟩
    · rw [n1] at z
      obtain ⟨y1, y2, y3, y4, y5⟩ := n2 z
      obtain ⟨v1, v2, v3⟩ := k4 z
      rw [y1]
      refine ⟨c, ?_, ?_, by show c.length ≤ xsK x + 3; omega⟩
      · refine ⟨⟨by simp (disch := decide) only [sV_eq, sW_eq, sV_ne, sW_ne, sV_2, sW_1, Nat.reduceEqDiff, ↓reduceIte]; exact v2.1.1, fun j hj => by rw [sV_ne _ _ _ _ (by decide)]; exact v2.1.2 j hj⟩, ?_, by simp (disch := decide) only [sV_eq, sW_eq, sV_ne, sW_ne, sV_2, sW_1, Nat.reduceEqDiff, ↓reduceIte]; exact v2.2.2⟩
        obtain ⟨a1, a2, a3, a4, a5⟩ := v2.2.1
        exact ⟨by simp (disch := decide) only [sV_eq, sW_eq, sV_ne, sW_ne, sV_2, sW_1, Nat.reduceEqDiff, ↓reduceIte]; exact a1, by simp (disch := decide) only [sV_eq, sW_eq, sV_ne, sW_ne, sV_2, sW_1, Nat.reduceEqDiff, ↓reduceIte]; exact a2, by simp (disch := decide) only [sV_eq, sW_eq, sV_ne, sW_ne, sV_2, sW_1, Nat.reduceEqDiff, ↓reduceIte]; exact a3, a4, fun z => by simp (disch := decide) only [sV_eq, sW_eq, sV_ne, sW_ne, sV_2, sW_1, Nat.reduceEqDiff, ↓reduceIte]; exact a5 z⟩
      · obtain ⟨t1, t2, t3, t4, t5, t6⟩ := hT
        have w9 : m1.1 1 9 = bZ (xsM x).isSome := by rw [v3.2.1 9 (by decide)]; simp (disch := decide) only [sV_eq, sW_eq, sV_ne, sW_ne, sV_2, sW_1, Nat.reduceEqDiff, ↓reduceIte]; exact t1.1
        have w10 : m1.1 1 10 = iI 1 := by rw [v3.2.1 10 (by decide)]; simp (disch := decide) only [sV_eq, sW_eq, sV_ne, sW_ne, sV_2, sW_1, Nat.reduceEqDiff, ↓reduceIte]
        have w11 : m1.1 1 11 = bZ (xsC x).isSome := by rw [v3.2.1 11 (by decide)]; simp (disch := decide) only [sV_eq, sW_eq, sV_ne, sW_ne, sV_2, sW_1, Nat.reduceEqDiff, ↓reduceIte]; exact t1.2.2
        refine ⟨⟨by simp (disch := decide) only [sV_eq, sW_eq, sV_ne, sW_ne, sV_2, sW_1, Nat.reduceEqDiff, ↓reduceIte]; exact w9, by simp (disch := decide) only [sV_eq, sW_eq, sV_ne, sW_ne, sV_2, sW_1, Nat.reduceEqDiff, ↓reduceIte]; exact w10, by simp (disch := decide) only [sV_eq, sW_eq, sV_ne, sW_ne, sV_2, sW_1, Nat.reduceEqDiff, ↓reduceIte]; exact w11⟩, ⟨by simp (disch := decide) only [sV_eq, sW_eq, sV_ne, sW_ne, sV_2, sW_1, Nat.reduceEqDiff, ↓reduceIte]; rw [h37]; exact t2.1, fun i hi => by rw [sV_2, v3.2.2 4 (by decide), sV_2]; exact t2.2 i hi⟩, ⟨by simp (disch := decide) only [sV_eq, sW_eq, sV_ne, sW_ne, sV_2, sW_1, Nat.reduceEqDiff, ↓reduceIte]; rw [h37]; exact t3.1, by rw [sV_ne _ _ _ _ (by decide), v3.1 5 (by decide), sV_ne _ _ _ _ (by decide)]; exact t3.2⟩, ⟨by simp (disch := decide) only [sV_eq, sW_eq, sV_ne, sW_ne, sV_2, sW_1, Nat.reduceEqDiff, ↓reduceIte]; rw [h37]; exact t4.1, by simp (disch := decide) only [sV_eq, sW_eq, sV_ne, sW_ne, sV_2, sW_1, Nat.reduceEqDiff, ↓reduceIte]; exact v1, by simp (disch := decide) only [sV_eq, sW_eq, sV_ne, sW_ne, sV_2, sW_1, Nat.reduceEqDiff, ↓reduceIte]; rw [h37]; exact t4.2.2⟩, ?_, ?_⟩
        · rw [sV_ne _ _ _ _ (by decide), sV_ne _ _ _ _ (by decide), v3.1 6 (by decide), v3.1 7 (by decide), sV_ne _ _ _ _ (by decide), sV_ne _ _ _ _ (by decide)]; exact t5
        · rw [sV_ne _ _ _ _ (by decide), sV_ne _ _ _ _ (by decide), v3.1 6 (by decide), v3.1 7 (by decide), sV_ne _ _ _ _ (by decide), sV_ne _ _ _ _ (by decide)]; exact t6
  · rw [hs] at h9
    rw [if_pos rfl]
    obtain ⟨m2, e2, _, Z2⟩ := p_failR H ht hR hF 3 (by decide) (by decide)
    replace e2 : M_Rd_fail (A 1) (iI 3) _ = _ := e2
    refine ⟨m2, ?_, Z2 x⟩
    rw [E_Rd_barLine_0]
    simp (disch := omega) only [cK_1 H, okO_ov, gd_true, aI_ov H.1, h9, bZ_0, l_0, l_3, e2, bnd_some, reduceCtorEq, ↓reduceIte, mw_ov]
/-! the line of an allow -/
theorem XP {t : PD} {x : XS} {c : List Nat} {m : VM} {ic : Bool} {k : Nat} (hR : XRs t k m) (h12 : m.1 1 12 = bZ ic) (hN : DN (xsN x) m) (hC : DC c m) : PS t (xsN x) ic k c m := ⟨hR.1, hR.2.1, hR.2.2, h12, hN, hC⟩
theorem fm_gd {t : PD} {ns : List (List Nat)} {ic : Bool} : gdP t (fmS t ns ic) := ex_gd (pa_gd 5) 4 (Nat.le_refl _)
/-- a formula and the sign behind it -/
theorem p_formula {t : PD} {A : Nat → Nat} {σ : AM} (H : LC A σ) (ht : wfT t) {ns : List (List Nat)} (hn : nsOk ns) {ic : Bool} {k : Nat} {c : List Nat} {m : VM} (hk : kOk t k) (hc : c.length ≤ k) (hP : PS t ns ic k c m) : ∃ m1 m2 : VM, M_Rd_expression (A 1) (iI 0) (iI 0) (ov 68 A m σ) = some ((), (ov 68 A m1 σ)) ∧ M_Rd_expect (A 1) (iI 59) (ov 68 A m1 σ) = some ((), (ov 68 A m2 σ)) ∧ OnPr m m2 ∧ UO m2 ∧ m2.1 1 8 = iI ((if (fmS t ns ic k).1 = 0 then (if kdT t (fmS t ns ic k).2.1 = 59 then 0 else 1 + 16 * plT t (fmS t ns ic k).2.1) else (fmS t ns ic k).1 : Nat) : Int) ∧ (if (fmS t ns ic k).1 = 0 then (if kdT t (fmS t ns ic k).2.1 = 59 then 0 else 1 + 16 * plT t (fmS t ns ic k).2.1) else (fmS t ns ic k).1 : Nat) ≤ 20000 ∧ ((fmS t ns ic k).1 = 0 → kdT t (fmS t ns ic k).2.1 = 59 → XRs t ((fmS t ns ic k).2.1 + 1) m2 ∧ DC (c ++ (fmS t ns ic k).2.2) m2) := by
  obtain ⟨m1, e1, y1, y2, y3, y4, y5⟩ := c_formula H ht hn (ic := ic) k c m hk hc hP
  replace e1 : M_Rd_expression (A 1) (iI 0) (iI 0) (ov 68 A m σ) = some ((), (ov 68 A m1 σ)) := e1
  replace y3 : m1.1 1 8 = iI ((fmS t ns ic k).1 : Int) := y3
  replace y4 : (fmS t ns ic k).1 ≤ 20000 := y4
  replace y5 : (fmS t ns ic k).1 = 0 → PS t ns ic (fmS t ns ic k).2.1 (c ++ (fmS t ns ic k).2.2) m1 := y5
  by_cases y : (fmS t ns ic k).1 = 0
  · have p1 := y5 y
    obtain ⟨m2, e2, k4, k5⟩ := p_expR H ht (k := (fmS t ns ic k).2.1) ⟨p1.1, p1.2.1, p1.2.2.1⟩
    have hp := pl_b ht (fmS t ns ic k).2.1
    refine ⟨m1, m2, e1, e2, ?_⟩
    rw [if_pos y]
    by_cases c59 : kdT t (fmS t ns ic k).2.1 = 59
    · obtain ⟨k6, k7⟩ := k4 c59
      rw [if_pos c59]
      exact ⟨OnPr_t y1 (OnPr_A k6), UO_A y2 k6, k7.2.2, Nat.zero_le _, fun _ _ => ⟨k7, DC_A p1.2.2.2.2.2 k6⟩⟩
    · obtain ⟨k6, k7, k8⟩ := k5 c59
      rw [if_neg c59]
      refine ⟨OnPr_t y1 k6, ?_, k8, by omega, fun _ z => absurd z c59⟩
      obtain ⟨u, u1, u2⟩ := y2
      exact ⟨u, u1, by rw [k7]; exact u2⟩
  · have e2 := p_expectF H y3 y y4 (iI 59)
    refine ⟨m1, m1, e1, e2, ?_⟩
    rw [if_neg y]
    exact ⟨y1, y2, y3, y4, fun z => absurd z y⟩
theorem c_allow {t : PD} {A : Nat → Nat} {σ : AM} (H : LC A σ) (ht : wfT t) {x : XS} (hx : xOk t x) {c : List Nat} {m : VM} (hL : XSt t x c m) (hk7 : kdT t (xsK x) = 7) : ∃ m' : VM, M_Rd_allowLine (A 1) (ov 68 A m σ) = some ((), (ov 68 A (m') σ)) ∧ XZ t (alL t x) m m' := by
  obtain ⟨hR, hT, hc⟩ := hL
  obtain ⟨x1, x2, x3, x4, x5⟩ := hx
  have hF := DN_F hT.2.1 x2
  have hk1 := kOk_s x1 (show ¬ kdT t (xsK x) = 0 by omega)
  have hkl := kOk_le ht hk1
  have h310 := hT.2.2.2.1.2.2
  have q1 : ∀ mm : VM, mm.1 3 10 = iI ((xsA x).length : Int) → M_Tw_allows (A 3) (ov 68 A mm σ) = some (iI ((xsA x).length : Int), (ov 68 A mm σ)) := fun mm h => by
    unfold M_Tw_allows
    rw [E_Tw_allows_0]
    simp (disch := omega) only [cK_3 H, okO_ov, gd_true, aI_ov H.1, h, mw_ov]
  unfold M_Rd_allowLine alL
  by_cases c4 : (xsA x).length < 4
  · rw [if_pos c4]
    -- the begin
    have e0 : M_Tw_beginAllow (A 3) (ov 68 A (sV m 1 12 (iI 0)) σ) = some ((), (ov 68 A (sV (sV m 1 12 (iI 0)) 6 (xsA x).length (iI (c.length : Int))) σ)) := by
      have h1 : (sV m 1 12 (iI 0)).1 3 10 = iI ((xsA x).length : Int) := by simp (disch := decide) only [sV_eq, sW_eq, sV_ne, sW_ne, sV_2, sW_1, Nat.reduceEqDiff, ↓reduceIte]; exact h310
      have h2 : (sV m 1 12 (iI 0)).1 3 6 = iI (c.length : Int) := by simp (disch := decide) only [sV_eq, sW_eq, sV_ne, sW_ne, sV_2, sW_1, Nat.reduceEqDiff, ↓reduceIte]; exact hT.2.2.1.1
      unfold M_Tw_beginAllow
      rw [E_Tw_beginAllow_0]
      simp (disch := omega) only [E_Tw_beginAllow_1, cK_3 H, cR_3_2 H, cK_6 H, cN_6 H, okO_ov, aR_ov, aN_ov, gd_true, gd_in, iI_cl, Int.toNat_natCast, aI_ov H.1, sI_ov H.1, letT_eq, h1, h2, l_4, iI_lt]
      rw [if_pos (by omega), mw_ov]
    generalize hm0 : sV (sV m 1 12 (iI 0)) 6 (xsA x).length (iI (c.length : Int)) = m0 at *
    have R0 : XRs t (xsK x) m0 := by
      rw [← hm0]
      refine ⟨⟨by simp (disch := decide) only [sV_eq, sW_eq, sV_ne, sW_ne, sV_2, sW_1, Nat.reduceEqDiff, ↓reduceIte]; exact hR.1.1, fun j hj => by rw [sV_ne _ _ _ _ (by decide), sV_ne _ _ _ _ (by decide)]; exact hR.1.2 j hj⟩, ?_, by simp (disch := decide) only [sV_eq, sW_eq, sV_ne, sW_ne, sV_2, sW_1, Nat.reduceEqDiff, ↓reduceIte]; exact hR.2.2⟩
      obtain ⟨a1, a2, a3, a4, a5⟩ := hR.2.1
      exact ⟨by simp (disch := decide) only [sV_eq, sW_eq, sV_ne, sW_ne, sV_2, sW_1, Nat.reduceEqDiff, ↓reduceIte]; exact a1, by simp (disch := decide) only [sV_eq, sW_eq, sV_ne, sW_ne, sV_2, sW_1, Nat.reduceEqDiff, ↓reduceIte]; exact a2, by simp (disch := decide) only [sV_eq, sW_eq, sV_ne, sW_ne, sV_2, sW_1, Nat.reduceEqDiff, ↓reduceIte]; exact a3, a4, fun z => by simp (disch := decide) only [sV_eq, sW_eq, sV_ne, sW_ne, sV_2, sW_1, Nat.reduceEqDiff, ↓reduceIte]; exact a5 z⟩
    have h012 : m0.1 1 12 = bZ false := by rw [← hm0]; simp (disch := decide) only [sV_eq, sW_eq, sV_ne, sW_ne, sV_2, sW_1, Nat.reduceEqDiff, ↓reduceIte]; rfl
    have N0 : DN (xsN x) m0 := by rw [← hm0]; exact ⟨by simp (disch := decide) only [sV_eq, sW_eq, sV_ne, sW_ne, sV_2, sW_1, Nat.reduceEqDiff, ↓reduceIte]; exact hT.2.1.1, hT.2.1.2⟩
    have C0' : DC c m0 := by rw [← hm0]; exact ⟨by simp (disch := decide) only [sV_eq, sW_eq, sV_ne, sW_ne, sV_2, sW_1, Nat.reduceEqDiff, ↓reduceIte]; exact hT.2.2.1.1, by rw [sV_ne _ _ _ _ (by decide), sV_ne _ _ _ _ (by decide)]; exact hT.2.2.1.2⟩
    obtain ⟨m1, e1, k1, r1⟩ := p_advR H ht R0
    obtain ⟨m2, m3, e2, e3, f1, f2, f3, f4, f5⟩ := p_formula H ht x2 (ic := false) hk1 (show c.length ≤ xsK x + 1 by omega) (XP r1 (by rw [k1.2.1 12 (by decide)]; exact h012) (DN_A N0 k1) (DC_A C0' k1))
    have o03 : OnPr m0 m3 := OnPr_t (OnPr_A k1) f1
    have h3 : m3.1 3 10 = iI ((xsA x).length : Int) := by rw [o03.2.2.1 10 (by decide), ← hm0]; simp (disch := decide) only [sV_eq, sW_eq, sV_ne, sW_ne, sV_2, sW_1, Nat.reduceEqDiff, ↓reduceIte]; exact h310
    have h37 : m3.1 3 7 = iI ((xsN x).length : Int) := by rw [o03.2.2.1 7 (by decide)]; exact N0.1
    obtain ⟨u, u1, u2⟩ := f2
    have e4 : M_Tw_endAllow (A 3) (ov 68 A m3 σ) = some ((), (ov 68 A (sV (sV m3 7 (xsA x).length (iI (u : Int))) 3 10 (iI (((xsA x).length + 1 : Nat) : Int))) σ)) := by
      have h4 : (sV m3 7 (xsA x).length (iI (u : Int))).1 3 10 = iI ((xsA x).length : Int) := by simp (disch := decide) only [sV_eq, sW_eq, sV_ne, sW_ne, sV_2, sW_1, Nat.reduceEqDiff, ↓reduceIte]; exact h3
      unfold M_Tw_endAllow
      rw [E_Tw_endAllow_0]
      simp (disch := omega) only [E_Tw_endAllow_1, cK_3 H, cR_3_3 H, cK_7 H, cN_7 H, okO_ov, aR_ov, aN_ov, gd_true, gd_in, iI_cl, Int.toNat_natCast, aI_ov H.1, sI_ov H.1, letT_eq, h3, h4, u2, l_1, l_4, iI_lt, iI_add, iI_s]
      rw [if_pos (by omega), mw_ov]
    have oA : OnRd m (sV (sV m3 7 (xsA x).length (iI (u : Int))) 3 10 (iI (((xsA x).length + 1 : Nat) : Int))) := by
      refine OnRd_V (OnRd_V (OnRd_t ?_ (OnRd_P o03)) _ (by decide) (by omega)) _ (by decide) (by decide)
      rw [← hm0]
      exact OnRd_V (OnRd_V (OnRd_r m) _ (by decide) (by decide)) _ (by decide) (by omega)
    have fin : ∀ r : XR, r.1 = (if (fmS t (xsN x) false (xsK x + 1)).1 = 0 then (if kdT t (fmS t (xsN x) false (xsK x + 1)).2.1 = 59 then 0 else 1 + 16 * plT t (fmS t (xsN x) false (xsK x + 1)).2.1) else (fmS t (xsN x) false (xsK x + 1)).1 : Nat) → (r.1 = 0 → ∃ cc, XSt t r.2 cc (sV (sV m3 7 (xsA x).length (iI (u : Int))) 3 10 (iI (((xsA x).length + 1 : Nat) : Int)))) → ∃ m' : VM, mw (ov 68 A m σ) (L_Rd_allowLine_0 (A 1) (ov 68 A m σ)) = some ((), (ov 68 A (m') σ)) ∧ XZ t r m m' := fun r hr hr2 => by
      refine ⟨_, ?_, oA, ?_, by rw [hr]; exact f4, ⟨(xsN x).length, x2.1, by simp (disch := decide) only [sV_eq, sW_eq, sV_ne, sW_ne, sV_2, sW_1, Nat.reduceEqDiff, ↓reduceIte]; exact h37⟩, hr2⟩
      · rw [E_Rd_allowLine_0]
        simp (disch := omega) only [cK_1 H, cR_1_1 H, cK_3 H, okO_ov, aR_ov, gd_true, q1 m h310, bnd_some, l_0, l_4, l_59, iI_lt, sI_ov H.1, letT_eq, e0, e1, e2, e3, e4]
        rw [if_pos (by omega), mw_ov]
      · rw [hr]; simp (disch := decide) only [sV_eq, sW_eq, sV_ne, sW_ne, sV_2, sW_1, Nat.reduceEqDiff, ↓reduceIte]; exact f3
    by_cases y : (fmS t (xsN x) false (xsK x + 1)).1 = 0
    · rw [if_pos y]
      unfold epL
      by_cases c59 : kdT t (fmS t (xsN x) false (xsK x + 1)).2.1 = 59
      · rw [if_pos c59]
        refine fin _ (by rw [if_pos y, if_pos c59]) (fun _ => ?_)
        obtain ⟨g1, g2, g3⟩ := fm_gd (t := t) (ns := xsN x) (ic := false) (xsK x + 1) hk1 y
        have hgl := kOk_le ht g1
        obtain ⟨r3, d3⟩ := f5 y c59
        have eu : u = (c ++ (fmS t (xsN x) false (xsK x + 1)).2.2).length := by
          have := u2.symm.trans d3.1
          rw [iI_eq (by omega) (by omega) (by omega) (by rw [List.length_append]; omega)] at this
          omega
        refine ⟨c ++ (fmS t (xsN x) false (xsK x + 1)).2.2, ?_, ?_, ?_⟩
        · refine ⟨⟨by simp (disch := decide) only [sV_eq, sW_eq, sV_ne, sW_ne, sV_2, sW_1, Nat.reduceEqDiff, ↓reduceIte]; exact r3.1.1, fun j hj => by rw [sV_ne _ _ _ _ (by decide), sV_ne _ _ _ _ (by decide)]; exact r3.1.2 j hj⟩, ?_, by simp (disch := decide) only [sV_eq, sW_eq, sV_ne, sW_ne, sV_2, sW_1, Nat.reduceEqDiff, ↓reduceIte]; exact r3.2.2⟩
          obtain ⟨a1, a2, a3, a4, a5⟩ := r3.2.1
          exact ⟨by simp (disch := decide) only [sV_eq, sW_eq, sV_ne, sW_ne, sV_2, sW_1, Nat.reduceEqDiff, ↓reduceIte]; exact a1, by simp (disch := decide) only [sV_eq, sW_eq, sV_ne, sW_ne, sV_2, sW_1, Nat.reduceEqDiff, ↓reduceIte]; exact a2, by simp (disch := decide) only [sV_eq, sW_eq, sV_ne, sW_ne, sV_2, sW_1, Nat.reduceEqDiff, ↓reduceIte]; exact a3, a4, fun z => by simp (disch := decide) only [sV_eq, sW_eq, sV_ne, sW_ne, sV_2, sW_1, Nat.reduceEqDiff, ↓reduceIte]; exact a5 z⟩
        · obtain ⟨t1, t2, t3, t4, t5, t6⟩ := hT
          have w : ∀ j, j ∉ [3, 4, 5, 6, 8] → j ≠ 12 → m3.1 1 j = m.1 1 j := fun j hj h12 => by rw [o03.2.1 j hj, ← hm0, sV_ne _ _ _ _ (by decide), sV_eq, if_neg h12]
          have w3 : ∀ j, j ≠ 6 → m3.1 3 j = m.1 3 j := fun j hj => by rw [o03.2.2.1 j hj, ← hm0, sV_ne _ _ _ _ (by decide), sV_ne _ _ _ _ (by decide)]
          have w6 : ∀ j, m3.1 6 j = if j = (xsA x).length then iI (c.length : Int) else m.1 6 j := fun j => by rw [o03.1 6 (by decide) (by decide) (by decide), ← hm0, sV_eq, sV_ne _ _ _ _ (by decide)]
          have w7 : m3.1 7 = m.1 7 := by rw [o03.1 7 (by decide) (by decide) (by decide), ← hm0, sV_ne _ _ _ _ (by decide), sV_ne _ _ _ _ (by decide)]
          have w2 : m3.2 4 = m.2 4 := by rw [o03.2.2.2 4 (by decide), ← hm0, sV_2, sV_2]
          have v6 : ∀ j, (sV (sV m3 7 (xsA x).length (iI (u : Int))) 3 10 (iI (((xsA x).length + 1 : Nat) : Int))).1 6 j = if j = (xsA x).length then iI (c.length : Int) else m.1 6 j := fun j => by rw [sV_ne _ _ _ _ (by decide), sV_ne _ _ _ _ (by decide)]; exact w6 j
          have v7 : ∀ j, (sV (sV m3 7 (xsA x).length (iI (u : Int))) 3 10 (iI (((xsA x).length + 1 : Nat) : Int))).1 7 j = if j = (xsA x).length then iI (u : Int) else m.1 7 j := fun j => by rw [sV_ne _ _ _ _ (by decide), sV_eq, w7]
          refine ⟨⟨by simp (disch := decide) only [sV_eq, sW_eq, sV_ne, sW_ne, sV_2, sW_1, Nat.reduceEqDiff, ↓reduceIte]; rw [w 9 (by decide) (by decide)]; exact t1.1, by simp (disch := decide) only [sV_eq, sW_eq, sV_ne, sW_ne, sV_2, sW_1, Nat.reduceEqDiff, ↓reduceIte]; rw [w 10 (by decide) (by decide)]; exact t1.2.1, by simp (disch := decide) only [sV_eq, sW_eq, sV_ne, sW_ne, sV_2, sW_1, Nat.reduceEqDiff, ↓reduceIte]; rw [w 11 (by decide) (by decide)]; exact t1.2.2⟩, ⟨by simp (disch := decide) only [sV_eq, sW_eq, sV_ne, sW_ne, sV_2, sW_1, Nat.reduceEqDiff, ↓reduceIte]; rw [w3 7 (by decide)]; exact t2.1, fun i hi => by rw [sV_2, sV_2, w2]; exact t2.2 i hi⟩, ⟨by simp (disch := decide) only [sV_eq, sW_eq, sV_ne, sW_ne, sV_2, sW_1, Nat.reduceEqDiff, ↓reduceIte]; exact d3.1, by rw [sV_ne _ _ _ _ (by decide), sV_ne _ _ _ _ (by decide)]; exact d3.2⟩, ⟨by simp (disch := decide) only [sV_eq, sW_eq, sV_ne, sW_ne, sV_2, sW_1, Nat.reduceEqDiff, ↓reduceIte]; rw [w3 8 (by decide)]; exact t4.1, by simp (disch := decide) only [sV_eq, sW_eq, sV_ne, sW_ne, sV_2, sW_1, Nat.reduceEqDiff, ↓reduceIte]; rw [w3 9 (by decide)]; exact t4.2.1, ?_⟩, fun i hi => ?_, ?_⟩
          · show _ = iI (((xsA x ++ [(fmS t (xsN x) false (xsK x + 1)).2.2]).length : Nat) : Int)
            rw [List.length_append, List.length_singleton]; simp (disch := decide) only [sV_eq, sW_eq, sV_ne, sW_ne, sV_2, sW_1, Nat.reduceEqDiff, ↓reduceIte]
          · replace hi : i < (xsA x ++ [(fmS t (xsN x) false (xsK x + 1)).2.2]).length := hi
            rw [List.length_append, List.length_singleton] at hi
            show ∃ s : Nat, _ = _ ∧ _ = iI ((s + ((xsA x ++ [(fmS t (xsN x) false (xsK x + 1)).2.2]).getD i []).length : Nat) : Int) ∧ slc _ s ((xsA x ++ [(fmS t (xsN x) false (xsK x + 1)).2.2]).getD i []) ∧ 0 < ((xsA x ++ [(fmS t (xsN x) false (xsK x + 1)).2.2]).getD i []).length
            rw [v6, v7]
            by_cases e : i = (xsA x).length
            · subst e
              rw [if_pos rfl, if_pos rfl, getD_app2]
              exact ⟨c.length, rfl, by rw [eu, List.length_append], slc_new _ _, g3⟩
            · rw [if_neg e, if_neg e, getD_app1 _ _ _ (by omega)]
              obtain ⟨s, s1, s2, s3, s4⟩ := t5 i (by omega)
              exact ⟨s, s1, s2, slc_app s3 _, s4⟩
          · obtain ⟨s, s1, s2, s3, s4⟩ := t6
            exact ⟨s, by rw [v6, if_neg (by omega)]; exact s1, by rw [v7, if_neg (by omega)]; exact s2, slc_app s3 _, s4⟩
        · show (c ++ (fmS t (xsN x) false (xsK x + 1)).2.2).length ≤ (fmS t (xsN x) false (xsK x + 1)).2.1 + 1
          rw [List.length_append]; omega
      · rw [if_neg c59]
        refine fin _ (by rw [if_pos y, if_neg c59]; rfl) (fun z => ?_)
        have z : 1 + 16 * plT t (fmS t (xsN x) false (xsK x + 1)).2.1 = 0 := z
        omega
    · rw [if_neg y]
      exact fin _ (by rw [if_neg y]) (fun z => absurd z y)
  · rw [if_neg c4]
    obtain ⟨m2, e2, _, Z2⟩ := p_failR H ht hR hF 5 (by decide) (by decide)
    replace e2 : M_Rd_fail (A 1) (iI 5) _ = _ := e2
    refine ⟨m2, ?_, Z2 x⟩
    rw [E_Rd_allowLine_0]
    simp (disch := omega) only [cK_1 H, cR_1_1 H, cK_3 H, okO_ov, aR_ov, gd_true, q1 m h310, bnd_some, l_4, l_5, iI_lt, e2]
    rw [if_neg (by omega), mw_ov]
