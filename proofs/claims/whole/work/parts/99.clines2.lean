/-! ===== the lines of numbers ===== -/
theorem vl_lt {t : PD} {k : Nat} (h : kdT t k = 2) (ht : wfT t) : vlK t k < 10000 := by
  have hk := h
  unfold kdT kT0 at hk
  by_cases c : plT t k < t.1
  · rw [if_pos c] at hk
    by_cases c1 : isLt (t.2 (plT t k)) = true
    · rw [if_pos c1] at hk
      by_cases c2 : 8 < eT t (plT t k) - plT t k
      · rw [if_pos c2] at hk; omega
      · rw [if_neg c2] at hk
        have wk3 : ∀ n l, 3 ≤ wk l n := by
          intro n l
          induction n with
          | zero => exact Nat.le_refl _
          | succ n ih =>
            show 3 ≤ (if wlT n = l then 4 + n else wk l n)
            split <;> omega
        have := wk3 10 (wdT t (plT t k) (eT t (plT t k)))
        omega
    · rw [if_neg c1] at hk
      by_cases c2 : isDg (t.2 (plT t k)) = true
      · rw [if_pos c2] at hk
        by_cases c3 : 4 < eT t (plT t k) - plT t k
        · rw [if_pos c3] at hk; omega
        · have ee : eT t (plT t k) = enT t isDg (plT t k) := by unfold eT; rw [if_pos c, if_neg c1, if_pos c2]
          have h1 := nm10_lt (l := wdK t k) (wd_in fun j j1 j2 => by rw [ee] at j2; exact en_in j1 j2)
          have h2 : (wdK t k).length ≤ 4 := by unfold wdK; rw [wd_len]; omega
          have h3 : (10 : Nat) ^ (wdK t k).length ≤ 10 ^ 4 := Nat.pow_le_pow_right (by omega) h2
          exact Nat.lt_of_lt_of_le h1 h3
      · rw [if_neg c2] at hk
        by_cases c3 : isSg (t.2 (plT t k)) = true
        · rw [if_pos c3] at hk
          rw [hk] at c3
          exact absurd c3 (by decide)
        · rw [if_neg c3] at hk; omega
  · rw [if_neg c] at hk; omega
def nuR (t : PD) (k g : Nat) : Nat := if kdT t (k + 1) = 2 then (if vlK t (k + 1) < 1 ∨ g < vlK t (k + 1) then 4 + 16 * plT t (k + 1) else if kdT t (k + 2) = 59 then 0 else 1 + 16 * plT t (k + 2)) else 1 + 16 * plT t (k + 1)
theorem p_number {t : PD} {A : Nat → Nat} {σ : AM} (H : LC A σ) (ht : wfT t) {k : Nat} {m : VM} (h : XRs t k m) {g : Nat} (hg : g ≤ 60) : ∃ (m' : VM) (v : Int32), M_Rd_numberUpTo (A 1) (iI (g : Int)) (ov 68 A m σ) = some (v, (ov 68 A (m') σ)) ∧ OnPr m m' ∧ m'.1 3 = m.1 3 ∧ m'.1 1 8 = iI (nuR t k g : Int) ∧ (nuR t k g = 0 → v = iI (vlK t (k + 1) : Int) ∧ XRs t (k + 3) m' ∧ OnA m m') := by
  obtain ⟨m1, e1, k1, r1⟩ := p_advR H ht h
  have hkd := kd_lt ht (k + 1)
  have h4 : m1.1 1 4 = iI (kdT t (k + 1) : Int) := r1.2.1.2.2.1
  have k13 : m1.1 3 = m.1 3 := k1.1 3 (by decide)
  unfold M_Rd_numberUpTo nuR
  by_cases c2 : kdT t (k + 1) = 2
  · rw [if_pos c2]
    have hv := vl_lt c2 ht
    have h6 : m1.1 1 6 = iI (vlK t (k + 1) : Int) := r1.2.1.2.2.2.2 c2
    by_cases cg : vlK t (k + 1) < 1 ∨ g < vlK t (k + 1)
    · rw [if_pos cg]
      obtain ⟨m2, e2, a1, a2, a3⟩ := p_fail H (t := t) (k := k + 1) r1.2.1.2.1 r1.2.2 4
      replace e2 : M_Rd_fail (A 1) (iI 4) _ = _ := e2
      refine ⟨m2, iI 1, ?_, OnPr_t (OnPr_A k1) a1, a2.trans k13, a3, fun z => by omega⟩
      rw [E_Rd_numberUpTo_0]
      simp (disch := omega) only [E_Rd_numberUpTo_1, cK_1 H, okO_ov, gd_true, e1, bnd_some, aI_ov H.1, h4, h6, l_1, l_2, l_4, iI_eq, iI_lt, e2]
      rw [if_pos (by omega)]
      by_cases z : vlK t (k + 1) < 1
      · rw [if_pos (by omega), mw_ov]
      · rw [if_neg (by omega), if_pos (by omega), mw_ov]
    · rw [if_neg cg]
      obtain ⟨m2, e2, k2, r2⟩ := p_advR H ht r1
      obtain ⟨m3, e3, k4, k5⟩ := p_expR H ht r2
      have ev : L_Rd_numberUpTo_0 (A 1) (iI (g : Int)) (ov 68 A m σ) = some (iI (vlK t (k + 1) : Int), (ov 68 A m3 σ)) := by
        rw [E_Rd_numberUpTo_0]
        simp (disch := omega) only [E_Rd_numberUpTo_1, cK_1 H, okO_ov, gd_true, e1, bnd_some, aI_ov H.1, h4, h6, l_1, l_2, l_4, l_59, iI_eq, iI_lt, letT_eq, e2, e3]
        rw [if_pos (by omega), if_neg (by omega), if_neg (by omega)]
      by_cases c59 : kdT t (k + 2) = 59
      · obtain ⟨k6, k7⟩ := k4 c59
        rw [if_pos c59]
        refine ⟨m3, _, by rw [ev, mw_ov], OnPr_t (OnPr_A k1) (OnPr_t (OnPr_A k2) (OnPr_A k6)), ?_, k7.2.2, fun _ => ⟨rfl, k7, OnA_t k1 (OnA_t k2 k6)⟩⟩
        rw [k6.1 3 (by decide), k2.1 3 (by decide), k13]
      · obtain ⟨k6, k7, k8⟩ := k5 c59
        rw [if_neg c59]
        refine ⟨m3, _, by rw [ev, mw_ov], OnPr_t (OnPr_A k1) (OnPr_t (OnPr_A k2) k6), ?_, k8, fun z => by omega⟩
        rw [k7, k2.1 3 (by decide), k13]
  · rw [if_neg c2]
    obtain ⟨m2, e2, a1, a2, a3⟩ := p_fail H (t := t) (k := k + 1) r1.2.1.2.1 r1.2.2 1
    replace e2 : M_Rd_fail (A 1) (iI 1) _ = _ := e2
    refine ⟨m2, iI 1, ?_, OnPr_t (OnPr_A k1) a1, a2.trans k13, a3, fun z => by omega⟩
    rw [E_Rd_numberUpTo_0]
    simp (disch := omega) only [cK_1 H, okO_ov, gd_true, e1, bnd_some, aI_ov H.1, h4, l_1, l_2, iI_eq, e2]
    rw [if_neg (by omega), mw_ov]
theorem nu_R {t : PD} {k g : Nat} {f : Nat → XS} {x : XS} : (nuL t k g f x).1 = nuR t k g ∧ (nuR t k g = 0 → nuL t k g f x = (0, f (vlK t (k + 1))) ∧ kdT t (k + 1) = 2 ∧ 1 ≤ vlK t (k + 1) ∧ vlK t (k + 1) ≤ g ∧ kdT t (k + 2) = 59) := by
  unfold nuL nuR epL
  by_cases c2 : kdT t (k + 1) = 2
  · rw [if_pos c2, if_pos c2]
    by_cases cg : vlK t (k + 1) < 1 ∨ g < vlK t (k + 1)
    · rw [if_pos cg, if_pos cg]
      exact ⟨rfl, fun z => by omega⟩
    · rw [if_neg cg, if_neg cg]
      by_cases c59 : kdT t (k + 2) = 59
      · rw [if_pos c59, if_pos c59]
        exact ⟨rfl, fun _ => ⟨rfl, c2, by omega, by omega, c59⟩⟩
      · rw [if_neg c59, if_neg c59]
        exact ⟨rfl, fun z => by omega⟩
  · rw [if_neg c2, if_neg c2]
    exact ⟨rfl, fun z => by omega⟩
theorem nuR_le {t : PD} (ht : wfT t) {k g : Nat} : nuR t k g ≤ 20000 := by
  have h1 := pl_b ht (k + 1)
  have h2 := pl_b ht (k + 2)
  unfold nuR
  split
  · split
    · omega
    · split <;> omega
  · omega
theorem c_most {t : PD} {A : Nat → Nat} {σ : AM} (H : LC A σ) (ht : wfT t) {x : XS} (hx : xOk t x) {c : List Nat} {m : VM} (hL : XSt t x c m) : ∃ m' : VM, M_Rd_mostLine (A 1) (ov 68 A m σ) = some ((), (ov 68 A (m') σ)) ∧ XZ t (moL t x) m m' := by
  obtain ⟨hR, hT, hc⟩ := hL
  obtain ⟨x1, x2, x3, x4, x5⟩ := hx
  have hF := DN_F hT.2.1 x2
  have h9 := hT.1.1
  unfold M_Rd_mostLine moL
  cases hs : (xsM x).isSome
  · rw [hs] at h9
    rw [if_neg (by decide)]
    have hR1 : XRs t (xsK x) (sV m 1 9 (iI 1)) := by
      refine ⟨⟨by simp (disch := decide) only [sV_eq, sW_eq, sV_ne, sW_ne, sV_2, sW_1, Nat.reduceEqDiff, ↓reduceIte]; exact hR.1.1, fun j hj => by rw [sV_ne _ _ _ _ (by decide)]; exact hR.1.2 j hj⟩, ?_, by simp (disch := decide) only [sV_eq, sW_eq, sV_ne, sW_ne, sV_2, sW_1, Nat.reduceEqDiff, ↓reduceIte]; exact hR.2.2⟩
      obtain ⟨a1, a2, a3, a4, a5⟩ := hR.2.1
      exact ⟨by simp (disch := decide) only [sV_eq, sW_eq, sV_ne, sW_ne, sV_2, sW_1, Nat.reduceEqDiff, ↓reduceIte]; exact a1, by simp (disch := decide) only [sV_eq, sW_eq, sV_ne, sW_ne, sV_2, sW_1, Nat.reduceEqDiff, ↓reduceIte]; exact a2, by simp (disch := decide) only [sV_eq, sW_eq, sV_ne, sW_ne, sV_2, sW_1, Nat.reduceEqDiff, ↓reduceIte]; exact a3, a4, fun z => by simp (disch := decide) only [sV_eq, sW_eq, sV_ne, sW_ne, sV_2, sW_1, Nat.reduceEqDiff, ↓reduceIte]; exact a5 z⟩
    obtain ⟨m1, v, e1, k1, k2, k3, k4⟩ := p_number H ht hR1 (g := 9) (by decide)
    replace e1 : M_Rd_numberUpTo (A 1) (iI 9) _ = _ := e1
    have e2 : M_Tw_setMost (A 3) v (ov 68 A m1 σ) = some ((), (ov 68 A (sV m1 3 8 v) σ)) := by
      unfold M_Tw_setMost
      rw [E_Tw_setMost_0]
      simp (disch := omega) only [cK_3 H, okO_ov, gd_true, letT_eq, sI_ov H.1, mw_ov]
    have o : OnRd m (sV m1 3 8 v) := OnRd_V (OnRd_t (OnRd_V (OnRd_r m) _ (by decide) (by decide)) (OnRd_P k1)) _ (by decide) (by decide)
    have h37 : m1.1 3 = m.1 3 := by rw [k2, sV_ne _ _ _ _ (by decide)]
    obtain ⟨n1, n2⟩ := nu_R (t := t) (k := xsK x) (g := 9) (f := fun v => (xsK x + 3, xsN x, some v, xsB x, xsA x, xsC x)) (x := x)
    refine ⟨sV m1 3 8 v, ?_, o, ?_, ?_, ?_, fun z => ?_⟩
    · rw [E_Rd_mostLine_0]
      simp (disch := omega) only [cK_1 H, cR_1_1 H, cK_3 H, okO_ov, aR_ov, gd_true, aI_ov H.1, h9, bZ_0, l_0, l_1, l_9, letT_eq, sI_ov H.1, e1, e2, bnd_some, ↓reduceIte, mw_ov]
    · rw [n1]; simp (disch := decide) only [sV_eq, sW_eq, sV_ne, sW_ne, sV_2, sW_1, Nat.reduceEqDiff, ↓reduceIte]; exact k3
    · rw [n1]; exact nuR_le ht
    · obtain ⟨n, f1, f2⟩ := hF
      exact ⟨n, f1, by simp (disch := decide) only [sV_eq, sW_eq, sV_ne, sW_ne, sV_2, sW_1, Nat.reduceEqDiff, ↓reduceIte]; rw [h37]; exact f2⟩
    · rw [n1] at z
      obtain ⟨y1, y2, y3, y4, y5⟩ := n2 z
      obtain ⟨v1, v2, v3⟩ := k4 z
      rw [y1]
      refine ⟨c, ?_, ?_, by show c.length ≤ xsK x + 3; omega⟩
      · refine ⟨⟨by simp (disch := decide) only [sV_eq, sW_eq, sV_ne, sW_ne, sV_2, sW_1, Nat.reduceEqDiff, ↓reduceIte]; exact v2.1.1, fun j hj => by rw [sV_ne _ _ _ _ (by decide)]; exact v2.1.2 j hj⟩, ?_, by simp (disch := decide) only [sV_eq, sW_eq, sV_ne, sW_ne, sV_2, sW_1, Nat.reduceEqDiff, ↓reduceIte]; exact v2.2.2⟩
        obtain ⟨a1, a2, a3, a4, a5⟩ := v2.2.1
        exact ⟨by simp (disch := decide) only [sV_eq, sW_eq, sV_ne, sW_ne, sV_2, sW_1, Nat.reduceEqDiff, ↓reduceIte]; exact a1, by simp (disch := decide) only [sV_eq, sW_eq, sV_ne, sW_ne, sV_2, sW_1, Nat.reduceEqDiff, ↓reduceIte]; exact a2, by simp (disch := decide) only [sV_eq, sW_eq, sV_ne, sW_ne, sV_2, sW_1, Nat.reduceEqDiff, ↓reduceIte]; exact a3, a4, fun z => by simp (disch := decide) only [sV_eq, sW_eq, sV_ne, sW_ne, sV_2, sW_1, Nat.reduceEqDiff, ↓reduceIte]; exact a5 z⟩
      · obtain ⟨t1, t2, t3, t4, t5, t6⟩ := hT
        have w9 : m1.1 1 9 = iI 1 := by rw [v3.2.1 9 (by decide)]; simp (disch := decide) only [sV_eq, sW_eq, sV_ne, sW_ne, sV_2, sW_1, Nat.reduceEqDiff, ↓reduceIte]
        have w10 : m1.1 1 10 = bZ (xsB x).isSome := by rw [v3.2.1 10 (by decide)]; simp (disch := decide) only [sV_eq, sW_eq, sV_ne, sW_ne, sV_2, sW_1, Nat.reduceEqDiff, ↓reduceIte]; exact t1.2.1
        have w11 : m1.1 1 11 = bZ (xsC x).isSome := by rw [v3.2.1 11 (by decide)]; simp (disch := decide) only [sV_eq, sW_eq, sV_ne, sW_ne, sV_2, sW_1, Nat.reduceEqDiff, ↓reduceIte]; exact t1.2.2
        refine ⟨⟨by simp (disch := decide) only [sV_eq, sW_eq, sV_ne, sW_ne, sV_2, sW_1, Nat.reduceEqDiff, ↓reduceIte]; exact w9, by simp (disch := decide) only [sV_eq, sW_eq, sV_ne, sW_ne, sV_2, sW_1, Nat.reduceEqDiff, ↓reduceIte]; exact w10, by simp (disch := decide) only [sV_eq, sW_eq, sV_ne, sW_ne, sV_2, sW_1, Nat.reduceEqDiff, ↓reduceIte]; exact w11⟩, ⟨by simp (disch := decide) only [sV_eq, sW_eq, sV_ne, sW_ne, sV_2, sW_1, Nat.reduceEqDiff, ↓reduceIte]; rw [h37]; exact t2.1, fun i hi => by rw [sV_2, v3.2.2 4 (by decide), sV_2]; exact t2.2 i hi⟩, ⟨by simp (disch := decide) only [sV_eq, sW_eq, sV_ne, sW_ne, sV_2, sW_1, Nat.reduceEqDiff, ↓reduceIte]; rw [h37]; exact t3.1, by rw [sV_ne _ _ _ _ (by decide), v3.1 5 (by decide), sV_ne _ _ _ _ (by decide)]; exact t3.2⟩, ⟨by simp (disch := decide) only [sV_eq, sW_eq, sV_ne, sW_ne, sV_2, sW_1, Nat.reduceEqDiff, ↓reduceIte]; exact v1, by simp (disch := decide) only [sV_eq, sW_eq, sV_ne, sW_ne, sV_2, sW_1, Nat.reduceEqDiff, ↓reduceIte]; rw [h37]; exact t4.2.1, by simp (disch := decide) only [sV_eq, sW_eq, sV_ne, sW_ne, sV_2, sW_1, Nat.reduceEqDiff, ↓reduceIte]; rw [h37]; exact t4.2.2⟩, ?_, ?_⟩
        · rw [sV_ne _ _ _ _ (by decide), sV_ne _ _ _ _ (by decide), v3.1 6 (by decide), v3.1 7 (by decide), sV_ne _ _ _ _ (by decide), sV_ne _ _ _ _ (by decide)]; exact t5
        · rw [sV_ne _ _ _ _ (by decide), sV_ne _ _ _ _ (by decide), v3.1 6 (by decide), v3.1 7 (by decide), sV_ne _ _ _ _ (by decide), sV_ne _ _ _ _ (by decide)]; exact t6
  · rw [hs] at h9
    rw [if_pos rfl]
    obtain ⟨m2, e2, _, Z2⟩ := p_failR H ht hR hF 3 (by decide) (by decide)
    replace e2 : M_Rd_fail (A 1) (iI 3) _ = _ := e2
    refine ⟨m2, ?_, Z2 x⟩
    rw [E_Rd_mostLine_0]
    simp (disch := omega) only [cK_1 H, okO_ov, gd_true, aI_ov H.1, h9, bZ_0, l_0, l_3, e2, bnd_some, reduceCtorEq, ↓reduceIte, mw_ov]
