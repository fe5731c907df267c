/-! ===== the class takes what was told ===== -/
def cpW (m : VM) (a b k : Nat) : VM := (m.1, fun c j => if c = b ∧ j < k then m.2 a j else m.2 c j)
theorem cpV_eq (m : VM) (a b k j : Nat) : (cpV m a b k).1 b j = if j < k then m.1 a j else m.1 b j := if_pos rfl
theorem cpV_ne (m : VM) (a b k : Nat) {c : Nat} (h : c ≠ b) : (cpV m a b k).1 c = m.1 c := by funext j; exact if_neg h
theorem cpL_ov {n : Nat} {A : Nat → Nat} (hA : Inj n A) (m : VM) (σ : AM) {a b : Nat} (ha : a < n) (hb : b < n) (k : Nat) : cpL (ov n A m σ) (A a) 0 (A b) 0 k = ov n A (cpW m a b k) σ := by
  unfold cpL
  refine Prod.ext rfl (Prod.ext ?_ rfl)
  funext q j
  show (if q = A b then va_cpy (aL (ov n A m σ) (A a)) (aL (ov n A m σ) (A b)) 0 0 k j else aL (ov n A m σ) q j) = aL (ov n A (cpW m a b k) σ) q j
  by_cases h : q = A b
  · subst h
    rw [if_pos rfl, aL_ov hA _ _ hb]
    unfold va_cpy
    show _ = (if b = b ∧ j < k then m.2 a j else m.2 b j)
    by_cases z : j < k
    · rw [if_pos ⟨Nat.zero_le _, by omega⟩, if_pos ⟨rfl, z⟩, aL_ov hA _ _ ha, show 0 + (j - 0) = j by omega]
    · rw [if_neg (fun y => z (by omega)), if_neg (fun y => z y.2), aL_ov hA _ _ hb]
  · rw [if_neg h]
    show (match fd A q n with | some k => m.2 k j | none => σ.2.1 q j) = (match fd A q n with | some c => (cpW m a b k).2 c j | none => σ.2.1 q j)
    cases e : fd A q n with
    | none => rfl
    | some c =>
      have hc : c ≠ b := fun z => h (by rw [← z]; exact (fd_lt e).2.symm)
      show m.2 c j = (if c = b ∧ j < k then m.2 a j else m.2 c j)
      rw [if_neg (fun y => hc y.1)]
theorem okC_k {σ : AM} {a b k : Nat} {K : Int32} (hK : K.toNatClampNeg = k) (hK0 : ¬ K < 0) (h1 : k ≤ aN σ a) (h2 : k ≤ aN σ b) : okC σ a b 0 0 K = true := by
  have e0 : (0 : Int32).toNatClampNeg = 0 := by decide
  exact okC_iff.mpr ⟨by decide, by decide, hK0, by rw [hK, e0]; omega, by rw [hK, e0]; omega⟩
/-- a formula lies in the class's codes -/
def frm (l : List Nat) (i : Nat) (m : VM) : Prop := ∃ s : Nat, m.1 13 i = iI (s : Int) ∧ m.1 14 i = iI ((s + l.length : Nat) : Int) ∧ (∀ j, j < l.length → m.1 12 (s + j) = iI (l.getD j 0 : Int)) ∧ s + l.length ≤ 1000
def CTx (x : XS) (m : VM) : Prop := (m.1 10 7 = iI ((xsN x).length : Int) ∧ m.1 10 8 = iI (mxS x : Int) ∧ m.1 10 9 = iI ((xsB x).getD 10 : Int) ∧ m.1 10 10 = iI ((xsA x).length : Int)) ∧ (∀ i, i < (xsA x).length → frm ((xsA x).getD i []) i m) ∧ frm ((xsC x).getD []) 4 m ∧ ((xsC x).isSome = true → 0 < ((xsC x).getD []).length)
theorem frm_e {l : List Nat} {i : Nat} {m m' : VM} (h12 : m'.1 12 = m.1 12) (h13 : m'.1 13 = m.1 13) (h14 : m'.1 14 = m.1 14) (h : frm l i m) : frm l i m' := by
  unfold frm; rw [h12, h13, h14]; exact h
theorem CTx_e {x : XS} {m m' : VM} (h10 : m'.1 10 = m.1 10) (h12 : m'.1 12 = m.1 12) (h13 : m'.1 13 = m.1 13) (h14 : m'.1 14 = m.1 14) (h : CTx x m) : CTx x m' := by
  obtain ⟨a, b, c, d⟩ := h
  exact ⟨by rw [h10]; exact a, fun i hi => frm_e h12 h13 h14 (b i hi), frm_e h12 h13 h14 c, d⟩
def tk1 (m : VM) : VM := cpV (cpV (cpV (cpW m 4 11 6) 5 12 1000) 6 13 5) 7 14 5
def tk2 (m : VM) : VM := sV (sV (sV (sV (sV (tk1 m) 10 6 (m.1 3 6)) 10 7 (m.1 3 7)) 10 8 (m.1 3 8)) 10 9 (m.1 3 9)) 10 10 (m.1 3 10)
theorem tk1_c (m : VM) {c : Nat} (h : c ∉ [12, 13, 14]) : (tk1 m).1 c = m.1 c := by
  simp only [List.mem_cons, List.not_mem_nil, or_false, not_or] at h
  unfold tk1
  rw [cpV_ne _ _ _ _ h.2.2, cpV_ne _ _ _ _ h.2.1, cpV_ne _ _ _ _ h.1]; rfl
theorem tk2_c (m : VM) {c : Nat} (h : c ∉ [10, 12, 13, 14]) : (tk2 m).1 c = m.1 c := by
  simp only [List.mem_cons, List.not_mem_nil, or_false, not_or] at h
  unfold tk2
  rw [sV_ne _ _ _ _ h.1, sV_ne _ _ _ _ h.1, sV_ne _ _ _ _ h.1, sV_ne _ _ _ _ h.1, sV_ne _ _ _ _ h.1, tk1_c]
  simp only [List.mem_cons, List.not_mem_nil, or_false, not_or]
  exact h.2
theorem tk2_2 (m : VM) {c : Nat} (h : c ≠ 11) : (tk2 m).2 c = m.2 c := by
  funext j
  show (if c = 11 ∧ j < 6 then m.2 4 j else m.2 c j) = _
  rw [if_neg (fun z => h z.1)]
theorem tk2_X {x : XS} {c : List Nat} {m : VM} (h : XTs x c m) (hc : c.length ≤ 1000) (hA : (xsA x).length ≤ 4) : CTx x (tk2 m) := by
  obtain ⟨_, h2, h3, h4, h5, h6⟩ := h
  have e12 : ∀ j, j < 1000 → (tk2 m).1 12 j = m.1 5 j := fun j hj => by
    unfold tk2
    rw [sV_ne _ _ _ _ (by decide), sV_ne _ _ _ _ (by decide), sV_ne _ _ _ _ (by decide), sV_ne _ _ _ _ (by decide), sV_ne _ _ _ _ (by decide)]
    unfold tk1
    rw [cpV_ne _ _ _ _ (by decide), cpV_ne _ _ _ _ (by decide), cpV_eq, if_pos hj]; rfl
  have e13 : ∀ j, j < 5 → (tk2 m).1 13 j = m.1 6 j := fun j hj => by
    unfold tk2
    rw [sV_ne _ _ _ _ (by decide), sV_ne _ _ _ _ (by decide), sV_ne _ _ _ _ (by decide), sV_ne _ _ _ _ (by decide), sV_ne _ _ _ _ (by decide)]
    unfold tk1
    rw [cpV_ne _ _ _ _ (by decide), cpV_eq, if_pos hj, cpV_ne _ _ _ _ (by decide)]; rfl
  have e14 : ∀ j, j < 5 → (tk2 m).1 14 j = m.1 7 j := fun j hj => by
    unfold tk2
    rw [sV_ne _ _ _ _ (by decide), sV_ne _ _ _ _ (by decide), sV_ne _ _ _ _ (by decide), sV_ne _ _ _ _ (by decide), sV_ne _ _ _ _ (by decide)]
    unfold tk1
    rw [cpV_eq, if_pos hj, cpV_ne _ _ _ _ (by decide), cpV_ne _ _ _ _ (by decide)]; rfl
  have fr : ∀ (l : List Nat) (i s : Nat), i < 5 → m.1 6 i = iI (s : Int) → m.1 7 i = iI ((s + l.length : Nat) : Int) → slc c s l → frm l i (tk2 m) := fun l i s hi a1 a2 a3 => by
    have := a3.1
    refine ⟨s, by rw [e13 i hi]; exact a1, by rw [e14 i hi]; exact a2, fun j hj => ?_, by omega⟩
    rw [e12 _ (by omega), ← a3.2 j hj]
    exact h3.2 _ (by omega)
  refine ⟨⟨by unfold tk2; simp (disch := decide) only [sV_eq, sW_eq, sV_ne, sW_ne, sV_2, sW_1, Nat.reduceEqDiff, ↓reduceIte]; exact h2.1, by unfold tk2; simp (disch := decide) only [sV_eq, sW_eq, sV_ne, sW_ne, sV_2, sW_1, Nat.reduceEqDiff, ↓reduceIte]; exact h4.1, by unfold tk2; simp (disch := decide) only [sV_eq, sW_eq, sV_ne, sW_ne, sV_2, sW_1, Nat.reduceEqDiff, ↓reduceIte]; exact h4.2.1, by unfold tk2; simp (disch := decide) only [sV_eq, sW_eq, sV_ne, sW_ne, sV_2, sW_1, Nat.reduceEqDiff, ↓reduceIte]; exact h4.2.2⟩, fun i hi => ?_, ?_, ?_⟩
  · obtain ⟨s, s1, s2, s3, _⟩ := h5 i hi
    exact fr _ i s (by omega) s1 s2 s3
  · obtain ⟨s, s1, s2, s3, _⟩ := h6
    exact fr _ 4 s (by omega) s1 s2 s3
  · obtain ⟨s, _, _, _, s4⟩ := h6
    exact s4
theorem p_take {A : Nat → Nat} {σ : AM} (H : LC A σ) (m : VM) : M_Tw_take (A 10) (A 3) (ov 68 A m σ) = mw (ov 68 A m σ) (bnd (M_Tw_priceSets (A 10) (ov 68 A (tk2 m) σ)) fun _ σ34 => some ((), σ34)) := by
  have z0 : (0 : Int32).toNatClampNeg = 0 := by decide
  have z6 : (6 : Int32).toNatClampNeg = 6 := by decide
  have z5 : (5 : Int32).toNatClampNeg = 5 := by decide
  have z1 : (1000 : Int32).toNatClampNeg = 1000 := by decide +kernel
  have k1 : okC σ (A 4) (A 11) 0 0 6 = true := okC_k z6 (by decide) (by rw [cN_4 H]; omega) (by rw [cN_11 H]; omega)
  have k2 : okC σ (A 5) (A 12) 0 0 1000 = true := okC_k z1 (by decide) (by rw [cN_5 H]; omega) (by rw [cN_12 H]; omega)
  have k3 : okC σ (A 6) (A 13) 0 0 5 = true := okC_k z5 (by decide) (by rw [cN_6 H]; omega) (by rw [cN_13 H]; omega)
  have k4 : okC σ (A 7) (A 14) 0 0 5 = true := okC_k z5 (by decide) (by rw [cN_7 H]; omega) (by rw [cN_14 H]; omega)
  have ko : ∀ (mm : VM) a b s d K, okC (ov 68 A mm σ) a b s d K = okC σ a b s d K := fun _ _ _ _ _ _ => rfl
  have g1 : ∀ j, (tk1 m).1 3 j = m.1 3 j := fun j => by rw [tk1_c m (by decide)]
  unfold M_Tw_take
  rw [E_Tw_take_0, okO_ov, aR_ov, cK_3 H, gd_true, cR_3_0 H, cK_4 H, gd_true, cK_10 H, gd_true, cR_10_0 H, cK_11 H, gd_true, ko, k1, gd_true, z0, z6, cpL_ov H.1 _ _ (by omega) (by omega), letT_eq, okO_ov, aR_ov, cR_3_1 H, cK_5 H, gd_true, cR_10_1 H, cK_12 H, gd_true, ko, k2, gd_true, z1, cpI_ov H.1 _ _ (by omega) (by omega), letT_eq, okO_ov, aR_ov, cR_3_2 H, cK_6 H, gd_true, cR_10_2 H, cK_13 H, gd_true, ko, k3, gd_true, z5, cpI_ov H.1 _ _ (by omega) (by omega), letT_eq, okO_ov, aR_ov, cR_3_3 H, cK_7 H, gd_true, cR_10_3 H, cK_14 H, gd_true, ko, k4, gd_true, cpI_ov H.1 _ _ (by omega) (by omega), letT_eq, aI_ov H.1 _ _ (by omega), sI_ov H.1 _ _ (by omega), letT_eq, aI_ov H.1 _ _ (by omega), sI_ov H.1 _ _ (by omega), letT_eq, aI_ov H.1 _ _ (by omega), sI_ov H.1 _ _ (by omega), letT_eq, aI_ov H.1 _ _ (by omega), sI_ov H.1 _ _ (by omega), letT_eq, aI_ov H.1 _ _ (by omega), sI_ov H.1 _ _ (by omega), letT_eq, sV_ne _ 10 _ _ (show (3 : Nat) ≠ 10 by decide), sV_ne _ 10 _ _ (show (3 : Nat) ≠ 10 by decide), sV_ne _ 10 _ _ (show (3 : Nat) ≠ 10 by decide), sV_ne _ 10 _ _ (show (3 : Nat) ≠ 10 by decide)]
  rfl
theorem p_permits {t : PD} {x : XS} {A : Nat → Nat} {σ : AM} (H : LC A σ) (hx : xOk t x) (hf : fOk x) {m : VM} (hC : CTx x m) {w : Nat} (hw : ∀ t, t < (xsN x).length → m.1 18 t = iI (dg (d0X x) w t : Int)) : ∃ m' : VM, M_Tw_permits (A 10) (A 18) (iI (sumN 6 (dg (d0X x) w) : Int)) (ov 68 A m σ) = some (bZ (mayX x w), (ov 68 A (m') σ)) ∧ On1 16 m m' := by
  have hA4 := hx.2.2.2.2
  have hn6 := hx.2.1.1
  have l0 : ∀ k : Nat, iI (k : Int) + (1 : Int32) = iI ((k + 1 : Nat) : Int) := fun k => by rw [l_1, iI_add, iI_s]
  have lp : ∃ m' : VM, L_Tw_permits_1 (A 10) (A 18) (iI (sumN 6 (dg (d0X x) w) : Int)) (iI ((0 : Nat) : Int)) (ov 68 A m σ) = some (bZ (mayX x w), (ov 68 A (m') σ)) ∧ On1 16 m m' := by
    refine up_loopI (fun k mm => L_Tw_permits_1 (A 10) (A 18) (iI (sumN 6 (dg (d0X x) w) : Int)) (iI (k : Int)) (ov 68 A mm σ)) (fun k mm => On1 16 m mm ∧ ∀ i, i < k → ¬ vaM x w i = iI 0) (fun X => ∃ m' : VM, X = some (bZ (mayX x w), (ov 68 A (m') σ)) ∧ On1 16 m m') (xsA x).length (fun k mm hk ⟨i1, i2⟩ ih => ?_) (fun mm ⟨i1, i2⟩ => ?_) 0 _ (Nat.zero_le _) ⟨On1_r _ _, fun i hi => absurd hi (Nat.not_lt_zero i)⟩
    · have hC2 := CTx_e (i1.1 10 (by decide)) (i1.1 12 (by decide)) (i1.1 13 (by decide)) (i1.1 14 (by decide)) hC
      obtain ⟨s, s1, s2, s3, s4⟩ := hC2.2.1 k hk
      obtain ⟨m2, e2, o2⟩ := Tw_val H H.1 (Nat.le_refl _) (rc := 18) (by decide) (cK_18 H) (cN_18 H) (by decide) (by omega) s1 s2 s3 s4 hn6 (fOk_A hf hk) (iI (sumN 6 (dg (d0X x) w) : Int))
      have ev : vaF (mm.1 18) (iI (sumN 6 (dg (d0X x) w) : Int)) ((xsA x).getD k []) = vaM x w k := va_ext (fun j hj => by rw [i1.1 18 (by decide)]; exact hw j hj) _ (fOk_A hf hk)
      rw [ev] at e2
      have c1 : iI (k : Int) < iI ((xsA x).length : Int) := by rw [iI_lt (by omega) (by omega) (by omega) (by omega)]; omega
      show ∃ m' : VM, L_Tw_permits_1 _ _ _ _ _ = _ ∧ _
      rw [E_Tw_permits_1, okO_ov, cK_10 H, gd_true, aI_ov H.1 _ _ (by omega), hC2.1.2.2.2, if_pos c1, e2, bnd_some, l_0]
      by_cases y : vaM x w k = iI 0
      · rw [if_pos y]
        refine ⟨m2, ?_, On1_t i1 o2⟩
        have : mayX x w = false := by
          cases q : mayX x w
          · rfl
          · exact absurd y (of_decide_eq_true (allN_iff.mp q k hk))
        rw [this]; rfl
      · rw [if_neg y, l0]
        exact ih m2 ⟨On1_t i1 o2, fun i hi => by
          by_cases e : i = k
          · rw [e]; exact y
          · exact i2 i (by omega)⟩
    · have hC2 := CTx_e (i1.1 10 (by decide)) (i1.1 12 (by decide)) (i1.1 13 (by decide)) (i1.1 14 (by decide)) hC
      have c1 : ¬ iI ((xsA x).length : Int) < iI ((xsA x).length : Int) := by rw [iI_lt (by omega) (by omega) (by omega) (by omega)]; omega
      refine ⟨mm, ?_, i1⟩
      show L_Tw_permits_1 _ _ _ _ _ = _
      rw [E_Tw_permits_1, okO_ov, cK_10 H, gd_true, aI_ov H.1 _ _ (by omega), hC2.1.2.2.2, if_neg c1]
      have : mayX x w = true := allN_iff.mpr fun i hi => decide_eq_true (i2 i hi)
      rw [this]; rfl
  obtain ⟨m', e, o⟩ := lp
  replace e : L_Tw_permits_1 (A 10) (A 18) (iI (sumN 6 (dg (d0X x) w) : Int)) (iI 0) _ = _ := e
  refine ⟨m', ?_, o⟩
  unfold M_Tw_permits
  rw [E_Tw_permits_0, l_0, e, mw_ov]
/-- a row of six made for a while -/
theorem fresh {A : Nat → Nat} {σ : AM} (H : LC A σ) (m : VM) : ∃ (A' : Nat → Nat) (m1 : VM) (τ : AM), nw (ov 68 A m σ) 101 6 = ov 69 A' m1 τ ∧ LC A' τ ∧ Inj 69 A' ∧ (∀ k, k < 68 → A' k = A k ∧ m1.1 k = m.1 k ∧ m1.2 k = m.2 k ∧ aN τ (A k) = aN σ (A k)) ∧ A' 68 = aZ σ ∧ okO τ (A' 68) 101 = true ∧ aN τ (A' 68) = 6 ∧ ∀ m2 : VM, ∃ m3 : VM, ov 69 A' m2 τ = ov 68 A m3 (ov 69 A' m2 τ) ∧ LC A (ov 69 A' m2 τ) ∧ (∀ k, k < 68 → m3.1 k = m2.1 k ∧ m3.2 k = m2.2 k ∧ aN (ov 69 A' m2 τ) (A k) = aN σ (A k)) ∧ aZ (ov 69 A' m2 τ) = aZ σ + 1 ∧ aU (ov 69 A' m2 τ) = aU σ + 6 ∧ Ext A σ A (ov 69 A' m2 τ) := by
  obtain ⟨h1, h2, h3, h4, h5, h6, h7, h8, h9⟩ := H
  have hz : ∀ k, k < 68 → A k ≠ aZ σ := fun k hk => Nat.ne_of_lt (h9 k hk)
  have eA : ∀ k, k < 68 → upA A 68 (aZ σ) k = A k := fun k hk => if_neg (by omega)
  have eC : upA A 68 (aZ σ) 68 = aZ σ := if_pos rfl
  have hlR : ∀ r ∈ tCR, r.1 < 68 ∧ r.2.2 < 68 := by decide
  have hlK : ∀ r ∈ tCK, r.1 < 68 := by decide
  have hlN : ∀ r ∈ tCN, r.1 < 68 := by decide
  have inj : Inj 69 (upA A 68 (aZ σ)) := by
    intro i j hi hj e
    by_cases a : i = 68
    · by_cases b : j = 68
      · rw [a, b]
      · rw [a, eC, eA j (by omega)] at e; exact absurd e.symm (hz j (by omega))
    · by_cases b : j = 68
      · rw [b, eC, eA i (by omega)] at e; exact absurd e (hz i (by omega))
      · rw [eA i (by omega), eA j (by omega)] at e; exact h1 i j (by omega) (by omega) e
  have kO : ∀ k, k < 68 → aK (nw (ov 68 A m σ) 101 6) (A k) = aK σ (A k) := fun k hk => by rw [aK_nw, aZ_ov, if_neg (hz k hk)]; rfl
  have nO : ∀ k, k < 68 → aN (nw (ov 68 A m σ) 101 6) (A k) = aN σ (A k) := fun k hk => by rw [aN_nw, aZ_ov, if_neg (hz k hk)]; rfl
  have rO : ∀ k j, k < 68 → aR (nw (ov 68 A m σ) 101 6) (A k) j = aR σ (A k) j := fun k j hk => by rw [aR_nw, aZ_ov, if_neg (hz k hk)]; rfl
  have lc : LC A (nw (ov 68 A m σ) 101 6) := by
    refine ⟨h1, fun r hr => ?_, fun r hr => ?_, fun r hr => ?_, ?_, ?_, ?_, ?_, fun k hk => ?_⟩
    · rw [rO _ _ (hlR r hr).1]; exact h2 r hr
    · rw [kO _ (hlK r hr)]; exact h3 r hr
    · rw [nO _ (hlN r hr)]; exact h4 r hr
    · rw [nO _ (by omega), nO _ (by omega)]; exact h5
    · rw [nO _ (by omega), nO _ (by omega)]; exact h6
    · rw [nO _ (by omega), nO _ (by omega)]; exact h7
    · rw [nO _ (by omega), nO _ (by omega)]; exact h8
    · show A k < aZ σ + 1
      have := h9 k hk; omega
  refine ⟨upA A 68 (aZ σ), rd (upA A 68 (aZ σ)) (nw (ov 68 A m σ) 101 6), nw (ov 68 A m σ) 101 6, (ov_rd 69 _ _).symm, ?_, inj, fun k hk => ⟨eA k hk, ?_, ?_, nO k hk⟩, eC, ?_, ?_, fun m2 => ?_⟩
  · obtain ⟨l1, l2, l3, l4, l5, l6, l7, l8, l9⟩ := lc
    refine ⟨fun i j hi hj e => inj i j (by omega) (by omega) e, fun r hr => ?_, fun r hr => ?_, fun r hr => ?_, ?_, ?_, ?_, ?_, fun k hk => ?_⟩
    · rw [eA _ (hlR r hr).1, eA _ (hlR r hr).2]; exact l2 r hr
    · rw [eA _ (hlK r hr)]; exact l3 r hr
    · rw [eA _ (hlN r hr)]; exact l4 r hr
    · rw [eA _ (by omega), eA _ (by omega)]; exact l5
    · rw [eA _ (by omega), eA _ (by omega)]; exact l6
    · rw [eA _ (by omega), eA _ (by omega)]; exact l7
    · rw [eA _ (by omega), eA _ (by omega)]; exact l8
    · rw [eA _ hk]; exact l9 k hk
  · funext j
    show aI (nw (ov 68 A m σ) 101 6) (upA A 68 (aZ σ) k) j = _
    rw [eA k hk, aI_nw, aZ_ov, if_neg (hz k hk), aI_ov h1 m σ hk]
  · funext j
    show aL (nw (ov 68 A m σ) 101 6) (upA A 68 (aZ σ) k) j = _
    rw [eA k hk, aL_nw, aZ_ov, if_neg (hz k hk), aL_ov h1 m σ hk]
  · rw [eC]
    exact okO_of (by rw [aK_nw, aZ_ov, if_pos rfl])
  · rw [eC, aN_nw, aZ_ov, if_pos rfl]
  · refine ⟨rd A (ov 69 (upA A 68 (aZ σ)) m2 (nw (ov 68 A m σ) 101 6)), (ov_rd 68 _ _).symm, lc, fun k hk => ⟨?_, ?_, nO k hk⟩, rfl, rfl, ?_⟩
    · funext j
      show aI (ov 69 (upA A 68 (aZ σ)) m2 (nw (ov 68 A m σ) 101 6)) (A k) j = _
      rw [← eA k hk]; exact aI_ov inj _ _ (by omega) j
    · funext j
      show aL (ov 69 (upA A 68 (aZ σ)) m2 (nw (ov 68 A m σ) 101 6)) (A k) j = _
      rw [← eA k hk]; exact aL_ov inj _ _ (by omega) j
    · refine ⟨rfl, Nat.le_succ _, Nat.le_add_right _ _, fun b hb hA => ?_⟩
      have hbz : b ≠ aZ σ := Nat.ne_of_lt hb
      have hA' : ∀ k, k < 69 → upA A 68 (aZ σ) k ≠ b := fun k hk => by
        by_cases q : k = 68
        · rw [q, eC]; exact fun z => hbz z.symm
        · rw [eA k (by omega)]; exact hA k (by omega)
      refine ⟨hA, ?_, ?_, ?_, ?_, ?_⟩
      · rw [aI_out hA']
        funext j
        rw [aI_nw, aZ_ov, if_neg hbz, aI_out hA]
      · rw [aL_out hA']
        funext j
        rw [aL_nw, aZ_ov, if_neg hbz, aL_out hA]
      · funext j
        show aR (nw (ov 68 A m σ) 101 6) b j = _
        rw [aR_nw, aZ_ov, if_neg hbz]; rfl
      · show aK (nw (ov 68 A m σ) 101 6) b = _
        rw [aK_nw, aZ_ov, if_neg hbz]; rfl
      · show aN (nw (ov 68 A m σ) 101 6) b = _
        rw [aN_nw, aZ_ov, if_neg hbz]; rfl
theorem mxI_co (v : Int32) : mxI (0 : Int32) v = coV v := by
  unfold mxI coV
  rw [l_0]
  by_cases h : v < iI 0
  · rw [if_pos h, if_neg (fun z => Int32.lt_irrefl (Int32.lt_trans z h))]
  · rw [if_neg h]
    by_cases h2 : iI 0 < v
    · rw [if_pos h2]
    · rw [if_neg h2]
      exact (Int32.le_antisymm (Int32.not_lt.mp h2) (Int32.not_lt.mp h)).symm
