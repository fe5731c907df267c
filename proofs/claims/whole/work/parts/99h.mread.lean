/-! ===== the reference asks for tokens ===== -/
theorem wk_iff {l : List Nat} {w : Nat} (hw : w < 10) : wk l 10 = 4 + w ↔ wlT w = l := by
  constructor
  · intro h
    refine Classical.byContradiction fun z => ?_
    by_cases q : ∃ i, i < 10 ∧ wlT i = l
    · obtain ⟨i, i1, i2⟩ := q
      have := wk_eq i1 (Nat.le_refl _) i2
      have e : i = w := by omega
      rw [e] at i2; exact z i2
    · have := wk_no (l := l) (n := 10) fun i hi y => q ⟨i, hi, y⟩
      omega
  · intro h; exact wk_eq hw (Nat.le_refl _) h
theorem wk_3 {l : List Nat} : wk l 10 = 3 ↔ ∀ i, i < 10 → ¬ wlT i = l := by
  constructor
  · intro h i hi z
    have := wk_eq hi (Nat.le_refl _) z
    omega
  · intro h; exact wk_no h
theorem kd_wk {t : PD} {k : Nat} (h : kW t (plT t k)) : kdT t k = wk (wdK t k) 10 := by
  unfold kdT kT0 wdK
  rw [if_pos h.1, if_pos h.2.1, if_neg (by have := h.2.2; omega)]
theorem so_1 {t : PD} {k : Nat} (ht : wfT t) : soK t k = 1 ↔ kW t (plT t k) := by
  constructor
  · intro h
    unfold soK at h
    by_cases c0 : kdT t k = 0
    · rw [if_pos c0] at h; omega
    rw [if_neg c0] at h
    by_cases c1 : kdT t k = 1
    · rw [if_pos c1] at h; omega
    rw [if_neg c1] at h
    by_cases c2 : kdT t k = 2
    · rw [if_pos c2] at h; omega
    rw [if_neg c2] at h
    by_cases c3 : kdT t k ≤ 13
    · exact kd_W (by omega) c3 ht
    · rw [if_neg c3] at h; omega
  · intro h
    have := wk_b (wdK t k)
    rw [← kd_wk h] at this
    unfold soK
    rw [if_neg (by omega), if_neg (by omega), if_neg (by omega), if_pos (by omega)]
theorem so_2 {t : PD} {k : Nat} : soK t k = 2 ↔ kdT t k = 2 := by
  unfold soK
  by_cases c0 : kdT t k = 0
  · rw [if_pos c0]; omega
  rw [if_neg c0]
  by_cases c1 : kdT t k = 1
  · rw [if_pos c1]; omega
  rw [if_neg c1]
  by_cases c2 : kdT t k = 2
  · rw [if_pos c2]; omega
  rw [if_neg c2]
  by_cases c3 : kdT t k ≤ 13
  · rw [if_pos c3]; omega
  · rw [if_neg c3]; omega
theorem so_3 {t : PD} {k : Nat} : soK t k = 3 ↔ 14 ≤ kdT t k := by
  unfold soK
  by_cases c0 : kdT t k = 0
  · rw [if_pos c0]; omega
  rw [if_neg c0]
  by_cases c1 : kdT t k = 1
  · rw [if_pos c1]; omega
  rw [if_neg c1]
  by_cases c2 : kdT t k = 2
  · rw [if_pos c2]; omega
  rw [if_neg c2]
  by_cases c3 : kdT t k ≤ 13
  · rw [if_pos c3]; omega
  · rw [if_neg c3]; omega
theorem so_0 {t : PD} {k : Nat} : soK t k = 0 ↔ kdT t k = 0 := by
  unfold soK
  by_cases c0 : kdT t k = 0
  · rw [if_pos c0]; omega
  rw [if_neg c0]
  by_cases c1 : kdT t k = 1
  · rw [if_pos c1]; omega
  rw [if_neg c1]
  by_cases c2 : kdT t k = 2
  · rw [if_pos c2]; omega
  rw [if_neg c2]
  by_cases c3 : kdT t k ≤ 13
  · rw [if_pos c3]; omega
  · rw [if_neg c3]; omega
theorem so_le (t : PD) (k : Nat) : soK t k ≤ 4 := by
  unfold soK
  repeat (first | omega | split)
def QK (t : PD) (k : Nat) (m : VM) : Prop := cuT t m ∧ MWd m ∧ m.1 0 7 = iI (k : Int) ∧ m.1 0 8 = iI 0
/-- a token, a FAULT: f -/
theorem q_isWord {t : PD} {A : Nat → Nat} {σ : AM} (H : LM A σ) (ht : wfT t) {k : Nat} {m : VM} (hk : kOk t k) (h : QK t k m) {w : Nat} (hw : w < 10) : M_Md_isWord (A 0) (iI (w : Int)) (ov 40 A m σ) = some (bZ (decide (kdT t k = 4 + w)), (ov 40 A m σ)) := by
  obtain ⟨h1, h2, h3, h4⟩ := h
  have hl := kOk_le ht hk
  obtain ⟨g1, g2, g3⟩ := h1 k hk
  have hs := so_le t k
  unfold M_Md_isWord
  rw [E_Md_isWord_0]
  have hw2 := h2 w hw
  have hw3 := wd_mw ⟨w, hw⟩
  replace hw3 : words.getD w 0 = mw64 (wlT w) := hw3
  rw [hw3] at hw2
  simp (disch := omega) only [E_Md_isWord_1, E_Md_isWord_2, mK_0 H, mR_4 H, mK_2 H, mN_2 H, mR_6 H, mK_4 H, mN_4 H, mR_9 H, mK_5 H, mN_5 H, okO_ov, aR_ov, aN_ov, gd_true, gd_in, iI_cl, Int.toNat_natCast, aI_ov H.1, aL_ov H.1, h3, h4, g1, hw2, lgc0, l_0, l_1, iI_eq, isB_0, isB_1, ↓reduceIte]
  by_cases c : soK t k = 1
  · have hkw := (so_1 ht).mp c
    rw [if_pos (by omega)]
    have hkd := kd_wk hkw
    have hne : ¬ kdT t k = 0 := by have := (wk_b (wdK t k)).1; omega
    have hv := (g3 hne).1 hkw
    obtain ⟨w1, w2⟩ := wdK_ok hkw
    have hi := mw_inj w1 (wlT_len ⟨w, hw⟩) w2 (wl_lt ⟨w, hw⟩)
    replace hi : mw64 (wdK t k) = mw64 (wlT w) ↔ wdK t k = wlT w := hi
    rw [hv]
    have hq := wk_iff (l := wdK t k) hw
    by_cases z : wdK t k = wlT w
    · rw [if_pos (hi.mpr z), decide_eq_true (by rw [hkd]; exact hq.mpr z.symm), mw_ov]; rfl
    · rw [if_neg (fun y => z (hi.mp y)), decide_eq_false (fun y => z (by rw [hkd] at y; exact (hq.mp y).symm)), mw_ov]; rfl
  · rw [if_neg (by omega), decide_eq_false (fun y => c ((so_1 ht).mpr (kd_W (by omega) (by omega) ht))), mw_ov]; rfl
theorem q_isSign {t : PD} {A : Nat → Nat} {σ : AM} (H : LM A σ) (ht : wfT t) {k : Nat} {m : VM} (hk : kOk t k) (h : QK t k m) {c : Nat} (hc1 : 14 ≤ c) (hc2 : c < 128) : M_Md_isSign (A 0) (iI (c : Int)) (ov 40 A m σ) = some (bZ (decide (kdT t k = c)), (ov 40 A m σ)) := by
  obtain ⟨h1, h2, h3, h4⟩ := h
  have hl := kOk_le ht hk
  obtain ⟨g1, g2, g3⟩ := h1 k hk
  have hs := so_le t k
  have hkl := kd_lt ht k
  unfold M_Md_isSign
  rw [E_Md_isSign_0]
  simp (disch := omega) only [E_Md_isSign_1, E_Md_isSign_2, mK_0 H, mR_4 H, mK_2 H, mN_2 H, mR_6 H, mK_4 H, mN_4 H, okO_ov, aR_ov, aN_ov, gd_true, gd_in, iI_cl, Int.toNat_natCast, aI_ov H.1, aL_ov H.1, h3, h4, g1, lgc0, l_0, l_1, l_3, iI_eq, isB_0, isB_1, ↓reduceIte]
  by_cases z : soK t k = 3
  · have z3 := so_3.mp z
    rw [if_pos (by omega), (g3 (by omega)).2.2 z3, iI_j (by omega) (by omega), iI_j (by omega) (by omega)]
    by_cases y : kdT t k = c
    · rw [if_pos (by rw [y]), decide_eq_true y, mw_ov]; rfl
    · rw [if_neg (fun q => y (by rw [jI_eq (by omega) (by omega) (by omega) (by omega)] at q; omega)), decide_eq_false y, mw_ov]; rfl
  · rw [if_neg (by omega), decide_eq_false (fun y => z (so_3.mpr (by omega))), mw_ov]; rfl
theorem q_isWordF {A : Nat → Nat} {σ : AM} (H : LM A σ) {m : VM} {f : Nat} (h : m.1 0 8 = iI (f : Int)) (hf : ¬ f = 0) (hf2 : f ≤ 20000) (w : Int32) : M_Md_isWord (A 0) w (ov 40 A m σ) = some (bZ false, (ov 40 A m σ)) := by
  unfold M_Md_isWord
  rw [E_Md_isWord_0]
  simp (disch := omega) only [E_Md_isWord_1, E_Md_isWord_2, mK_0 H, okO_ov, gd_true, aI_ov H.1, h, l_0, iI_eq, isB_0]
  rw [if_neg (by omega), mw_ov]; rfl
theorem q_isSignF {A : Nat → Nat} {σ : AM} (H : LM A σ) {m : VM} {f : Nat} (h : m.1 0 8 = iI (f : Int)) (hf : ¬ f = 0) (hf2 : f ≤ 20000) (w : Int32) : M_Md_isSign (A 0) w (ov 40 A m σ) = some (bZ false, (ov 40 A m σ)) := by
  unfold M_Md_isSign
  rw [E_Md_isSign_0]
  simp (disch := omega) only [E_Md_isSign_1, E_Md_isSign_2, mK_0 H, okO_ov, gd_true, aI_ov H.1, h, l_0, iI_eq, isB_0]
  rw [if_neg (by omega), mw_ov]; rfl
theorem sV_self (m : VM) (c j : Nat) : sV m c j (m.1 c j) = m := by
  refine Prod.ext ?_ rfl
  funext i l
  by_cases e : i = c
  · subst e
    rw [sV_eq]
    by_cases e2 : l = j
    · rw [if_pos e2, e2]
    · rw [if_neg e2]
  · rw [sV_ne _ _ _ _ e]
def atS (m : VM) (k : Nat) : VM := sV m 0 7 (iI (k : Int))
theorem q_hasSign {t : PD} {A : Nat → Nat} {σ : AM} (H : LM A σ) (ht : wfT t) {k : Nat} {m : VM} (hk : kOk t k) (h : QK t k m) {c : Nat} (hc1 : 14 ≤ c) (hc2 : c < 128) : M_Md_hasSign (A 0) (iI (c : Int)) (ov 40 A m σ) = some (bZ (decide (kdT t k = c)), (ov 40 A (if kdT t k = c then atS m (k + 1) else m) σ)) := by
  have q := q_isSign H ht hk h hc1 hc2
  have h7 := h.2.2.1
  have hl := kOk_le ht hk
  unfold M_Md_hasSign
  rw [E_Md_hasSign_0]
  simp (disch := omega) only [E_Md_hasSign_1, mK_0 H, okO_ov, gd_true, aI_ov H.1, sI_ov H.1, letT_eq, q, bnd_some, h7, bZ_0, l_0, l_1, iI_add, iI_s, isB_bZ, Int.add_zero]
  by_cases z : kdT t k = c
  · rw [if_neg (by rw [decide_eq_true z]; decide), if_pos z, mw_ov]; rfl
  · rw [if_pos (by rw [decide_eq_false z]), if_neg z, ← h7, sV_self, mw_ov]
theorem q_hasWord {t : PD} {A : Nat → Nat} {σ : AM} (H : LM A σ) (ht : wfT t) {k : Nat} {m : VM} (hk : kOk t k) (h : QK t k m) {w : Nat} (hw : w < 10) : M_Md_hasWord (A 0) (iI (w : Int)) (ov 40 A m σ) = some (bZ (decide (kdT t k = 4 + w)), (ov 40 A (if kdT t k = 4 + w then atS m (k + 1) else m) σ)) := by
  have q := q_isWord H ht hk h hw
  have h7 := h.2.2.1
  have hl := kOk_le ht hk
  unfold M_Md_hasWord
  rw [E_Md_hasWord_0]
  simp (disch := omega) only [E_Md_hasWord_1, mK_0 H, okO_ov, gd_true, aI_ov H.1, sI_ov H.1, letT_eq, q, bnd_some, h7, bZ_0, l_0, l_1, iI_add, iI_s, isB_bZ, Int.add_zero]
  by_cases z : kdT t k = 4 + w
  · rw [if_neg (by rw [decide_eq_true z]; decide), if_pos z, mw_ov]; rfl
  · rw [if_pos (by rw [decide_eq_false z]), if_neg z, ← h7, sV_self, mw_ov]
theorem q_hasSignF {A : Nat → Nat} {σ : AM} (H : LM A σ) {m : VM} {f : Nat} (h : m.1 0 8 = iI (f : Int)) (hf : ¬ f = 0) (hf2 : f ≤ 20000) (w : Int32) : M_Md_hasSign (A 0) w (ov 40 A m σ) = some (bZ false, (ov 40 A m σ)) := by
  have q := q_isSignF H h hf hf2 w
  have e : m.1 0 7 + 0 = m.1 0 7 := Int32.add_zero _
  unfold M_Md_hasSign
  rw [E_Md_hasSign_0]
  simp (disch := omega) only [E_Md_hasSign_1, mK_0 H, okO_ov, gd_true, aI_ov H.1, sI_ov H.1, letT_eq, q, bnd_some, bZ_0, isB_bZ, ↓reduceIte]
  rw [e, sV_self]
  rw [if_pos (by decide), mw_ov]
theorem q_isName {t : PD} {A : Nat → Nat} {σ : AM} (H : LM A σ) (ht : wfT t) {k : Nat} {m : VM} (hk : kOk t k) (h : QK t k m) : M_Md_isName (A 0) (ov 40 A m σ) = some (bZ (decide (kdT t k = 3)), (ov 40 A m σ)) := by
  obtain ⟨h1, h2, h3, h4⟩ := h
  have hl := kOk_le ht hk
  obtain ⟨g1, g2, g3⟩ := h1 k hk
  have hs := so_le t k
  unfold M_Md_isName
  have lp : ∀ n i b, i + n = 10 → (b = true → kW t (plT t k) ∧ ∀ j, j < i → ¬ wlT j = wdK t k) → (b = false → ¬ kdT t k = 3) → L_Md_isName_3 (A 0) (bZ b) (iI (i : Int)) (ov 40 A m σ) = some (bZ (decide (kdT t k = 3)), (ov 40 A m σ)) := by
    intro n
    induction n with
    | zero =>
      intro i b hi hb1 hb0
      have hb : b = decide (kdT t k = 3) := by
        cases b
        · exact (decide_eq_false (hb0 rfl)).symm
        · obtain ⟨y1, y2⟩ := hb1 rfl
          exact (decide_eq_true (by rw [kd_wk y1]; exact wk_3.mpr fun j hj => y2 j (by omega))).symm
      rw [E_Md_isName_3]
      simp (disch := omega) only [l_10, iI_lt, isB_bZ, gd_true]
      rw [if_neg (by omega), hb]
    | succ n ih =>
      intro i b hi hb1 hb0
      rw [E_Md_isName_3]
      have hw2 := h2 i (by omega)
      have hw3 := wd_mw ⟨i, by omega⟩
      replace hw3 : words.getD i 0 = mw64 (wlT i) := hw3
      rw [hw3] at hw2
      simp (disch := omega) only [E_Md_isName_4, E_Md_isName_5, mK_0 H, mR_6 H, mK_4 H, mN_4 H, mR_9 H, mK_5 H, mN_5 H, okO_ov, aR_ov, aN_ov, gd_true, gd_in, iI_cl, Int.toNat_natCast, aI_ov H.1, aL_ov H.1, h3, hw2, lgc0, l_0, l_1, l_10, iI_lt, iI_add, iI_s, bZ_0]
      rw [if_pos (by omega)]
      cases b
      · rw [if_pos rfl]
        exact ih (i + 1) false (by omega) (fun z => by cases z) hb0
      · rw [if_neg (by decide)]
        obtain ⟨y1, y2⟩ := hb1 rfl
        have hne : ¬ kdT t k = 0 := by have := (wk_b (wdK t k)).1; rw [← kd_wk y1] at this; omega
        have hv := (g3 hne).1 y1
        obtain ⟨w1, w2⟩ := wdK_ok y1
        have hi2 := mw_inj w1 (wlT_len ⟨i, by omega⟩) w2 (wl_lt ⟨i, by omega⟩)
        replace hi2 : mw64 (wdK t k) = mw64 (wlT i) ↔ wdK t k = wlT i := hi2
        rw [hv]
        by_cases z : wdK t k = wlT i
        · rw [if_pos (hi2.mpr z)]
          exact ih (i + 1) false (by omega) (fun z => by cases z) (fun _ y => by rw [kd_wk y1] at y; exact wk_3.mp y i (by omega) z.symm)
        · rw [if_neg (fun y => z (hi2.mp y))]
          exact ih (i + 1) true (by omega) (fun _ => ⟨y1, fun j hj => by
            by_cases e : j = i
            · rw [e]; exact fun y => z y.symm
            · exact y2 j (by omega)⟩) (fun z => by cases z)
  rw [E_Md_isName_0]
  simp (disch := omega) only [E_Md_isName_1, E_Md_isName_2, mK_0 H, mR_4 H, mK_2 H, mN_2 H, okO_ov, aR_ov, aN_ov, gd_true, gd_in, iI_cl, Int.toNat_natCast, aI_ov H.1, h3, h4, g1, l_0, l_1, iI_eq, ↓reduceIte]
  by_cases c : soK t k = 1
  · have e := lp 10 0 true (by omega) (fun _ => ⟨(so_1 ht).mp c, fun j hj => absurd hj (Nat.not_lt_zero j)⟩) (fun z => by cases z)
    replace e : L_Md_isName_3 (A 0) (iI 1) (iI 0) (ov 40 A m σ) = _ := e
    rw [if_pos (by omega), e, mw_ov]
  · have e := lp 10 0 false (by omega) (fun z => by cases z) (fun _ y => c ((so_1 ht).mpr (kd_W (by omega) (by omega) ht)))
    replace e : L_Md_isName_3 (A 0) (iI 0) (iI 0) (ov 40 A m σ) = _ := e
    rw [if_neg (by omega), e, mw_ov]
def RN (ns : List (List Nat)) (m : VM) : Prop := m.1 0 15 = iI (ns.length : Int) ∧ ∀ i, i < ns.length → m.2 7 i = mw64 (ns.getD i [])
theorem q_nameOf {A : Nat → Nat} {σ : AM} (H : LM A σ) {ns : List (List Nat)} (hn : nsOk ns) {m : VM} (hD : RN ns m) {w : List Nat} (h1 : w.length ≤ 8) (h2 : ∀ c ∈ w, isLt c = true) : M_Md_nameOf (A 0) (mw64 w) (ov 40 A m σ) = some (iI (if idxN ns w = ns.length then -1 else (idxN ns w : Int)), (ov 40 A m σ)) := by
  have hl := hn.1
  have lp : ∀ k i, i + k = ns.length → (∀ j, j < i → ¬ ns.getD j [] = w) → L_Md_nameOf_1 (A 0) (mw64 w) (iI (i : Int)) (ov 40 A m σ) = some (iI (if idxN ns w = ns.length then -1 else (idxN ns w : Int)), (ov 40 A m σ)) := by
    intro k
    induction k with
    | zero =>
      intro i hi hno
      have e : idxN ns w = ns.length := by
        unfold idxN
        rw [List.findIdx_eq_length]
        intro x hx
        obtain ⟨j, hj, rfl⟩ := List.mem_iff_getElem.mp hx
        have := hno j (by omega)
        rw [List.getD_eq_getElem?_getD, List.getElem?_eq_getElem hj] at this
        exact decide_eq_false this
      rw [if_pos e, E_Md_nameOf_1]
      simp (disch := omega) only [mK_0 H, okO_ov, gd_true, aI_ov H.1, hD.1, l_1, iI_neg, iI_lt]
      rw [if_neg (by omega)]
    | succ k ih =>
      intro i hi hno
      have hil : i < ns.length := by omega
      have e4 := hD.2 i hil
      have hm : ns.getD i [] ∈ ns := by
        rw [List.getD_eq_getElem?_getD, List.getElem?_eq_getElem hil]
        exact List.getElem_mem hil
      have hx := hn.2 _ hm
      have hi2 := mw_inj hx.1 h1 hx.2 h2
      rw [E_Md_nameOf_1]
      simp (disch := omega) only [mK_0 H, mR_19 H, mK_7 H, mN_7 H, okO_ov, aR_ov, aN_ov, gd_true, gd_in, iI_cl, Int.toNat_natCast, aI_ov H.1, aL_ov H.1, hD.1, e4, lgc0, l_0, l_1, iI_lt, iI_add, iI_s]
      rw [if_pos (by omega)]
      by_cases c : ns.getD i [] = w
      · rw [if_pos (hi2.mpr c)]
        have e : idxN ns w = i := by
          unfold idxN
          rw [List.findIdx_eq hil]
          rw [List.getD_eq_getElem?_getD, List.getElem?_eq_getElem hil] at c
          refine ⟨decide_eq_true c, fun j hj => ?_⟩
          have := hno j hj
          rw [List.getD_eq_getElem?_getD, List.getElem?_eq_getElem (show j < ns.length by omega)] at this
          exact decide_eq_false this
        rw [e, if_neg (by omega)]
      · rw [if_neg (fun z => c (hi2.mp z))]
        exact ih (i + 1) (by omega) (fun j hj => by
          by_cases e : j = i
          · rw [e]; exact c
          · exact hno j (by omega))
  have e := lp ns.length 0 (by omega) (fun j hj => absurd hj (Nat.not_lt_zero j))
  replace e : L_Md_nameOf_1 (A 0) (mw64 w) (iI 0) _ = _ := e
  unfold M_Md_nameOf
  rw [E_Md_nameOf_0]
  simp only [l_0, e, mw_ov]
theorem q_nameK {t : PD} {A : Nat → Nat} {σ : AM} (H : LM A σ) (ht : wfT t) {ns : List (List Nat)} (hn : nsOk ns) {k : Nat} {m : VM} (hk : kOk t k) (h : QK t k m) (hD : RN ns m) (h3 : kdT t k = 3) : m.2 4 k = mw64 (wdK t k) ∧ M_Md_nameOf (A 0) (mw64 (wdK t k)) (ov 40 A m σ) = some (iI (if idxN ns (wdK t k) = ns.length then -1 else (idxN ns (wdK t k) : Int)), (ov 40 A m σ)) := by
  have hw := kd_W (t := t) (k := k) (by omega) (by omega) ht
  obtain ⟨w1, w2⟩ := wdK_ok hw
  exact ⟨((h.1 k hk).2.2 (by omega)).1 hw, q_nameOf H hn hD w1 w2⟩
theorem p_mfail {t : PD} {A : Nat → Nat} {σ : AM} (H : LM A σ) (ht : wfT t) {k : Nat} {m : VM} (hk : kOk t k) (h : QK t k m) (v : Nat) : M_Md_faulty (A 0) (iI (v : Int)) (ov 40 A m σ) = some ((), (ov 40 A (sV m 0 8 (iI ((v + 16 * plT t k : Nat) : Int))) σ)) := by
  obtain ⟨h1, h2, h3, h4⟩ := h
  have hl := kOk_le ht hk
  obtain ⟨g1, g2, g3⟩ := h1 k hk
  have e : (v : Int) + 16 * (plT t k : Int) = ((v + 16 * plT t k : Nat) : Int) := by omega
  unfold M_Md_faulty
  rw [E_Md_faulty_0]
  simp (disch := omega) only [E_Md_faulty_1, mK_0 H, mR_5 H, mK_3 H, mN_3 H, okO_ov, aR_ov, aN_ov, gd_true, gd_in, iI_cl, Int.toNat_natCast, aI_ov H.1, sI_ov H.1, letT_eq, h3, h4, g2, l_0, l_16, iI_mul, iI_add, e, ↓reduceIte, mw_ov]
theorem p_mfailF {A : Nat → Nat} {σ : AM} (H : LM A σ) {m : VM} {f : Nat} (h : m.1 0 8 = iI (f : Int)) (hf : ¬ f = 0) (hf2 : f ≤ 20000) (v : Int32) : M_Md_faulty (A 0) v (ov 40 A m σ) = some ((), (ov 40 A m σ)) := by
  unfold M_Md_faulty
  rw [E_Md_faulty_0]
  simp (disch := omega) only [E_Md_faulty_1, mK_0 H, okO_ov, gd_true, aI_ov H.1, h, l_0, iI_eq]
  rw [if_neg (by omega), mw_ov]
def opR (c : Nat) : Nat := if c = 0 then 3 else if c = 1 then 9 else if c = 2 then 10 else if c = 3 then 7 else if c = 4 then 8 else if c = 5 then 4 else if c = 6 then 5 else if c = 7 then 6 else if c = 9 then 0 else if c < 32 then 2 else 1
def agR (c : Nat) : Nat := if c < 8 then 0 else if c = 8 then 6 else if c = 9 then 0 else if c < 32 then c - 16 else c - 32
def RC (c : List Nat) (m : VM) : Prop := m.1 0 22 = iI (c.length : Int) ∧ ∀ i, i < c.length → m.1 8 (1100 + i) = iI (opR (c.getD i 0) : Int) ∧ m.1 9 (1100 + i) = iI (agR (c.getD i 0) : Int)
def emS (m : VM) (u : Nat) (a b : Int32) : VM := sV (sV (sV m 8 (1100 + u) a) 9 (1100 + u) b) 0 22 (iI ((u + 1 : Nat) : Int))
theorem p_emit {A : Nat → Nat} {σ : AM} (H : LM A σ) {m : VM} {u : Nat} (hu : m.1 0 22 = iI (u : Int)) (h : u < 1100) (a b : Int32) : M_Md_emit (A 0) a b (ov 40 A m σ) = some ((), (ov 40 A (emS m u a b) σ)) := by
  have e1 : (sV m 8 (1100 + u) a).1 0 22 = iI (u : Int) := by simp (disch := decide) only [sV_eq, sW_eq, sV_ne, sW_ne, sV_2, sW_1, Nat.reduceEqDiff, ↓reduceIte]; exact hu
  have e2 : (sV (sV m 8 (1100 + u) a) 9 (1100 + u) b).1 0 22 = iI (u : Int) := by simp (disch := decide) only [sV_eq, sW_eq, sV_ne, sW_ne, sV_2, sW_1, Nat.reduceEqDiff, ↓reduceIte]; exact hu
  have e3 : (1100 : Int) + (u : Int) = ((1100 + u : Nat) : Int) := by omega
  unfold M_Md_emit
  rw [E_Md_emit_0]
  simp (disch := omega) only [mK_0 H, mR_20 H, mK_8 H, mN_8 H, mR_21 H, mK_9 H, mN_9 H, okO_ov, aR_ov, aN_ov, gd_true, gd_in, iI_cl, Int.toNat_natCast, aI_ov H.1, sI_ov H.1, letT_eq, hu, e1, e2, e3, l_1, l_1100, iI_add, iI_s, mw_ov]
  rfl
theorem RC_em {c : List Nat} {m : VM} (h : RC c m) (v : Nat) : RC (c ++ [v]) (emS m c.length (iI (opR v : Int)) (iI (agR v : Int))) := by
  refine ⟨by rw [List.length_append, List.length_singleton]; unfold emS; simp (disch := decide) only [sV_eq, sW_eq, sV_ne, sW_ne, sV_2, sW_1, Nat.reduceEqDiff, ↓reduceIte], fun i hi => ?_⟩
  rw [List.length_append, List.length_singleton] at hi
  unfold emS
  rw [sV_ne _ _ _ _ (by decide), sV_ne _ _ _ _ (by decide), sV_eq, sV_ne _ _ _ _ (by decide), sV_eq, sV_ne _ _ _ _ (by decide)]
  by_cases e : i = c.length
  · subst e; rw [if_pos rfl, if_pos rfl, getD_app2]; exact ⟨rfl, rfl⟩
  · rw [if_neg (by omega), if_neg (by omega), getD_app1 _ _ _ (by omega)]; exact h.2 i (by omega)
