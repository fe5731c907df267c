/-! ===== trials that can't be together: the class ===== -/
def fsB (b : BD) (k : Nat) : Bool := !anyN k (fun j => decide (tR b j = tR b k) && decide (tS b j = tS b k))
theorem fsB_iff {b : BD} {k : Nat} : fsB b k = true ↔ fsT b k := by
  unfold fsB fsT
  rw [Bool.not_eq_true']
  constructor
  · intro h j hj z
    have : anyN k (fun j => decide (tR b j = tR b k) && decide (tS b j = tS b k)) = true := anyN_iff.mpr ⟨j, hj, by rw [decide_eq_true z.1, decide_eq_true z.2]; rfl⟩
    rw [h] at this; cases this
  · intro h
    cases q : anyN k (fun j => decide (tR b j = tR b k) && decide (tS b j = tS b k))
    · rfl
    · obtain ⟨j, hj, z⟩ := anyN_iff.mp q
      rw [Bool.and_eq_true] at z
      exact absurd ⟨of_decide_eq_true z.1, of_decide_eq_true z.2⟩ (h j hj)
def rtP (b : BD) (i : Nat) : Bool := tR b i && fsB b i
def RTl (b : BD) : List Nat := flt (rtP b) (nT b)
def hoB (b : BD) (h i : Nat) : Bool := !tR b i && (fsB b i && decide (sdf h (tS b i) = 0))
theorem seen_fs {d : TD} {b : BD} (hb : wfB d b) {k : Nat} (hk : k < nT b) {r : Bool} (hr : tR b k = r) : bt (tol b r 0 k) (tS b k) = !fsB b k := by
  rw [bt_tol0 hb r (tS b k) k (by have := hb.1; omega)]
  unfold fsB
  rw [Bool.not_not, hr]
  congr 1
  funext j
  congr 1
  by_cases z : tS b k = tS b j
  · rw [decide_eq_true z, decide_eq_true z.symm]
  · rw [decide_eq_false z, decide_eq_false (fun y => z y.symm)]
theorem Ft_addHolder {d : TD} {b : BD} {A : Nat → Nat} {σ : AM} (H : LC A σ) (hb : wfB d b) {k : Nat} (hk : k < nT b) (hr : tR b k = false) (hf : fsB b k = true) {m : VM} (h58 : ∀ h, h < 64 → m.2 58 h = mkB k (hoB b h)) : ∃ m' : VM, M_Ft_addHolder (A 54) (iI (tS b k : Int)) (iI (k : Int)) (ov 68 A m σ) = some ((), (ov 68 A (m') σ)) ∧ m'.1 = m.1 ∧ (∀ c, c ≠ 58 → m'.2 c = m.2 c) ∧ ∀ h, h < 64 → m'.2 58 h = mkB (k + 1) (hoB b h) := by
  have hn := hb.1
  have hs := hb.2.2.1 k (by omega)
  have ho : ∀ h, hoB b h k = decide (sdf h (tS b k) = 0) := fun h => by unfold hoB; rw [hr, hf]; rfl
  have l1 : ∃ m' : VM, L_Ft_addHolder_1 (A 54) (iI (tS b k : Int)) (iI (k : Int)) (iI ((0 : Nat) : Int)) (ov 68 A m σ) = some ((), (ov 68 A (m') σ)) ∧ m'.1 = m.1 ∧ (∀ c, c ≠ 58 → m'.2 c = m.2 c) ∧ ∀ h, h < 64 → m'.2 58 h = mkB (k + 1) (hoB b h) := by
    refine up_loopI (fun h mm => L_Ft_addHolder_1 (A 54) (iI (tS b k : Int)) (iI (k : Int)) (iI (h : Int)) (ov 68 A mm σ)) (fun h mm => mm.1 = m.1 ∧ (∀ c, c ≠ 58 → mm.2 c = m.2 c) ∧ ∀ x, x < 64 → mm.2 58 x = mkB (if x < h then k + 1 else k) (hoB b x)) (fun X => ∃ m' : VM, X = some ((), (ov 68 A (m') σ)) ∧ m'.1 = m.1 ∧ (∀ c, c ≠ 58 → m'.2 c = m.2 c) ∧ ∀ h, h < 64 → m'.2 58 h = mkB (k + 1) (hoB b h)) 64 (fun h mm hh ⟨i1, i2, i3⟩ ih => ?_) (fun mm ⟨i1, i2, i3⟩ => ?_) 0 m (Nat.zero_le _) ⟨rfl, fun _ _ => rfl, fun x hx => by rw [if_neg (Nat.not_lt_zero x)]; exact h58 x hx⟩
    · have e58 := i3 h hh
      rw [if_neg (Nat.lt_irrefl h)] at e58
      have hsb := shl_b1 (s := k) (by omega)
      have hsl : sdf h (tS b k) < 2 ^ 6 := sdf_lt (by omega) _
      have emk : mkB (k + 1) (hoB b h) = if decide (sdf h (tS b k) = 0) = true then mkB k (hoB b h) ||| b1 k else mkB k (hoB b h) := by
        rw [← ho h]; rfl
      show ∃ m' : VM, L_Ft_addHolder_1 _ _ _ _ _ = _ ∧ _
      rw [E_Ft_addHolder_1]
      simp (disch := omega) only [E_Ft_addHolder_2, cK_54 H, cR_54_11 H, cK_58 H, cN_58 H, okO_ov, aR_ov, aN_ov, gd_true, gd_in, iI_cl, Int.toNat_natCast, aL_ov H.1, sL_ov H.1, letT_eq, e58, hsb, l_0, l_1, l_64, iI_neg, iI_sdf, iI_lt, iI_eq, iI_add, iI_s]
      rw [if_pos (by omega)]
      have nx : ∀ (mx : VM), mx.1 = m.1 → (∀ c, c ≠ 58 → mx.2 c = m.2 c) → (∀ x, x ≠ h → mx.2 58 x = mm.2 58 x) → mx.2 58 h = mkB (k + 1) (hoB b h) → (mx.1 = m.1 ∧ (∀ c, c ≠ 58 → mx.2 c = m.2 c) ∧ ∀ x, x < 64 → mx.2 58 x = mkB (if x < h + 1 then k + 1 else k) (hoB b x)) := fun mx q1 q2 q3 q4 => by
        refine ⟨q1, q2, fun x hx => ?_⟩
        by_cases e : x = h
        · rw [e, if_pos (by omega)]; exact q4
        · rw [q3 x e, i3 x hx]
          by_cases c : x < h
          · rw [if_pos c, if_pos (by omega)]
          · rw [if_neg c, if_neg (by omega)]
      by_cases c : sdf h (tS b k) = 0
      · rw [if_pos (by omega)]
        rw [decide_eq_true c, if_pos rfl] at emk
        exact ih _ (nx _ i1 (fun x hx => by rw [sW_ne _ _ _ _ hx]; exact i2 x hx) (fun x hx => by rw [sW_eq, if_neg hx]) (by rw [sW_eq, if_pos rfl, emk]))
      · rw [if_neg (by omega)]
        rw [decide_eq_false c, if_neg (by decide)] at emk
        exact ih _ (nx _ i1 i2 (fun _ _ => rfl) (by rw [e58, emk]))
    · refine ⟨mm, ?_, i1, i2, fun h hh => by have := i3 h hh; rw [if_pos hh] at this; exact this⟩
      show L_Ft_addHolder_1 _ _ _ _ _ = _
      rw [E_Ft_addHolder_1]
      simp (disch := omega) only [l_64, iI_lt]
      rw [if_neg (by omega)]
  obtain ⟨m', e, r⟩ := l1
  refine ⟨m', ?_, r⟩
  unfold M_Ft_addHolder
  rw [E_Ft_addHolder_0]
  exact (congrArg (mw _) e).trans (mw_ov _ _ _ _ _ _)
/-- the trials gathered -/
def gaE (b : BD) (k : Nat) (m : VM) : Prop := m.1 54 14 = iI ((flt (rtP b) k).length : Int) ∧ Row (m.1 59) (flt (rtP b) k) ∧ ∀ h, h < 64 → m.2 58 h = mkB k (hoB b h)
theorem p_Ft_gather {d : TD} {b : BD} {A : Nat → Nat} {σ : AM} (H : LC A σ) (hb : wfB d b) {m : VM} (hB : CBk b m) : ∃ m' : VM, M_Ft_gatherTrials (A 54) (ov 68 A m σ) = some ((), (ov 68 A (m') σ)) ∧ OnF m m' ∧ gaE b (nT b) m' := by
  have hn := hb.1
  have hfl := q_fill H.1 (sV m 54 14 (iI 0)) (c := 58) (by decide) (H.2.2.1 (58, 102) (by decide)) (by rw [H.2.2.2.1 (58, 64) (by decide)]; decide) (0 : Int64)
  rw [H.2.2.2.1 (58, 64) (by decide)] at hfl
  have O0 : OnF m (fillW (sV m 54 14 (iI 0)) 58 64 0) := by
    have o := OnF_V (OnF_r m) 14 (iI 0) (c := 54) (by decide) (by decide)
    exact ⟨o.1, fun c hc => by rw [fillW_ne _ _ _ _ hc]; exact o.2 c hc⟩
  have lp : ∃ m' : VM, L_Ft_gatherTrials_1 (A 54) 0 0 (iI ((0 : Nat) : Int)) (ov 68 A (fillW (sV m 54 14 (iI 0)) 58 64 0) σ) = some ((), (ov 68 A (m') σ)) ∧ OnF m m' ∧ gaE b (nT b) m' := by
    refine up_loopI (fun k mm => L_Ft_gatherTrials_1 (A 54) (tol b true 0 k) (tol b false 0 k) (iI (k : Int)) (ov 68 A mm σ)) (fun k mm => OnF m mm ∧ gaE b k mm) (fun X => ∃ m' : VM, X = some ((), (ov 68 A (m') σ)) ∧ OnF m m' ∧ gaE b (nT b) m') (nT b) (fun k mm hk ⟨i1, i2, i3, i4⟩ ih => ?_) (fun mm ⟨i1, i2⟩ => ?_) 0 _ (Nat.zero_le _) ⟨O0, by rw [fillW_1]; simp (disch := decide) only [sV_eq, sW_eq, sV_ne, sW_ne, sV_2, sW_1, Nat.reduceEqDiff, ↓reduceIte]; rfl, Row_nil _, fun h hh => by rw [fillW_at, if_pos hh]; rfl⟩
    · have hBm := CBk_K (OnF_Ks i1 0 (by decide)) hB
      have hs := hb.2.2.1 k (by omega)
      have g1 := q_Bk_setAt H hb hBm hk
      have g2 := q_Bk_rangAt H hb hBm hk
      have hle := flt_le (rtP b) k
      have hsb := shl_b1 hs
      have ho : M_Bk_trials (A 27) (ov 68 A mm σ) = some (iI (nT b : Int), (ov 68 A mm σ)) := by rw [q_Bk_trials H, hBm.1.1]
      have t1 : tol b true 0 (k + 1) = if tR b k = true then tol b true 0 k ||| b1 (tS b k) else tol b true 0 k := by
        show (if 0 ≤ k ∧ tR b k = true then tol b true 0 k ||| b1 (tS b (k - 0)) else tol b true 0 k) = _
        by_cases z : tR b k = true
        · rw [if_pos ⟨Nat.zero_le _, z⟩, if_pos z]; rfl
        · rw [if_neg (fun y => z y.2), if_neg z]
      have t2 : tol b false 0 (k + 1) = if tR b k = false then tol b false 0 k ||| b1 (tS b k) else tol b false 0 k := by
        show (if 0 ≤ k ∧ tR b k = false then tol b false 0 k ||| b1 (tS b (k - 0)) else tol b false 0 k) = _
        by_cases z : tR b k = false
        · rw [if_pos ⟨Nat.zero_le _, z⟩, if_pos z]; rfl
        · rw [if_neg (fun y => z y.2), if_neg z]
      rw [t1, t2] at ih
      show ∃ m' : VM, L_Ft_gatherTrials_1 _ _ _ _ _ = _ ∧ _
      cases q : tR b k
      · rw [q] at g2 ih
        rw [if_neg (by decide), if_pos rfl] at ih
        have hh := q_St_has (tol b false 0 k) hs (ov 68 A mm σ)
        rw [seen_fs hb hk q] at hh
        have rt : rtP b k = false := by unfold rtP; rw [q]; rfl
        cases qf : fsB b k
        · rw [qf] at hh
          replace hh : M_St_has _ _ _ = some (bZ true, _) := hh
          have ih := ih mm ⟨i1, by rw [flt_s, rt, if_neg (by decide)]; exact i2, by rw [flt_s, rt, if_neg (by decide)]; exact i3, fun h hh => by
            rw [i4 h hh]
            show mkB k (hoB b h) = if hoB b h k = true then _ else mkB k (hoB b h)
            rw [if_neg]; unfold hoB; rw [qf]; simp⟩
          rw [E_Ft_gatherTrials_1]
          simp (disch := omega) only [E_Ft_gatherTrials_2, E_Ft_gatherTrials_3, E_Ft_gatherTrials_4, cK_54 H, cR_54_1 H, cK_27 H, okO_ov, aR_ov, gd_true, bnd_some, ho, g1, g2, hh, bZ_0, l_0, l_1, iI_lt, iI_add, iI_s, letT_eq, hsb, reduceCtorEq, ↓reduceIte]
          rw [if_pos (by omega)]
          exact ih
        · rw [qf] at hh
          replace hh : M_St_has _ _ _ = some (bZ false, _) := hh
          obtain ⟨m2, e2, j1, j2, j3⟩ := Ft_addHolder H hb hk q qf i4
          have ih := ih m2 ⟨OnF_t i1 ⟨fun c _ => by rw [j1], j2⟩, by rw [j1, flt_s, rt, if_neg (by decide)]; exact i2, by rw [j1, flt_s, rt, if_neg (by decide)]; exact i3, j3⟩
          rw [E_Ft_gatherTrials_1]
          simp (disch := omega) only [E_Ft_gatherTrials_2, E_Ft_gatherTrials_3, E_Ft_gatherTrials_4, cK_54 H, cR_54_1 H, cK_27 H, okO_ov, aR_ov, gd_true, bnd_some, ho, g1, g2, hh, e2, bZ_0, l_0, l_1, iI_lt, iI_add, iI_s, letT_eq, hsb, ↓reduceIte]
          rw [if_pos (by omega)]
          exact ih
      · rw [q] at g2 ih
        rw [if_pos rfl, if_neg (by decide)] at ih
        have hh := q_St_has (tol b true 0 k) hs (ov 68 A mm σ)
        rw [seen_fs hb hk q] at hh
        have hk4 : ∀ (mx : VM), (∀ h, h < 64 → mx.2 58 h = mm.2 58 h) → ∀ h, h < 64 → mx.2 58 h = mkB (k + 1) (hoB b h) := fun mx hmx h hh => by
          rw [hmx h hh, i4 h hh]
          show mkB k (hoB b h) = if hoB b h k = true then _ else mkB k (hoB b h)
          rw [if_neg]; unfold hoB; rw [q]; simp
        cases qf : fsB b k
        · have rt : rtP b k = false := by unfold rtP; rw [q, qf]; rfl
          rw [qf] at hh
          replace hh : M_St_has _ _ _ = some (bZ true, _) := hh
          have ih := ih mm ⟨i1, by rw [flt_s, rt, if_neg (by decide)]; exact i2, by rw [flt_s, rt, if_neg (by decide)]; exact i3, hk4 mm (fun _ _ => rfl)⟩
          rw [E_Ft_gatherTrials_1]
          simp (disch := omega) only [E_Ft_gatherTrials_2, E_Ft_gatherTrials_3, E_Ft_gatherTrials_4, cK_54 H, cR_54_1 H, cK_27 H, okO_ov, aR_ov, gd_true, bnd_some, ho, g1, g2, hh, bZ_0, l_0, l_1, iI_lt, iI_add, iI_s, letT_eq, hsb, reduceCtorEq, ↓reduceIte]
          rw [if_pos (by omega)]
          exact ih
        · have rt : rtP b k = true := by unfold rtP; rw [q, qf]; rfl
          rw [qf] at hh
          replace hh : M_St_has _ _ _ = some (bZ false, _) := hh
          have ih := ih (sV (sV mm 59 (flt (rtP b) k).length (iI (k : Int))) 54 14 (iI (((flt (rtP b) k).length + 1 : Nat) : Int))) ⟨OnF_V (OnF_V i1 _ _ (by decide) (by decide)) _ _ (by decide) (by decide), by rw [flt_s, rt, if_pos rfl, List.length_append, List.length_singleton]; simp (disch := decide) only [sV_eq, sW_eq, sV_ne, sW_ne, sV_2, sW_1, Nat.reduceEqDiff, ↓reduceIte], by
            rw [flt_s, rt, if_pos rfl, sV_ne _ _ _ _ (by decide)]
            exact Row_app i3 (fun i => sV_eq _ _ _ _ _), hk4 _ (fun _ _ => rfl)⟩
          rw [E_Ft_gatherTrials_1]
          simp (disch := omega) only [E_Ft_gatherTrials_2, E_Ft_gatherTrials_3, E_Ft_gatherTrials_4, cK_54 H, cR_54_1 H, cR_54_12 H, cK_59 H, cN_59 H, cK_27 H, okO_ov, aR_ov, aN_ov, gd_true, gd_in, iI_cl, Int.toNat_natCast, aI_ov H.1, sI_ov H.1, sV_ne, i2, bnd_some, ho, g1, g2, hh, bZ_0, l_0, l_1, iI_lt, iI_add, iI_s, letT_eq, hsb, reduceCtorEq, ↓reduceIte]
          rw [if_pos (by omega)]
          exact ih
    · have hBm := CBk_K (OnF_Ks i1 0 (by decide)) hB
      have ho : M_Bk_trials (A 27) (ov 68 A mm σ) = some (iI (nT b : Int), (ov 68 A mm σ)) := by rw [q_Bk_trials H, hBm.1.1]
      refine ⟨mm, ?_, i1, i2⟩
      show L_Ft_gatherTrials_1 _ _ _ _ _ = _
      rw [E_Ft_gatherTrials_1]
      simp (disch := omega) only [cK_54 H, cR_54_1 H, cK_27 H, okO_ov, aR_ov, gd_true, bnd_some, ho, iI_lt]
      rw [if_neg (by omega)]
  obtain ⟨m', e, r⟩ := lp
  replace e : L_Ft_gatherTrials_1 (A 54) 0 0 (iI 0) _ = _ := e
  refine ⟨m', ?_, r⟩
  unfold M_Ft_gatherTrials
  rw [E_Ft_gatherTrials_0]
  simp (disch := omega) only [cK_54 H, cR_54_11 H, cK_58 H, okO_ov, aR_ov, gd_true, letT_eq, sI_ov H.1, l_0, hfl, bnd_some, e, mw_ov]
/-! choosing -/
def mk6 (g : Nat → Nat) (v : Nat) : Nat := mkN 6 (fun t => decide (v ≤ g t))
theorem tb_mk6 (g : Nat → Nat) (v t : Nat) : (mk6 g v).testBit t = (decide (t < 6) && decide (v ≤ g t)) := tb_mkN _ _ _
theorem mk6_lt (g : Nat → Nat) (v : Nat) : mk6 g v < 64 := mkN_lt 6 _
theorem s_tb {s t : Nat} (hs : s < 64) (ht : ¬ t < 6) : s.testBit t = false := Nat.testBit_lt_two_pow (Nat.lt_of_lt_of_le hs (Nat.pow_le_pow_right (show 0 < 2 by omega) (show 6 ≤ t by omega)))
theorem or_mk {g g' : Nat → Nat} {s : Nat} (hs : s < 64) (h : ∀ t, t < 6 → g' t = g t + if s.testBit t = true then 1 else 0) : mk6 g 1 ||| s = mk6 g' 1 ∧ mk6 g 2 ||| (mk6 g 1 &&& s) = mk6 g' 2 ∧ mk6 g 3 ||| (mk6 g 2 &&& s) = mk6 g' 3 := by
  refine ⟨?_, ?_, ?_⟩
  all_goals
    apply Nat.eq_of_testBit_eq
    intro t
    simp only [Nat.testBit_or, Nat.testBit_and, tb_mk6]
    by_cases ht : t < 6
    · rw [h t ht]
      cases s.testBit t
      · simp [ht]
      · simp only [ht, decide_true, Bool.true_and, Bool.and_true, if_true]
        first
          | rw [Bool.or_true, decide_eq_true (by omega)]
          | (by_cases z1 : 2 ≤ g t
             · rw [decide_eq_true z1, decide_eq_true (show 1 ≤ g t by omega), decide_eq_true (by omega)]; rfl
             · by_cases z2 : 1 ≤ g t
               · rw [decide_eq_false z1, decide_eq_true z2, decide_eq_true (by omega)]; rfl
               · rw [decide_eq_false z1, decide_eq_false z2, decide_eq_false (by omega)]; rfl)
          | (by_cases z1 : 3 ≤ g t
             · rw [decide_eq_true z1, decide_eq_true (show 2 ≤ g t by omega), decide_eq_true (by omega)]; rfl
             · by_cases z2 : 2 ≤ g t
               · rw [decide_eq_false z1, decide_eq_true z2, decide_eq_true (by omega)]; rfl
               · rw [decide_eq_false z1, decide_eq_false z2, decide_eq_false (by omega)]; rfl)
    · rw [s_tb hs ht]; simp [ht]
theorem an_mk {g g' : Nat → Nat} {s : Nat} (hs : s < 64) (h3 : ∀ t, g t ≤ 3) (h : ∀ t, t < 6 → g' t = g t - if s.testBit t = true then 1 else 0) : sdf (mk6 g 1) s ||| (mk6 g 2 &&& s) = mk6 g' 1 ∧ sdf (mk6 g 2) s ||| (mk6 g 3 &&& s) = mk6 g' 2 ∧ sdf (mk6 g 3) s = mk6 g' 3 := by
  refine ⟨?_, ?_, ?_⟩
  all_goals
    apply Nat.eq_of_testBit_eq
    intro t
    simp only [Nat.testBit_or, Nat.testBit_and, tb_mk6, tb_sdf]
    by_cases ht : t < 6
    · have := h3 t
      rw [h t ht]
      cases s.testBit t
      · simp [ht]
      · simp only [ht, decide_true, Bool.true_and, Bool.and_true, if_true, Bool.not_true, Bool.and_false, Bool.false_or]
        first
          | (by_cases z1 : 2 ≤ g t
             · rw [decide_eq_true z1, decide_eq_true (by omega)]
             · rw [decide_eq_false z1, decide_eq_false (by omega)])
          | (by_cases z1 : 3 ≤ g t
             · rw [decide_eq_true z1, decide_eq_true (by omega)]
             · rw [decide_eq_false z1, decide_eq_false (by omega)])
          | rw [decide_eq_false (by omega)]
    · rw [s_tb hs ht]; simp [ht]
def lst0 (q : List Nat) : Nat := q.getLastD 0
theorem lst0_app (q : List Nat) (x : Nat) : lst0 (q ++ [x]) = x := by unfold lst0; simp
theorem srt_pre {q s : List Nat} (h : srt (q ++ s)) : srt q := fun p a c r e => h p a c (r ++ s) (by rw [e]; simp)
theorem srt_1 {q : List Nat} {x : Nat} (h : srt (q ++ [x])) : lst0 q ≤ x := by
  rcases List.eq_nil_or_concat q with rfl | ⟨p, a, rfl⟩
  · exact Nat.zero_le _
  · rw [List.concat_eq_append] at h ⊢
    rw [lst0_app]
    exact h p a x [] (by simp)
theorem srt_a {q : List Nat} {x : Nat} (h : srt q) (hx : lst0 q ≤ x) : srt (q ++ [x]) := by
  intro p a c r e
  rcases List.eq_nil_or_concat r with rfl | ⟨r', y, rfl⟩
  · have e2 : q ++ [x] = (p ++ [a]) ++ [c] := by rw [e]; simp
    have := List.append_inj' e2 rfl
    obtain ⟨h1, h2⟩ := this
    cases h2
    rw [h1, lst0_app] at hx
    exact hx
  · rw [List.concat_eq_append] at e
    have e2 : q ++ [x] = (p ++ a :: c :: r') ++ [y] := by rw [e]; simp
    have := List.append_inj' e2 rfl
    exact h p a c r' this.1
/-- what was chosen so far -/
def chE (n : Nat) (p : List Nat) (m : VM) : Prop := ∀ i, i < p.length → m.1 60 (if i < n then i else 3 + (i - n)) = iI (p.getD i 0 : Int)
/-- tables that the choice may read -/
def trK (b : BD) (m : VM) : Prop := CBk b m ∧ gaE b (nT b) m
theorem trK_S {b : BD} {m m' : VM} (h : trK b m) (k : OnS 60 m m') : trK b m' := ⟨CBk_K (OnF_Ks (OnF_S k (by decide) (by decide)) 0 (by decide)) h.1, by rw [gaE, k.1 54 (by decide), k.1 59 (by decide), k.2]; exact h.2⟩
def csP (b : BD) (A : Nat → Nat) (σ : AM) (n : Nat) (p : List Nat) (m : VM) (X : Option (Int32 × AM)) : Prop := ∃ (m' : VM) (o : Option (List Nat)), X = some (bZ o.isSome, (ov 68 A (m') σ)) ∧ OnS 60 m m' ∧ DF (Xc b n) p o ∧ (o = none → chE n p m') ∧ ∀ r, o = some r → chE n (p ++ r) m'
theorem Xc_len {d : TD} {b : BD} (hb : wfB d b) {n : Nat} : ∀ l, Xc b n l → l.length = 2 * n ∧ ∀ k ∈ l, k < 64 := fun l ⟨R, N, e, h, _⟩ => by
  subst e
  refine ⟨by rw [List.length_append, h.1, h.2.1]; omega, okU_lt hb h⟩
theorem chE_app {n : Nat} {p : List Nat} {m : VM} {x : Nat} (h : chE n p m) (hn : n ≤ 3) : chE n (p ++ [x]) (sV m 60 (if p.length < n then p.length else 3 + (p.length - n)) (iI (x : Int))) := by
  intro i hi
  rw [List.length_append, List.length_singleton] at hi
  rw [sV_eq]
  by_cases e : i = p.length
  · subst e; rw [if_pos rfl, getD_app2]
  · rw [if_neg, getD_app1 _ _ _ (by omega)]
    · exact h i (by omega)
    · by_cases c1 : i < n
      · rw [if_pos c1]
        by_cases c2 : p.length < n
        · rw [if_pos c2]; omega
        · rw [if_neg c2]; omega
      · rw [if_neg c1, if_neg (by omega)]; omega
theorem chE_pre {n : Nat} {p s : List Nat} {m : VM} (h : chE n (p ++ s) m) : chE n p m := fun i hi => by
  have := h i (by rw [List.length_append]; omega)
  rw [this]
  congr 2
  rw [List.getD_eq_getElem?_getD, List.getD_eq_getElem?_getD, List.getElem?_append_left hi]
/-- what must hold of the silent ones chosen so far -/
def siI (b : BD) (n opn : Nat) (R q : List Nat) : Prop := R.length = n ∧ q.length + opn = n ∧ (∀ k ∈ R, k < nT b ∧ tR b k = true ∧ fsT b k) ∧ srt R ∧ (∀ k ∈ q, k < nT b ∧ tR b k = false ∧ fsT b k) ∧ srt q ∧ ∀ t, t < 6 → ctB b R t - ctB b q t ≤ opn
theorem Xc_cut {b : BD} {n : Nat} {R s : List Nat} (hR : R.length = n) (h : Xc b n (R ++ s)) : okU b n R s ∧ srt R ∧ srt s ∧ ∀ k ∈ R ++ s, fsT b k := by
  obtain ⟨R', N', e, h1, h2, h3, h4⟩ := h
  obtain ⟨rfl, rfl⟩ := List.append_inj e (by rw [hR, h1.1])
  exact ⟨h1, h2, h3, h4⟩
theorem ctB_app (b : BD) (p q : List Nat) (t : Nat) : ctB b (p ++ q) t = ctB b p t + ctB b q t := List.countP_append
theorem ctB_le (b : BD) (p : List Nat) (t : Nat) : ctB b p t ≤ p.length := List.countP_le_length
theorem ctB_1 (b : BD) (x t : Nat) : ctB b [x] t = if (tS b x).testBit t = true then 1 else 0 := by unfold ctB; rw [List.countP_singleton]
theorem Ft_silent {d : TD} {b : BD} {A : Nat → Nat} {σ : AM} (H : LC A σ) (hb : wfB d b) {n : Nat} (hn : n ≤ 3) : ∀ (opn f : Nat) (R q : List Nat) (m : VM), opn < f → siI b n opn R q → trK b m → chE n (R ++ q) m → csP b A σ n (R ++ q) m (Q_Ft_chooseSilent f (A 54) (iI (n : Int)) (iI (opn : Int)) (iI (lst0 q : Int)) (iI (mk6 (fun t => ctB b R t - ctB b q t) 1 : Int)) (iI (mk6 (fun t => ctB b R t - ctB b q t) 2 : Int)) (iI (mk6 (fun t => ctB b R t - ctB b q t) 3 : Int)) (ov 68 A m σ)) := by
  have hnT := hb.1
  intro opn
  induction opn with
  | zero =>
    intro f R q m hf hI hK hC
    obtain ⟨f, rfl⟩ : ∃ g, f = g + 1 := ⟨f - 1, by omega⟩
    obtain ⟨a1, a2, a3, a4, a5, a6, a7⟩ := hI
    have hX : Xc b n (R ++ q) := ⟨R, q, rfl, ⟨a1, by omega, fun k hk => ⟨(a3 k hk).1, (a3 k hk).2.1⟩, fun k hk => ⟨(a5 k hk).1, (a5 k hk).2.1⟩, fun t ht => by have := a7 t ht; omega⟩, a4, a6, fun k hk => (List.mem_append.mp hk).elim (fun z => (a3 k z).2.2) (fun z => (a5 k z).2.2)⟩
    refine ⟨m, some [], ?_, OnS_r _ _, ⟨fun z => (by cases z), fun r hr => by cases hr; exact ⟨by rw [List.append_nil]; exact hX, fun _ _ => Nat.zero_le _⟩⟩, fun z => (by cases z), fun r hr => by cases hr; rw [List.append_nil]; exact hC⟩
    show mw _ (L_Ft_chooseSilent_0 _ _ _ _ _ _ _ _ _) = _
    rw [E_Ft_chooseSilent_0]
    simp (disch := omega) only [l_0, l_1, iI_lt]
    rw [if_neg (by omega), mw_ov]
    rfl
  | succ opn ih =>
    intro f R q m hf hI hK hC
    obtain ⟨f, rfl⟩ : ∃ g, f = g + 1 := ⟨f - 1, by omega⟩
    have hI0 := hI
    obtain ⟨a1, a2, a3, a4, a5, a6, a7⟩ := hI
    generalize hg : (fun t => ctB b R t - ctB b q t) = g
    have hgt : ∀ t, g t = ctB b R t - ctB b q t := fun t => by rw [← hg]
    have g3 : ∀ t, g t ≤ 3 := fun t => by rw [hgt]; have := ctB_le b R t; omega
    have hml := mk6_lt g (opn + 1)
    -- the loop
    have lp : ∀ k i mm, i + k = nT b → lst0 q ≤ i ∨ k = 0 → OnS 60 m mm → chE n (R ++ q) mm → (∀ y, y < i → ∀ s, ¬ Xc b n (R ++ q ++ y :: s)) → csP b A σ n (R ++ q) m (L_Ft_chooseSilent_2 (Q_Ft_chooseSilent f) (A 54) (iI (n : Int)) (iI ((opn + 1 : Nat) : Int)) (iI (mk6 g 1 : Int)) (iI (mk6 g 2 : Int)) (iI (mk6 g 3 : Int)) (mkB (nT b) (hoB b (mk6 g (opn + 1)))) (iI (i : Int)) (ov 68 A mm σ)) := by
      intro k
      induction k with
      | zero =>
        intro i mm hi _ i1 i2 i3
        obtain rfl : i = nT b := hi
        have hKm := trK_S hK i1
        have ho : M_Bk_trials (A 27) (ov 68 A mm σ) = some (iI (nT b : Int), (ov 68 A mm σ)) := by rw [q_Bk_trials H, hKm.1.1.1]
        refine ⟨mm, none, ?_, i1, ⟨fun _ r hX => ?_, fun r hr => (by cases hr)⟩, fun _ => i2, fun r hr => (by cases hr)⟩
        · rw [E_Ft_chooseSilent_2]
          simp (disch := omega) only [cK_54 H, cR_54_1 H, cK_27 H, okO_ov, aR_ov, gd_true, bnd_some, ho, l_0, iI_lt]
          rw [if_neg (by omega)]
          rfl
        · have hl := (Xc_len hb _ hX).1
          rw [List.length_append, List.length_append, a1] at hl
          cases r with
          | nil => rw [List.length_nil] at hl; omega
          | cons y s =>
            have hc := Xc_cut a1 (s := q ++ y :: s) (by rw [← List.append_assoc]; exact hX)
            have := (hc.1.2.2.2.1 y (List.mem_append_right _ List.mem_cons_self)).1
            exact i3 y this s hX
      | succ k ihk =>
        intro i mm hi hlo i1 i2 i3
        have hKm := trK_S hK i1
        have ho : M_Bk_trials (A 27) (ov 68 A mm σ) = some (iI (nT b : Int), (ov 68 A mm σ)) := by rw [q_Bk_trials H, hKm.1.1.1]
        have hiT : i < nT b := by omega
        have hs := hb.2.2.1 i (by omega)
        have g1 := q_Bk_setAt H hb hKm.1 hiT
        have hh := q_St_has (mkB (nT b) (hoB b (mk6 g (opn + 1)))) (s := i) (by omega) (ov 68 A mm σ)
        rw [bt_mkB (by omega), decide_eq_true hiT, Bool.true_and] at hh
        cases qh : hoB b (mk6 g (opn + 1)) i
        · rw [qh] at hh
          have no : ∀ s, ¬ Xc b n (R ++ q ++ i :: s) := fun s hX => by
            have hc := Xc_cut a1 (s := q ++ i :: s) (by rw [← List.append_assoc]; exact hX)
            have y1 := (hc.1.2.2.2.1 i (List.mem_append_right _ List.mem_cons_self)).2
            have y2 := fsB_iff.mpr (hc.2.2.2 i (List.mem_append_right _ (List.mem_append_right _ List.mem_cons_self)))
            have y3 : sdf (mk6 g (opn + 1)) (tS b i) ≠ 0 := fun z => by
              unfold hoB at qh
              rw [y1, y2, decide_eq_true z] at qh; cases qh
            apply y3
            apply n_ext (sdf_lt (n := 6) hml _)
            intro t ht
            rw [tb_sdf, tb_mk6, decide_eq_true ht, Bool.true_and]
            apply Classical.byContradiction
            intro z
            have z : (decide (opn + 1 ≤ g t) && !(tS b i).testBit t) = true := by
              cases w : (decide (opn + 1 ≤ g t) && !(tS b i).testBit t)
              · exact absurd w z
              · rfl
            rw [Bool.and_eq_true, Bool.not_eq_true'] at z
            have z1 := of_decide_eq_true z.1
            have h5 := hc.1.2.2.2.2 t ht
            have e1 : ctB b (q ++ i :: s) t = ctB b q t + ctB b s t := by
              rw [ctB_app, show i :: s = [i] ++ s from rfl, ctB_app, ctB_1, z.2]; simp
            have h6 := ctB_le b s t
            have h7 := hc.1.2.1
            rw [List.length_append, List.length_cons] at h7
            rw [hgt] at z1
            omega
          have ihk := ihk (i + 1) mm (by omega) (by rcases hlo with z | z <;> omega) i1 i2 (DF_miss i3 no)
          rw [E_Ft_chooseSilent_2]
          simp (disch := omega) only [E_Ft_chooseSilent_3, cK_54 H, cR_54_1 H, cK_27 H, okO_ov, aR_ov, gd_true, bnd_some, ho, hh, bZ_0, l_0, l_1, iI_lt, iI_add, iI_s, ↓reduceIte]
          rw [if_pos (by omega)]
          exact ihk
        · rw [qh] at hh
          unfold hoB at qh
          rw [Bool.and_eq_true, Bool.and_eq_true, Bool.not_eq_true'] at qh
          obtain ⟨y1, y2, y3⟩ := qh
          have y3 := of_decide_eq_true y3
          have hlo : lst0 q ≤ i := by rcases hlo with z | z <;> omega
          have lenq : (R ++ q).length = n + q.length := by rw [List.length_append, a1]
          have hpos : (if (R ++ q).length < n then (R ++ q).length else 3 + ((R ++ q).length - n)) = 3 + q.length := by rw [if_neg (by omega)]; omega
          have hC2 := chE_app (x := i) i2 hn
          rw [hpos] at hC2
          have i1' : OnS 60 m (sV mm 60 (3 + q.length) (iI (i : Int))) := ⟨fun a ha => by rw [sV_ne _ _ _ _ ha]; exact i1.1 a ha, i1.2⟩
          have hdem : ∀ t, t < 6 → ctB b R t - ctB b (q ++ [i]) t ≤ opn := fun t ht => by
            rw [ctB_app, ctB_1]
            by_cases c : opn + 1 ≤ g t
            · have z := congrArg (fun x => x.testBit t) y3
              simp only [tb_sdf, tb_mk6, decide_eq_true ht, decide_eq_true c, Bool.true_and, Nat.zero_testBit, Bool.not_eq_false'] at z
              rw [if_pos z]
              have := a7 t ht
              omega
            · rw [hgt] at c
              split <;> omega
          have hI' : siI b n opn R (q ++ [i]) := ⟨a1, by rw [List.length_append, List.length_singleton]; omega, a3, a4, fun k hk => (List.mem_append.mp hk).elim (fun z => a5 k z) (fun z => by rw [List.mem_singleton.mp z]; exact ⟨hiT, y1, fsB_iff.mp y2⟩), srt_a a6 hlo, hdem⟩
          obtain ⟨m2, o2, e2, k2, d2, c2, c3⟩ := ih f R (q ++ [i]) (sV mm 60 (3 + q.length) (iI (i : Int))) (by omega) hI' (trK_S hK i1') (by rw [← List.append_assoc]; exact hC2)
          rw [lst0_app] at e2
          rw [← List.append_assoc] at d2 c2 c3
          -- the masks
          have ms := an_mk (g := g) (g' := fun t => ctB b R t - ctB b (q ++ [i]) t) hs g3 (fun t ht => by
            rw [hgt]
            show ctB b R t - ctB b (q ++ [i]) t = _
            rw [ctB_app, ctB_1]; omega)
          have ei : ((3 : Int) + (n : Int)) - ((opn + 1 : Nat) : Int) = ((3 + q.length : Nat) : Int) := by omega
          have eo : ((opn + 1 : Nat) : Int) - 1 = (opn : Int) := by omega
          have em1 : iI ((sdf (mk6 g 1) (tS b i) : Nat) : Int) ||| iI ((mk6 g 2 &&& tS b i : Nat) : Int) = iI (mk6 (fun t => ctB b R t - ctB b (q ++ [i]) t) 1 : Int) := by rw [iI_or, ms.1]
          have em2 : iI ((sdf (mk6 g 2) (tS b i) : Nat) : Int) ||| iI ((mk6 g 3 &&& tS b i : Nat) : Int) = iI (mk6 (fun t => ctB b R t - ctB b (q ++ [i]) t) 2 : Int) := by rw [iI_or, ms.2.1]
          have em3 : iI ((sdf (mk6 g 3) (tS b i) : Nat) : Int) = iI (mk6 (fun t => ctB b R t - ctB b (q ++ [i]) t) 3 : Int) := by rw [ms.2.2]
          rw [← em3] at e2
          cases ho2 : o2 with
          | none =>
            rw [ho2] at e2 d2
            replace e2 : Q_Ft_chooseSilent f _ _ _ _ _ _ _ _ = some (bZ false, _) := e2
            have no : ∀ s, ¬ Xc b n (R ++ q ++ i :: s) := fun s hX => d2.1 rfl s (by rw [List.append_assoc, List.singleton_append]; exact hX)
            have ihk := ihk (i + 1) m2 (by omega) (by omega) (OnS_t i1' k2) (chE_pre (c2 ho2)) (DF_miss i3 no)
            rw [E_Ft_chooseSilent_2]
            simp (disch := omega) only [E_Ft_chooseSilent_3, cK_54 H, cR_54_1 H, cR_54_13 H, cK_60 H, cN_60 H, cK_27 H, okO_ov, aR_ov, aN_ov, gd_true, gd_in, iI_cl, Int.toNat_natCast, sI_ov H.1, letT_eq, bnd_some, ho, hh, g1, bZ_0, l_0, l_1, l_3, iI_neg, iI_sdf, iI_and, em1, em2, iI_lt, iI_add, iI_s, iI_sub, ei, eo, e2, reduceCtorEq, ↓reduceIte]
            rw [if_pos (by omega)]
            exact ihk
          | some r =>
            rw [ho2] at e2 d2
            replace e2 : Q_Ft_chooseSilent f _ _ _ _ _ _ _ _ = some (bZ true, _) := e2
            refine ⟨m2, some (i :: r), ?_, OnS_t i1' k2, DF_hit (Xc_len hb) (by rw [lenq]; omega) i3 d2, fun z => (by cases z), fun r' hr' => by cases hr'; have := c3 r ho2; rw [List.append_assoc, List.singleton_append] at this; exact this⟩
            rw [E_Ft_chooseSilent_2]
            simp (disch := omega) only [E_Ft_chooseSilent_3, cK_54 H, cR_54_1 H, cR_54_13 H, cK_60 H, cN_60 H, cK_27 H, okO_ov, aR_ov, aN_ov, gd_true, gd_in, iI_cl, Int.toNat_natCast, sI_ov H.1, letT_eq, bnd_some, ho, hh, g1, bZ_0, l_0, l_1, l_3, iI_neg, iI_sdf, iI_and, em1, em2, iI_lt, iI_add, iI_s, iI_sub, ei, eo, e2, reduceCtorEq, ↓reduceIte]
            rw [if_pos (by omega)]
            rfl
    -- the loop's beginning
    have hlst : lst0 q ≤ nT b := by
      rcases List.eq_nil_or_concat q with e | ⟨p, a, e⟩
      · rw [e]; exact Nat.zero_le _
      · rw [List.concat_eq_append] at e
        subst e
        rw [lst0_app]
        exact Nat.le_of_lt (a5 a (List.mem_append_right _ (List.mem_singleton.mpr rfl))).1
    have beg := lp (nT b - lst0 q) (lst0 q) m (by omega) (Or.inl (Nat.le_refl _)) (OnS_r _ _) hC (fun y hy s hX => by
      have hc := Xc_cut a1 (s := q ++ y :: s) (by rw [← List.append_assoc]; exact hX)
      have h1 : srt (q ++ [y]) := srt_pre (s := s) (by rw [List.append_assoc, List.singleton_append]; exact hc.2.2.1)
      have := srt_1 h1
      omega)
    obtain ⟨m', o, e, r⟩ := beg
    refine ⟨m', o, ?_, r⟩
    show mw _ (L_Ft_chooseSilent_0 _ _ _ _ _ _ _ _ _) = _
    have h58 := hK.2.2.2 (mk6 g (opn + 1)) hml
    have a63 : iI (mk6 g (opn + 1) : Int) &&& iI 63 = iI (mk6 g (opn + 1) : Int) := by
      rw [show iI 63 = iI ((63 : Nat) : Int) from rfl, iI_and]
      congr 2
      have := Nat.and_two_pow_sub_one_eq_mod (mk6 g (opn + 1)) 6
      rw [show (2 ^ 6 - 1 : Nat) = 63 from rfl] at this
      rw [this]; exact Nat.mod_eq_of_lt hml
    have s1 : ∀ v : Int32, v = iI (mk6 g (opn + 1) : Int) → L_Ft_chooseSilent_1 (Q_Ft_chooseSilent f) (A 54) (iI (n : Int)) (iI ((opn + 1 : Nat) : Int)) (iI (lst0 q : Int)) (iI (mk6 g 1 : Int)) (iI (mk6 g 2 : Int)) (iI (mk6 g 3 : Int)) v (ov 68 A m σ) = some (bZ o.isSome, (ov 68 A (m') σ)) := fun v hv => by
      subst hv
      rw [E_Ft_chooseSilent_1]
      simp (disch := omega) only [cK_54 H, cR_54_11 H, cK_58 H, cN_58 H, okO_ov, aR_ov, aN_ov, gd_true, l_63, a63, gd_in, iI_cl, Int.toNat_natCast, aL_ov H.1, h58, letT_eq, e]
    rw [E_Ft_chooseSilent_0]
    simp (disch := omega) only [l_0, l_1, l_2, iI_lt, iI_eq]
    rw [if_pos (by omega)]
    have h3 : opn + 1 ≤ 3 := by omega
    by_cases c1 : opn + 1 = 1
    · rw [if_pos (by omega), s1 _ (by rw [c1]), mw_ov]
    · rw [if_neg (by omega)]
      by_cases c2 : opn + 1 = 2
      · rw [if_pos (by omega), s1 _ (by rw [c2]), mw_ov]
      · rw [if_neg (by omega), s1 _ (by rw [show opn + 1 = 3 by omega]), mw_ov]
