/-! ===== what was told, as both sides keep it ===== -/
def d0X (x : XS) : TD := ((xsN x).length, mxS x, (xsB x).getD 10, (xsA x).length, fun _ => false, fun _ => iI 0)
def bitF (s : Nat) : Nat → Int32 := fun t => iI ((if s.testBit t = true then 1 else 0 : Nat) : Int)
def vaM (x : XS) (w i : Nat) : Int32 := vaF (fun t => iI (dg (d0X x) w t : Int)) (iI (sumN 6 (dg (d0X x) w) : Int)) ((xsA x).getD i [])
def mayX (x : XS) (w : Nat) : Bool := allN (xsA x).length (fun i => decide (¬ vaM x w i = iI 0))
def coV (v : Int32) : Int32 := if v < iI 0 then iI 0 else v
def coX (x : XS) (s : Nat) : Int32 := match xsC x with
  | none => iI 1
  | some l => coV (vaF (bitF s) (iI (pc6 s : Int)) l)
def twD (x : XS) : TD := ((xsN x).length, mxS x, (xsB x).getD 10, (xsA x).length, mayX x, coX x)
theorem dg_tw (x : XS) : dg (twD x) = dg (d0X x) := rfl
theorem wf_tw {t : PD} {x : XS} (hx : xOk t x) (hp : (mxS x + 1) ^ (xsN x).length ≤ 16384) : wfD (twD x) := by
  obtain ⟨x1, x2, x3, x4, x5⟩ := hx
  have hm : 1 ≤ mxS x ∧ mxS x ≤ 9 := by
    unfold mxS
    cases q : xsM x with
    | none => exact ⟨by decide, by decide⟩
    | some v => exact x3 v q
  have hb : 1 ≤ (xsB x).getD 10 ∧ (xsB x).getD 10 ≤ 60 := by
    cases q : xsB x with
    | none => exact ⟨by decide, by decide⟩
    | some v => exact x4 v q
  exact ⟨x2.1, hm.1, hm.2, hb.1, hb.2, x5, hp⟩
/-- a formula lies in the reference's codes -/
def cdA (l : List Nat) (s : Nat) (m : VM) : Prop := s + l.length < 2200 ∧ (∀ j, j < l.length → m.1 8 (s + j) = iI (opR (l.getD j 0) : Int) ∧ m.1 9 (s + j) = iI (agR (l.getD j 0) : Int)) ∧ m.1 8 (s + l.length) = iI 0
def TCx (x : XS) (m : VM) : Prop := (∀ i, i < (xsA x).length → ∃ s : Nat, m.1 6 i = iI (s : Int) ∧ cdA ((xsA x).getD i []) s m) ∧ (xsC x = none → m.1 6 4 = iI (-1)) ∧ ∀ l, xsC x = some l → ∃ s : Nat, m.1 6 4 = iI (s : Int) ∧ cdA l s m
theorem cdA_e {l : List Nat} {s : Nat} {m m' : VM} (h8 : m'.1 8 = m.1 8) (h9 : m'.1 9 = m.1 9) (h : cdA l s m) : cdA l s m' := by
  unfold cdA; rw [h8, h9]; exact h
theorem TCx_e {x : XS} {m m' : VM} (h6 : m'.1 6 = m.1 6) (h8 : m'.1 8 = m.1 8) (h9 : m'.1 9 = m.1 9) (h : TCx x m) : TCx x m' := by
  unfold TCx cdA; rw [h6, h8, h9]; exact h
def OnFc (m m' : VM) : Prop := (∀ c, c ≠ 10 → c ≠ 11 → m'.1 c = m.1 c) ∧ m'.2 = m.2
theorem OnFc_r (m : VM) : OnFc m m := ⟨fun _ _ _ => rfl, rfl⟩
theorem OnFc_t {a b c : VM} (h : OnFc a b) (k : OnFc b c) : OnFc a c := ⟨fun i h1 h2 => (k.1 i h1 h2).trans (h.1 i h1 h2), k.2.trans h.2⟩
theorem OnFc_V {m m' : VM} (h : OnFc m m') (j : Nat) (v : Int32) : OnFc m (sV m' 10 j v) := ⟨fun i h1 h2 => by rw [sV_ne _ _ _ _ h1]; exact h.1 i h1 h2, h.2⟩
theorem OnFc_1 {m m' : VM} (h : On1 11 m m') : OnFc m m' := ⟨fun i _ h2 => h.1 i h2, h.2⟩
theorem TCx_F {x : XS} {m m' : VM} (h : OnFc m m') (k : TCx x m) : TCx x m' := TCx_e (h.1 6 (by decide) (by decide)) (h.1 8 (by decide) (by decide)) (h.1 9 (by decide) (by decide)) k
theorem dg_le (d : TD) (w t : Nat) : dg d w t ≤ dM d := by
  unfold dg
  split
  · have := Nat.mod_lt (w / (dM d + 1) ^ t) (show 0 < dM d + 1 by omega); omega
  · omega
theorem sum_dg {d : TD} (hd : dT d ≤ 6) (w : Nat) : sumN (dT d) (dg d w) = sumN 6 (dg d w) := by
  have : ∀ n, dT d ≤ n → sumN n (dg d w) = sumN (dT d) (dg d w) := by
    intro n
    induction n with
    | zero => intro h; rw [show dT d = 0 by omega]
    | succ n ih =>
      intro h
      by_cases e : dT d = n + 1
      · rw [e]
      · rw [sumN_s, ih (by omega)]
        have : dg d w n = 0 := if_neg (by omega)
        omega
  exact (this 6 hd).symm
theorem fOk_A {x : XS} (h : fOk x) {i : Nat} (hi : i < (xsA x).length) : okCd (xsN x).length 0 ((xsA x).getD i []) 1 := by
  refine h.1 _ ?_
  rw [List.getD_eq_getElem?_getD, List.getElem?_eq_getElem hi]; exact List.getElem_mem hi
theorem p_mayNow {t : PD} {x : XS} {A : Nat → Nat} {σ : AM} (H : LM A σ) (hx : xOk t x) (hf : fOk x) (hp : (mxS x + 1) ^ (xsN x).length ≤ 16384) {m : VM} (hC : TCx x m) (h10 : m.1 0 10 = iI ((xsN x).length : Int)) (h13 : m.1 0 13 = iI ((xsA x).length : Int)) {w : Nat} (hw : ∀ t, t < (xsN x).length → m.1 18 t = iI (dg (d0X x) w t : Int)) : ∃ m' : VM, M_Md_mayNow (A 0) (ov 40 A m σ) = some (bZ (mayX x w), (ov 40 A (m') σ)) ∧ OnFc m m' := by
  have hn6 := hx.2.1.1
  have hA4 := hx.2.2.2.2
  have hd := wf_tw hx hp
  have hdl := fun t => Nat.le_trans (dg_le (d0X x) w t) (show dM (d0X x) ≤ 9 from hd.2.2.1)
  -- the facts
  have f1 : ∃ m1 : VM, M_Md_mayNow (A 0) (ov 40 A m σ) = mw (ov 40 A m σ) (L_Md_mayNow_2 (A 0) (iI 1) (iI 0) (ov 40 A m1 σ)) ∧ OnFc m m1 ∧ m1.1 10 6 = iI (sumN 6 (dg (d0X x) w) : Int) ∧ ∀ t, t < (xsN x).length → m1.1 10 t = iI (dg (d0X x) w t : Int) := by
    have lp : ∃ m1 : VM, L_Md_mayNow_1 (A 0) (iI ((0 : Nat) : Int)) (ov 40 A (sV m 10 6 (iI 0)) σ) = L_Md_mayNow_2 (A 0) (iI 1) (iI 0) (ov 40 A m1 σ) ∧ OnFc m m1 ∧ m1.1 10 6 = iI (sumN 6 (dg (d0X x) w) : Int) ∧ ∀ t, t < (xsN x).length → m1.1 10 t = iI (dg (d0X x) w t : Int) := by
      refine up_loopI (fun k mm => L_Md_mayNow_1 (A 0) (iI (k : Int)) (ov 40 A mm σ)) (fun k mm => OnFc m mm ∧ mm.1 10 6 = iI (sumN k (dg (d0X x) w) : Int) ∧ ∀ t, t < k → mm.1 10 t = iI (dg (d0X x) w t : Int)) (fun X => ∃ m1 : VM, X = L_Md_mayNow_2 (A 0) (iI 1) (iI 0) (ov 40 A m1 σ) ∧ OnFc m m1 ∧ m1.1 10 6 = iI (sumN 6 (dg (d0X x) w) : Int) ∧ ∀ t, t < (xsN x).length → m1.1 10 t = iI (dg (d0X x) w t : Int)) (xsN x).length (fun k mm hk ⟨i1, i2, i3⟩ ih => ?_) (fun mm ⟨i1, i2, i3⟩ => ?_) 0 _ (Nat.zero_le _) ⟨OnFc_V (OnFc_r m) _ _, by simp (disch := decide) only [sV_eq, sW_eq, sV_ne, sW_ne, sV_2, sW_1, Nat.reduceEqDiff, ↓reduceIte]; rfl, fun t ht => absurd ht (Nat.not_lt_zero t)⟩
      · have e10 : mm.1 0 10 = iI ((xsN x).length : Int) := by rw [i1.1 0 (by decide) (by decide)]; exact h10
        have e18 : mm.1 18 k = iI (dg (d0X x) w k : Int) := by rw [i1.1 18 (by decide) (by decide)]; exact hw k hk
        have e18b : (sV mm 10 k (iI (dg (d0X x) w k : Int))).1 18 k = iI (dg (d0X x) w k : Int) := by rw [sV_ne _ _ _ _ (by decide)]; exact e18
        have e6 : (sV mm 10 k (iI (dg (d0X x) w k : Int))).1 10 6 = iI (sumN k (dg (d0X x) w) : Int) := by rw [sV_eq, if_neg (by omega)]; exact i2
        have es : (sumN k (dg (d0X x) w) : Int) + (dg (d0X x) w k : Int) = ((sumN (k + 1) (dg (d0X x) w) : Nat) : Int) := by rw [sumN_s]; omega
        show ∃ m1 : VM, L_Md_mayNow_1 _ _ _ = _ ∧ _
        have step : L_Md_mayNow_1 (A 0) (iI (k : Int)) (ov 40 A mm σ) = L_Md_mayNow_1 (A 0) (iI ((k + 1 : Nat) : Int)) (ov 40 A (sV (sV mm 10 k (iI (dg (d0X x) w k : Int))) 10 6 (iI (sumN (k + 1) (dg (d0X x) w) : Int))) σ) := by
          rw [E_Md_mayNow_1]
          simp (disch := omega) only [mK_0 H, mR_24 H, mK_10 H, mN_10 H, mR_34 H, mK_18 H, mN_18 H, okO_ov, aR_ov, aN_ov, gd_true, gd_in, iI_cl, Int.toNat_natCast, Int.reduceToNat, aI_ov H.1, sI_ov H.1, letT_eq, e10, e18, e18b, e6, es, l_1, l_6, iI_lt, iI_add, iI_s]
          rw [if_pos (by omega)]
        rw [step]
        refine ih _ ⟨OnFc_V (OnFc_V i1 _ _) _ _, by simp (disch := decide) only [sV_eq, sW_eq, sV_ne, sW_ne, sV_2, sW_1, Nat.reduceEqDiff, ↓reduceIte], fun t ht => ?_⟩
        rw [sV_eq, if_neg (by omega), sV_eq]
        by_cases e : t = k
        · rw [if_pos e, e]
        · rw [if_neg e]; exact i3 t (by omega)
      · have e10 : mm.1 0 10 = iI ((xsN x).length : Int) := by rw [i1.1 0 (by decide) (by decide)]; exact h10
        refine ⟨mm, ?_, i1, ?_, i3⟩
        · show L_Md_mayNow_1 _ _ _ = _
          rw [E_Md_mayNow_1]
          simp (disch := omega) only [mK_0 H, okO_ov, gd_true, aI_ov H.1, e10, l_0, l_1, iI_lt]
          rw [if_neg (by omega)]
        · rw [i2, ← sum_dg (d := d0X x) hn6 w]; rfl
    obtain ⟨m1, e, g⟩ := lp
    replace e : L_Md_mayNow_1 (A 0) (iI 0) _ = _ := e
    refine ⟨m1, ?_, g⟩
    unfold M_Md_mayNow
    rw [E_Md_mayNow_0]
    simp (disch := omega) only [mK_0 H, mR_24 H, mK_10 H, mN_10 H, okO_ov, aR_ov, aN_ov, gd_true, gd_in, iI_cl, Int.reduceToNat, sI_ov H.1, letT_eq, l_0, l_6, e]
  obtain ⟨m1, e1, o1, s1, t1⟩ := f1
  rw [e1]
  have lp : ∃ m' : VM, L_Md_mayNow_2 (A 0) (bZ (allN 0 (fun i => decide (¬ vaM x w i = iI 0)))) (iI ((0 : Nat) : Int)) (ov 40 A m1 σ) = some (bZ (mayX x w), (ov 40 A (m') σ)) ∧ OnFc m m' := by
    refine up_loopI (fun k mm => L_Md_mayNow_2 (A 0) (bZ (allN k (fun i => decide (¬ vaM x w i = iI 0)))) (iI (k : Int)) (ov 40 A mm σ)) (fun k mm => OnFc m mm ∧ mm.1 10 6 = iI (sumN 6 (dg (d0X x) w) : Int) ∧ ∀ t, t < (xsN x).length → mm.1 10 t = iI (dg (d0X x) w t : Int)) (fun X => ∃ m' : VM, X = some (bZ (mayX x w), (ov 40 A (m') σ)) ∧ OnFc m m') (xsA x).length (fun k mm hk ⟨i1, i2, i3⟩ ih => ?_) (fun mm ⟨i1, i2, i3⟩ => ?_) 0 _ (Nat.zero_le _) ⟨o1, s1, t1⟩
    · have e13 : mm.1 0 13 = iI ((xsA x).length : Int) := by rw [i1.1 0 (by decide) (by decide)]; exact h13
      show ∃ m' : VM, L_Md_mayNow_2 _ _ _ _ = _ ∧ _
      have ea : allN (k + 1) (fun i => decide (¬ vaM x w i = iI 0)) = (allN k (fun i => decide (¬ vaM x w i = iI 0)) && decide (¬ vaM x w k = iI 0)) := rfl
      cases q : allN k (fun i => decide (¬ vaM x w i = iI 0))
      · have ih2 := ih mm ⟨i1, i2, i3⟩
        replace ih2 : ∃ m' : VM, L_Md_mayNow_2 (A 0) (bZ (allN (k + 1) (fun i => decide (¬ vaM x w i = iI 0)))) (iI ((k + 1 : Nat) : Int)) (ov 40 A mm σ) = _ ∧ _ := ih2
        rw [ea, q] at ih2
        rw [E_Md_mayNow_2]
        simp (disch := omega) only [E_Md_mayNow_3, E_Md_mayNow_4, mK_0 H, okO_ov, gd_true, aI_ov H.1, e13, l_0, l_1, iI_lt, iI_add, iI_s, bZ_0, ↓reduceIte]
        rw [if_pos (by omega)]
        exact ih2
      · obtain ⟨s, s1, s2⟩ := (TCx_F i1 hC).1 k hk
        obtain ⟨m2, e2, o2⟩ := Md_wor H s2.2.1 s2.2.2 s2.1 hn6 (fOk_A hf hk)
        have ev : vaF (mm.1 10) (mm.1 10 6) ((xsA x).getD k []) = vaM x w k := by
          rw [i2]; exact va_ext i3 _ (fOk_A hf hk)
        rw [ev] at e2
        have hs := s2.1
        have i2' : OnFc m m2 := OnFc_t i1 (OnFc_1 o2)
        have ih2 := ih m2 ⟨i2', by rw [o2.1 10 (by decide)]; exact i2, fun t ht => by rw [o2.1 10 (by decide)]; exact i3 t ht⟩
        replace ih2 : ∃ m' : VM, L_Md_mayNow_2 (A 0) (bZ (allN (k + 1) (fun i => decide (¬ vaM x w i = iI 0)))) (iI ((k + 1 : Nat) : Int)) (ov 40 A m2 σ) = _ ∧ _ := ih2
        rw [ea, q] at ih2
        rw [E_Md_mayNow_2]
        simp (disch := omega) only [E_Md_mayNow_3, E_Md_mayNow_4, mK_0 H, mR_14 H, mK_6 H, mN_6 H, okO_ov, aR_ov, aN_ov, gd_true, gd_in, iI_cl, Int.toNat_natCast, aI_ov H.1, e13, s1, e2, bnd_some, l_0, l_1, iI_lt, iI_add, iI_s, bZ_0, reduceCtorEq, ↓reduceIte]
        rw [if_pos (by omega)]
        by_cases y : vaM x w k = iI 0
        · rw [if_pos y]
          rw [decide_eq_false (fun z => z y)] at ih2
          exact ih2
        · rw [if_neg y]
          rw [decide_eq_true y] at ih2
          exact ih2
    · have e13 : mm.1 0 13 = iI ((xsA x).length : Int) := by rw [i1.1 0 (by decide) (by decide)]; exact h13
      refine ⟨mm, ?_, i1⟩
      show L_Md_mayNow_2 _ _ _ _ = _
      rw [E_Md_mayNow_2]
      simp (disch := omega) only [mK_0 H, okO_ov, gd_true, aI_ov H.1, e13, isB_bZ, iI_lt]
      rw [if_neg (by omega)]; rfl
  obtain ⟨m', e, g⟩ := lp
  replace e : L_Md_mayNow_2 (A 0) (iI 1) (iI 0) _ = _ := e
  exact ⟨m', by rw [e, mw_ov], g⟩
theorem p_costOf {t : PD} {x : XS} {A : Nat → Nat} {σ : AM} (H : LM A σ) (hx : xOk t x) (hf : fOk x) {m : VM} (hC : TCx x m) (h10 : m.1 0 10 = iI ((xsN x).length : Int)) {s : Nat} (hs : s < 2 ^ (xsN x).length) : ∃ m' : VM, M_Md_costOf (A 0) (iI (s : Int)) (ov 40 A m σ) = some (coX x s, (ov 40 A (m') σ)) ∧ OnFc m m' := by
  have hn6 := hx.2.1.1
  have hs64 : s < 64 := Nat.lt_of_lt_of_le hs (Nat.le_trans (Nat.pow_le_pow_right (by omega) hn6) (by decide))
  unfold M_Md_costOf coX
  cases q : xsC x with
  | none =>
    have e4 := hC.2.1 q
    refine ⟨m, ?_, OnFc_r m⟩
    rw [E_Md_costOf_0]
    simp (disch := omega) only [mK_0 H, mR_14 H, mK_6 H, mN_6 H, okO_ov, aR_ov, aN_ov, gd_true, gd_in, iI_cl, Int.reduceToNat, aI_ov H.1, e4, l_0, l_1, l_4, iI_lt, Int.reduceLT, Int.reduceNeg, ↓reduceIte, mw_ov]
  | some l =>
    obtain ⟨z, z1, z2⟩ := hC.2.2 l q
    have hz := z2.1
    have hpc : pc6 s = sumN (xsN x).length (fun t => if s.testBit t = true then 1 else 0) := by
      have hh : ∀ t, (xsN x).length ≤ t → t < 6 → s.testBit t = false := fun t h1 _ => Nat.testBit_lt_two_pow (Nat.lt_of_lt_of_le hs (Nat.pow_le_pow_right (by omega) h1))
      exact cntN_ext hn6 hh
    have lp : ∃ m' : VM, L_Md_costOf_1 (A 0) (iI (s : Int)) (iI ((0 : Nat) : Int)) (ov 40 A (sV m 10 6 (iI 0)) σ) = some (coV (vaF (bitF s) (iI (pc6 s : Int)) l), (ov 40 A (m') σ)) ∧ OnFc m m' := by
      refine up_loopI (fun k mm => L_Md_costOf_1 (A 0) (iI (s : Int)) (iI (k : Int)) (ov 40 A mm σ)) (fun k mm => OnFc m mm ∧ mm.1 10 6 = iI (sumN k (fun t => if s.testBit t = true then 1 else 0) : Int) ∧ ∀ t, t < k → mm.1 10 t = bitF s t) (fun X => ∃ m' : VM, X = some (coV (vaF (bitF s) (iI (pc6 s : Int)) l), (ov 40 A (m') σ)) ∧ OnFc m m') (xsN x).length (fun k mm hk ⟨i1, i2, i3⟩ ih => ?_) (fun mm ⟨i1, i2, i3⟩ => ?_) 0 _ (Nat.zero_le _) ⟨OnFc_V (OnFc_r m) _ _, by simp (disch := decide) only [sV_eq, sW_eq, sV_ne, sW_ne, sV_2, sW_1, Nat.reduceEqDiff, ↓reduceIte]; rfl, fun t ht => absurd ht (Nat.not_lt_zero t)⟩
      · have e10 : mm.1 0 10 = iI ((xsN x).length : Int) := by rw [i1.1 0 (by decide) (by decide)]; exact h10
        have hb := bitI (s := s) (k := k) hs64 (by omega)
        have e6 : (sV mm 10 k (bitF s k)).1 10 6 = iI (sumN k (fun t => if s.testBit t = true then 1 else 0) : Int) := by rw [sV_eq, if_neg (by omega)]; exact i2
        have ek : (sV mm 10 k (bitF s k)).1 10 k = iI ((if s.testBit k = true then 1 else 0 : Nat) : Int) := by rw [sV_eq, if_pos rfl]; rfl
        have es : (sumN k (fun t => if s.testBit t = true then 1 else 0) : Int) + ((if s.testBit k = true then 1 else 0 : Nat) : Int) = ((sumN (k + 1) (fun t => if s.testBit t = true then 1 else 0) : Nat) : Int) := by rw [sumN_s]; omega
        replace hb : (iI (s : Int) >>> (iI (k : Int) &&& iI 31)) &&& iI 1 = bitF s k := hb
        show ∃ m' : VM, L_Md_costOf_1 _ _ _ _ = _ ∧ _
        have step : L_Md_costOf_1 (A 0) (iI (s : Int)) (iI (k : Int)) (ov 40 A mm σ) = L_Md_costOf_1 (A 0) (iI (s : Int)) (iI ((k + 1 : Nat) : Int)) (ov 40 A (sV (sV mm 10 k (bitF s k)) 10 6 (iI (sumN (k + 1) (fun t => if s.testBit t = true then 1 else 0) : Int))) σ) := by
          rw [E_Md_costOf_1]
          simp (disch := omega) only [mK_0 H, mR_24 H, mK_10 H, mN_10 H, okO_ov, aR_ov, aN_ov, gd_true, gd_in, iI_cl, Int.toNat_natCast, Int.reduceToNat, aI_ov H.1, sI_ov H.1, letT_eq, e10, hb, e6, ek, es, l_1, l_6, l_31, iI_lt, iI_add, iI_s]
          rw [if_pos (by omega)]
        rw [step]
        refine ih _ ⟨OnFc_V (OnFc_V i1 _ _) _ _, by simp (disch := decide) only [sV_eq, sW_eq, sV_ne, sW_ne, sV_2, sW_1, Nat.reduceEqDiff, ↓reduceIte], fun t ht => ?_⟩
        rw [sV_eq, if_neg (by omega), sV_eq]
        by_cases e : t = k
        · rw [if_pos e, e]
        · rw [if_neg e]; exact i3 t (by omega)
      · have e10 : mm.1 0 10 = iI ((xsN x).length : Int) := by rw [i1.1 0 (by decide) (by decide)]; exact h10
        have e4 : mm.1 6 4 = iI (z : Int) := by rw [i1.1 6 (by decide) (by decide)]; exact z1
        have z2' := cdA_e (i1.1 8 (by decide) (by decide)) (i1.1 9 (by decide) (by decide)) z2
        obtain ⟨m2, e2, o2⟩ := Md_wor H z2'.2.1 z2'.2.2 z2'.1 hn6 (hf.2 l q)
        have ev : vaF (mm.1 10) (mm.1 10 6) l = vaF (bitF s) (iI (pc6 s : Int)) l := by
          rw [i2, ← hpc]; exact va_ext i3 _ (hf.2 l q)
        rw [ev] at e2
        refine ⟨m2, ?_, OnFc_t i1 (OnFc_1 o2)⟩
        show L_Md_costOf_1 _ _ _ _ = _
        rw [E_Md_costOf_1]
        simp (disch := omega) only [E_Md_costOf_2, mK_0 H, mR_14 H, mK_6 H, mN_6 H, okO_ov, aR_ov, aN_ov, gd_true, gd_in, iI_cl, Int.reduceToNat, aI_ov H.1, e10, e4, e2, bnd_some, l_0, l_4, iI_lt]
        rw [if_neg (by omega)]
        unfold coV
        split <;> rfl
    obtain ⟨m', e, g⟩ := lp
    replace e : L_Md_costOf_1 (A 0) (iI (s : Int)) (iI 0) _ = _ := e
    refine ⟨m', ?_, g⟩
    rw [E_Md_costOf_0]
    simp (disch := omega) only [mK_0 H, mR_14 H, mK_6 H, mN_6 H, mR_24 H, mK_10 H, mN_10 H, okO_ov, aR_ov, aN_ov, gd_true, gd_in, iI_cl, Int.reduceToNat, aI_ov H.1, sI_ov H.1, letT_eq, z1, l_0, l_4, l_6, iI_lt, e]
    rw [if_neg (by omega), mw_ov]
