/-! ===== the class reads a text ===== -/
theorem p_failF {A : Nat → Nat} {σ : AM} (H : LC A σ) {m : VM} {f : Nat} (h8 : m.1 1 8 = iI (f : Int)) (hf : ¬ f = 0) (hf2 : f ≤ 20000) (v : Int32) : M_Rd_fail (A 1) v (ov 68 A m σ) = some ((), (ov 68 A m σ)) := by
  unfold M_Rd_fail
  rw [E_Rd_fail_0]
  simp (disch := omega) only [E_Rd_fail_1, cK_1 H, okO_ov, gd_true, aI_ov H.1, h8, l_0, iI_eq]
  rw [if_neg (by omega), mw_ov]
theorem XZ_t {t : PD} {r : XR} {a b c : VM} (h : OnRd a b) (k : XZ t r b c) : XZ t r a c := ⟨OnRd_t h k.1, k.2⟩
theorem c_line {t : PD} {A : Nat → Nat} {σ : AM} (H : LC A σ) (ht : wfT t) {x : XS} (hx : xOk t x) {c : List Nat} {m : VM} (hL : XSt t x c m) (h0 : ¬ kdT t (xsK x) = 0) {i : Nat} (hi : i < 1000) : ∃ m' : VM, L_Rd_read_1 (A 1) (iI (i : Int)) (ov 68 A m σ) = L_Rd_read_1 (A 1) (iI ((i + 1 : Nat) : Int)) (ov 68 A (m') σ) ∧ XZ t (lnS t x) m m' := by
  have hkd := kd_lt ht (xsK x)
  have h4 : m.1 1 4 = iI (kdT t (xsK x) : Int) := hL.1.2.1.2.2.1
  have h8 := hL.1.2.2
  have hF := DN_F hL.2.1.2.1 hx.2.1
  unfold lnS
  rw [E_Rd_read_1]
  by_cases c4 : kdT t (xsK x) = 4
  · obtain ⟨m', e, r⟩ := c_thing H ht hx hL c4
    refine ⟨m', ?_, by rw [if_pos c4]; exact r⟩
    simp (disch := omega) only [E_Rd_read_2, cK_1 H, okO_ov, gd_true, aI_ov H.1, h4, h8, l_0, l_1, l_4, l_1000, iI_lt, iI_eq, letT_eq, e, bnd_some, iI_add, iI_s, ↓reduceIte]
    rw [if_pos (by omega), if_neg (by omega), if_pos (by omega)]
  by_cases c5 : kdT t (xsK x) = 5
  · obtain ⟨m', e, r⟩ := c_most H ht hx hL
    refine ⟨m', ?_, by rw [if_neg c4, if_pos c5]; exact r⟩
    simp (disch := omega) only [E_Rd_read_2, cK_1 H, okO_ov, gd_true, aI_ov H.1, h4, h8, l_0, l_1, l_4, l_5, l_1000, iI_lt, iI_eq, letT_eq, e, bnd_some, iI_add, iI_s, ↓reduceIte]
    rw [if_pos (by omega), if_neg (by omega), if_neg (by omega), if_pos (by omega)]
  by_cases c6 : kdT t (xsK x) = 6
  · obtain ⟨m', e, r⟩ := c_bar H ht hx hL
    refine ⟨m', ?_, by rw [if_neg c4, if_neg c5, if_pos c6]; exact r⟩
    simp (disch := omega) only [E_Rd_read_2, cK_1 H, okO_ov, gd_true, aI_ov H.1, h4, h8, l_0, l_1, l_4, l_5, l_6, l_1000, iI_lt, iI_eq, letT_eq, e, bnd_some, iI_add, iI_s, ↓reduceIte]
    rw [if_pos (by omega), if_neg (by omega), if_neg (by omega), if_neg (by omega), if_pos (by omega)]
  by_cases c7 : kdT t (xsK x) = 7
  · obtain ⟨m', e, r⟩ := c_allow H ht hx hL c7
    refine ⟨m', ?_, by rw [if_neg c4, if_neg c5, if_neg c6, if_pos c7]; exact r⟩
    simp (disch := omega) only [E_Rd_read_2, cK_1 H, okO_ov, gd_true, aI_ov H.1, h4, h8, l_0, l_1, l_4, l_5, l_6, l_7, l_1000, iI_lt, iI_eq, letT_eq, e, bnd_some, iI_add, iI_s, ↓reduceIte]
    rw [if_pos (by omega), if_neg (by omega), if_neg (by omega), if_neg (by omega), if_neg (by omega), if_pos (by omega)]
  by_cases c8 : kdT t (xsK x) = 8
  · obtain ⟨m', e, r⟩ := c_cost2 H ht hx hL c8
    refine ⟨m', ?_, by rw [if_neg c4, if_neg c5, if_neg c6, if_neg c7, if_pos c8]; exact r⟩
    simp (disch := omega) only [E_Rd_read_2, cK_1 H, okO_ov, gd_true, aI_ov H.1, h4, h8, l_0, l_1, l_4, l_5, l_6, l_7, l_8, l_1000, iI_lt, iI_eq, letT_eq, e, bnd_some, iI_add, iI_s, ↓reduceIte]
    rw [if_pos (by omega), if_neg (by omega), if_neg (by omega), if_neg (by omega), if_neg (by omega), if_neg (by omega), if_pos (by omega)]
  obtain ⟨m', e, _, Z⟩ := p_failR H ht hL.1 hF 1 (by decide) (by decide)
  replace e : M_Rd_fail (A 1) (iI 1) _ = _ := e
  refine ⟨m', ?_, by rw [if_neg c4, if_neg c5, if_neg c6, if_neg c7, if_neg c8]; exact Z x⟩
  simp (disch := omega) only [E_Rd_read_2, cK_1 H, okO_ov, gd_true, aI_ov H.1, h4, h8, l_0, l_1, l_4, l_5, l_6, l_7, l_8, l_1000, iI_lt, iI_eq, letT_eq, e, bnd_some, iI_add, iI_s, ↓reduceIte]
  rw [if_pos (by omega), if_neg (by omega), if_neg (by omega), if_neg (by omega), if_neg (by omega), if_neg (by omega), if_neg (by omega)]
theorem c_lines {t : PD} {A : Nat → Nat} {σ : AM} (H : LC A σ) (ht : wfT t) {m : VM} : ∀ (n i : Nat) (x : XS) (c : List Nat) (mm : VM), i + n = 1000 → xOk t x → XSt t x c mm → OnRd m mm → ∃ m' : VM, L_Rd_read_1 (A 1) (iI (i : Int)) (ov 68 A mm σ) = L_Rd_read_3 (A 1) (ov 68 A (m') σ) ∧ XZ t (rdS t n x) m m' ∧ ((rdS t n x).1 = 0 → xOk t (rdS t n x).2) := by
  intro n
  induction n with
  | zero =>
    intro i x c mm hi hx hL o
    refine ⟨mm, ?_, ⟨o, hL.1.2.2, Nat.zero_le _, DN_F hL.2.1.2.1 hx.2.1, fun _ => ⟨c, hL⟩⟩, fun _ => hx⟩
    rw [E_Rd_read_1]
    simp (disch := omega) only [l_1000, iI_lt]
    rw [if_neg (by omega)]
  | succ n ih =>
    intro i x c mm hi hx hL o
    have hkd := kd_lt ht (xsK x)
    by_cases h0 : kdT t (xsK x) = 0
    · have e : rdS t (n + 1) x = (0, x) := if_pos h0
      rw [e]
      have h4 : mm.1 1 4 = iI (kdT t (xsK x) : Int) := hL.1.2.1.2.2.1
      refine ⟨mm, ?_, ⟨o, hL.1.2.2, Nat.zero_le _, DN_F hL.2.1.2.1 hx.2.1, fun _ => ⟨c, hL⟩⟩, fun _ => hx⟩
      rw [E_Rd_read_1]
      simp (disch := omega) only [cK_1 H, okO_ov, gd_true, aI_ov H.1, h4, hL.1.2.2, l_0, l_1000, iI_lt, iI_eq, ↓reduceIte]
      rw [if_pos (by omega), if_pos (by omega)]
    · obtain ⟨m1, e1, z1, z2, z3, z4, z5⟩ := c_line H ht hx hL h0 (i := i) (by omega)
      by_cases y : (lnS t x).1 = 0
      · have e : rdS t (n + 1) x = rdS t n (lnS t x).2 := (if_neg h0).trans (if_pos y)
        rw [e, e1]
        obtain ⟨c1, L1⟩ := z5 y
        exact ih (i + 1) _ c1 m1 (by omega) (ln_ok ht hx y).1 L1 (OnRd_t o z1)
      · have e : rdS t (n + 1) x = lnS t x := (if_neg h0).trans (if_neg y)
        rw [e, e1]
        refine ⟨m1, ?_, ⟨OnRd_t o z1, z2, z3, z4, z5⟩, fun z => absurd z y⟩
        rw [E_Rd_read_1]
        simp (disch := omega) only [cK_1 H, okO_ov, gd_true, aI_ov H.1, z2, l_0, l_1000, iI_lt, iI_eq]
        rw [if_neg (show ¬ (((lnS t x).1 : Nat) : Int) = 0 by omega), ite_self]
/-! how many weights there are -/
def mulI (v : Int32) : Nat → Int32
  | 0 => iI 1
  | n + 1 => mulI v n * (v + iI 1)
theorem mulI_eq {b : Nat} : ∀ n, mulI (iI (b : Int)) n = iI (((b + 1) ^ n : Nat) : Int) := by
  intro n
  induction n with
  | zero => rfl
  | succ n ih =>
    show mulI (iI (b : Int)) n * (iI (b : Int) + iI 1) = _
    rw [ih, iI_add, iI_mul, Nat.pow_succ]
    congr 1
theorem qd_all {A : Nat → Nat} {σ : AM} (H : LC A σ) {m : VM} {n : Nat} (hn : n ≤ 6) (h7 : m.1 3 7 = iI (n : Int)) : M_Tw_all (A 3) (ov 68 A m σ) = some (mulI (m.1 3 8) n, (ov 68 A m σ)) := by
  have lp : L_Tw_all_1 (A 3) (mulI (m.1 3 8) 0) (iI ((0 : Nat) : Int)) (ov 68 A m σ) = some (mulI (m.1 3 8) n, (ov 68 A m σ)) := by
    refine up_loop (fun k => L_Tw_all_1 (A 3) (mulI (m.1 3 8) k) (iI (k : Int)) (ov 68 A m σ)) n _ (fun k hk ih => ?_) ?_ 0 (Nat.zero_le _)
    · have ih : L_Tw_all_1 (A 3) (mulI (m.1 3 8) k * (m.1 3 8 + iI 1)) (iI ((k + 1 : Nat) : Int)) (ov 68 A m σ) = _ := ih
      show L_Tw_all_1 _ _ _ _ = _
      rw [E_Tw_all_1]
      simp (disch := omega) only [cK_3 H, okO_ov, gd_true, aI_ov H.1, h7, l_1, iI_lt, letT_eq, iI_add, iI_s]
      rw [if_pos (by omega)]
      exact ih
    · show L_Tw_all_1 _ _ _ _ = _
      rw [E_Tw_all_1]
      simp (disch := omega) only [cK_3 H, okO_ov, gd_true, aI_ov H.1, h7, iI_lt]
      rw [if_neg (by omega)]
  replace lp : L_Tw_all_1 (A 3) (iI 1) (iI 0) (ov 68 A m σ) = _ := lp
  unfold M_Tw_all
  rw [E_Tw_all_0]
  simp only [l_0, l_1, lp, mw_ov]
def rd0 (m : VM) : VM := sV (sV (sV (sV (sV m 1 3 (iI 0)) 1 8 (iI 0)) 1 9 (iI 0)) 1 10 (iI 0)) 1 11 (iI 0)
def rd1 (m : VM) : VM := sV (sV (sV (sV (sV (sV (sV (rd0 m) 3 6 (iI 0)) 3 7 (iI 0)) 3 8 (iI 3)) 3 9 (iI 10)) 3 10 (iI 0)) 6 4 (iI 0)) 7 4 (iI 0)
theorem rd1_T (m : VM) : XTs x0S [] (rd1 m) := by
  unfold rd1 rd0
  exact ⟨⟨by simp (disch := decide) only [sV_eq, sW_eq, sV_ne, sW_ne, sV_2, sW_1, Nat.reduceEqDiff, ↓reduceIte]; rfl, by simp (disch := decide) only [sV_eq, sW_eq, sV_ne, sW_ne, sV_2, sW_1, Nat.reduceEqDiff, ↓reduceIte]; rfl, by simp (disch := decide) only [sV_eq, sW_eq, sV_ne, sW_ne, sV_2, sW_1, Nat.reduceEqDiff, ↓reduceIte]; rfl⟩, ⟨by simp (disch := decide) only [sV_eq, sW_eq, sV_ne, sW_ne, sV_2, sW_1, Nat.reduceEqDiff, ↓reduceIte]; rfl, fun i hi => absurd hi (Nat.not_lt_zero i)⟩, ⟨by simp (disch := decide) only [sV_eq, sW_eq, sV_ne, sW_ne, sV_2, sW_1, Nat.reduceEqDiff, ↓reduceIte]; rfl, Row_nil _⟩, ⟨by simp (disch := decide) only [sV_eq, sW_eq, sV_ne, sW_ne, sV_2, sW_1, Nat.reduceEqDiff, ↓reduceIte]; rfl, by simp (disch := decide) only [sV_eq, sW_eq, sV_ne, sW_ne, sV_2, sW_1, Nat.reduceEqDiff, ↓reduceIte]; rfl, by simp (disch := decide) only [sV_eq, sW_eq, sV_ne, sW_ne, sV_2, sW_1, Nat.reduceEqDiff, ↓reduceIte]; rfl⟩, fun i hi => absurd hi (Nat.not_lt_zero i), 0, by simp (disch := decide) only [sV_eq, sW_eq, sV_ne, sW_ne, sV_2, sW_1, Nat.reduceEqDiff, ↓reduceIte]; rfl, by simp (disch := decide) only [sV_eq, sW_eq, sV_ne, sW_ne, sV_2, sW_1, Nat.reduceEqDiff, ↓reduceIte]; rfl, ⟨Nat.le_refl _, fun j hj => absurd hj (Nat.not_lt_zero j)⟩, fun z => (by cases z)⟩
theorem rd1_3 (m : VM) : (rd1 m).1 1 3 = iI 0 ∧ (rd1 m).1 1 8 = iI 0 := by
  unfold rd1 rd0
  exact ⟨by simp (disch := decide) only [sV_eq, sW_eq, sV_ne, sW_ne, sV_2, sW_1, Nat.reduceEqDiff, ↓reduceIte], by simp (disch := decide) only [sV_eq, sW_eq, sV_ne, sW_ne, sV_2, sW_1, Nat.reduceEqDiff, ↓reduceIte]⟩
theorem c_read {t : PD} {A : Nat → Nat} {σ : AM} (H : LC A σ) (ht : wfT t) {m : VM} (hT : CTp t m) : ∃ m' : VM, M_Rd_read (A 1) (ov 68 A m σ) = some (iI ((twS t).1 : Int), (ov 68 A (m') σ)) ∧ (∀ c, c ∉ [1, 3, 5, 6, 7] → m'.1 c = m.1 c) ∧ (∀ c, c ∉ [1, 4] → m'.2 c = m.2 c) ∧ m'.1 1 2 = iI 0 ∧ ((twS t).1 = 0 → xOk t (twS t).2 ∧ ∃ c, XTs (twS t).2 c m' ∧ c.length ≤ 1000) := by
  -- the beginning
  have ew : M_Tw_wipe (A 3) (ov 68 A (rd0 m) σ) = some ((), (ov 68 A (rd1 m) σ)) := by
    unfold M_Tw_wipe
    rw [E_Tw_wipe_0]
    simp (disch := omega) only [cK_3 H, cR_3_2 H, cK_6 H, cN_6 H, cR_3_3 H, cK_7 H, cN_7 H, okO_ov, aR_ov, aN_ov, gd_true, l_0, l_3, l_4, l_10, gd_in, iI_cl, Int.toNat_natCast, nI_iI, sI_ov H.1, letT_eq]
    exact mw_ov _ _ _ _ _ _
  have o1 : OnRd m (rd1 m) := OnRd_V (OnRd_V (OnRd_V (OnRd_V (OnRd_V (OnRd_V (OnRd_V (OnRd_V (OnRd_V (OnRd_V (OnRd_V (OnRd_V (OnRd_r m) _ (by decide) (by decide)) _ (by decide) (by decide)) _ (by decide) (by decide)) _ (by decide) (by decide)) _ (by decide) (by decide)) _ (by decide) (by decide)) _ (by decide) (by decide)) _ (by decide) (by decide)) _ (by decide) (by decide)) _ (by decide) (by decide)) _ (by decide) (by decide)) _ (by decide) (by decide)
  have T1 : CTp t (rd1 m) := ⟨by rw [o1.2.1]; exact hT.1, fun j hj => by rw [o1.1 2 (by decide)]; exact hT.2 j hj⟩
  have X1 := rd1_T m
  obtain ⟨m2, e2, k2, r2⟩ := p_Rd_advance H ht (a0 := 0) (Nat.zero_le _) T1 (rd1_3 m).1
  have L2 : XSt t x0S [] m2 := ⟨⟨CTp_A T1 k2, r2, by rw [k2.2.1 8 (by decide)]; exact (rd1_3 m).2⟩, XTs_A X1 k2, Nat.le_refl _⟩
  have xo : xOk t x0S := ⟨fun j hj => absurd hj (Nat.not_lt_zero j), ⟨Nat.zero_le _, fun n hn => absurd hn List.not_mem_nil⟩, fun v hv => (by cases hv), fun v hv => (by cases hv), Nat.zero_le _⟩
  obtain ⟨m3, e3, ⟨z1, z2, z3, z4, z5⟩, z6⟩ := c_lines H ht (m := m) 1000 0 x0S [] m2 (by omega) xo L2 (OnRd_t o1 (OnRd_P (OnPr_A k2)))
  replace e3 : L_Rd_read_1 (A 1) (iI 0) (ov 68 A m2 σ) = _ := e3
  obtain ⟨n, n1, n2⟩ := z4
  have qa := qd_all H n1 n2
  -- the end
  have fin : ∀ (mx : VM) (f : Nat), OnRd m mx → mx.1 1 8 = iI (f : Int) → L_Rd_read_4 (A 1) (ov 68 A mx σ) = some (iI (f : Int), (ov 68 A (sV mx 1 2 (iI 0)) σ)) := fun mx f _ h8 => by
    have h82 : (sV mx 1 2 (iI 0)).1 1 8 = iI (f : Int) := by simp (disch := decide) only [sV_eq, sW_eq, sV_ne, sW_ne, sV_2, sW_1, Nat.reduceEqDiff, ↓reduceIte]; exact h8
    rw [E_Rd_read_4]
    simp (disch := omega) only [cK_1 H, okO_ov, gd_true, l_0, sI_ov H.1, aI_ov H.1, letT_eq, h82]
  have fr : ∀ mx : VM, OnRd m mx → (∀ c, c ∉ [1, 3, 5, 6, 7] → (sV mx 1 2 (iI 0)).1 c = m.1 c) ∧ (∀ c, c ∉ [1, 4] → (sV mx 1 2 (iI 0)).2 c = m.2 c) ∧ (sV mx 1 2 (iI 0)).1 1 2 = iI 0 := fun mx o => ⟨fun c hc => by rw [sV_ne _ _ _ _ (fun z => hc (by rw [z]; decide))]; exact o.1 c hc, fun c hc => o.2.2 c hc, by simp (disch := decide) only [sV_eq, sW_eq, sV_ne, sW_ne, sV_2, sW_1, Nat.reduceEqDiff, ↓reduceIte]⟩
  have main : ∀ (m' : VM), L_Rd_read_3 (A 1) (ov 68 A m3 σ) = some (iI ((twS t).1 : Int), (ov 68 A (m') σ)) → M_Rd_read (A 1) (ov 68 A m σ) = some (iI ((twS t).1 : Int), (ov 68 A (m') σ)) := fun m' h => by
    unfold M_Rd_read
    rw [E_Rd_read_0]
    simp (disch := omega) only [cK_1 H, cR_1_1 H, cK_3 H, okO_ov, aR_ov, gd_true, l_0, sI_ov H.1, letT_eq]
    rw [show M_Tw_wipe (A 3) (ov 68 A (sV (sV (sV (sV (sV m 1 3 (iI 0)) 1 8 (iI 0)) 1 9 (iI 0)) 1 10 (iI 0)) 1 11 (iI 0)) σ) = some ((), (ov 68 A (rd1 m) σ)) from ew]
    simp (disch := omega) only [bnd_some, cK_1 H, okO_ov, gd_true, e2, e3, h, mw_ov]
  by_cases y : (rdS t 1000 x0S).1 = 0
  · obtain ⟨c, L3⟩ := z5 y
    have hx3 := z6 y
    have hkl := kOk_le ht hx3.1
    have en : n = (xsN (rdS t 1000 x0S).2).length := by
      have := n2.symm.trans L3.2.1.2.1.1
      have hl := hx3.2.1.1
      rw [iI_eq (by omega) (by omega) (by omega) (by omega)] at this
      omega
    have h38 : m3.1 3 8 = iI (mxS (rdS t 1000 x0S).2 : Int) := L3.2.1.2.2.2.1.1
    have hmx : mxS (rdS t 1000 x0S).2 ≤ 9 := by
      unfold mxS
      cases hq : xsM (rdS t 1000 x0S).2 with
      | none => decide
      | some v => exact (hx3.2.2.1 v hq).2
    rw [h38, mulI_eq, en] at qa
    have hpw : (mxS (rdS t 1000 x0S).2 + 1) ^ (xsN (rdS t 1000 x0S).2).length ≤ 10 ^ 6 := Nat.le_trans (Nat.pow_le_pow_left (show _ ≤ 10 by omega) _) (Nat.pow_le_pow_right (by omega) hx3.2.1.1)
    rw [y] at z2
    by_cases g : 16384 < (mxS (rdS t 1000 x0S).2 + 1) ^ (xsN (rdS t 1000 x0S).2).length
    · have et : twS t = faL t (xsK (rdS t 1000 x0S).2) 6 (rdS t 1000 x0S).2 := (if_pos y).trans (if_pos g)
      obtain ⟨m4, e4, k4, k5, k6⟩ := p_fail H (t := t) (k := xsK (rdS t 1000 x0S).2) L3.1.2.1.2.1 L3.1.2.2 6
      replace e4 : M_Rd_fail (A 1) (iI 6) _ = _ := e4
      have o4 := OnRd_t z1 (OnRd_P k4)
      obtain ⟨f1, f2, f3⟩ := fr m4 o4
      rw [et] at main ⊢
      refine ⟨_, main _ ?_, f1, f2, f3, fun z => ?_⟩
      · rw [E_Rd_read_3]
        simp (disch := omega) only [cK_1 H, cR_1_1 H, cK_3 H, okO_ov, aR_ov, gd_true, qa, bnd_some, l_6, l_16384, iI_lt, e4, fin m4 _ o4 k6]
        rw [if_pos (by omega)]
        rfl
      · have z : 6 + 16 * plT t (xsK (rdS t 1000 x0S).2) = 0 := z
        omega
    · have et : twS t = rdS t 1000 x0S := (if_pos y).trans (if_neg g)
      obtain ⟨f1, f2, f3⟩ := fr m3 z1
      rw [et] at main ⊢
      rw [y] at main ⊢
      refine ⟨_, main _ ?_, f1, f2, f3, fun _ => ⟨hx3, c, ?_, by have := L3.2.2; omega⟩⟩
      · rw [E_Rd_read_3]
        simp (disch := omega) only [cK_1 H, cR_1_1 H, cK_3 H, okO_ov, aR_ov, gd_true, qa, bnd_some, l_6, l_16384, iI_lt, fin m3 _ z1 z2]
        rw [if_neg (by omega)]
      · obtain ⟨t1, t2, t3, t4, t5, t6⟩ := L3.2.1
        exact ⟨⟨by simp (disch := decide) only [sV_eq, sW_eq, sV_ne, sW_ne, sV_2, sW_1, Nat.reduceEqDiff, ↓reduceIte]; exact t1.1, by simp (disch := decide) only [sV_eq, sW_eq, sV_ne, sW_ne, sV_2, sW_1, Nat.reduceEqDiff, ↓reduceIte]; exact t1.2.1, by simp (disch := decide) only [sV_eq, sW_eq, sV_ne, sW_ne, sV_2, sW_1, Nat.reduceEqDiff, ↓reduceIte]; exact t1.2.2⟩, ⟨by simp (disch := decide) only [sV_eq, sW_eq, sV_ne, sW_ne, sV_2, sW_1, Nat.reduceEqDiff, ↓reduceIte]; exact t2.1, t2.2⟩, ⟨by simp (disch := decide) only [sV_eq, sW_eq, sV_ne, sW_ne, sV_2, sW_1, Nat.reduceEqDiff, ↓reduceIte]; exact t3.1, by rw [sV_ne _ _ _ _ (by decide)]; exact t3.2⟩, by rw [sV_ne _ _ _ _ (by decide)]; exact t4, by rw [sV_ne _ _ _ _ (by decide), sV_ne _ _ _ _ (by decide)]; exact t5, by rw [sV_ne _ _ _ _ (by decide), sV_ne _ _ _ _ (by decide)]; exact t6⟩
  · have et : twS t = rdS t 1000 x0S := if_neg y
    obtain ⟨f1, f2, f3⟩ := fr m3 z1
    rw [et] at main ⊢
    refine ⟨_, main _ ?_, f1, f2, f3, fun z => absurd z y⟩
    have ef := p_failF H z2 y z3 (iI 6)
    rw [E_Rd_read_3]
    simp (disch := omega) only [cK_1 H, cR_1_1 H, cK_3 H, okO_ov, aR_ov, gd_true, qa, bnd_some, l_6, l_16384, ef, fin m3 _ z1 z2, ite_self]
