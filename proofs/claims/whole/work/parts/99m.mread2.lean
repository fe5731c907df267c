/-! ===== the reference reads a text ===== -/
theorem m_line {t : PD} {A : Nat → Nat} {σ : AM} (H : LM A σ) (ht : wfT t) {x : XS} (hx : xOk t x) {c : List Nat} {m : VM} (hL : QL t x c m) : ∃ m1 : VM, M_Md_readLine (A 0) (ov 40 A m σ) = some ((), (ov 40 A m1 σ)) ∧ LnZ A σ t (lnS t x) m m1 := by
  unfold lnS
  by_cases c4 : kdT t (xsK x) = 4
  · rw [if_pos c4]; exact l_thing H ht hx hL c4
  rw [if_neg c4]
  by_cases c5 : kdT t (xsK x) = 5
  · rw [if_pos c5]; exact l_most H ht hx hL c5
  rw [if_neg c5]
  by_cases c6 : kdT t (xsK x) = 6
  · rw [if_pos c6]; exact l_bar H ht hx hL c6
  rw [if_neg c6]
  by_cases c7 : kdT t (xsK x) = 7
  · rw [if_pos c7]; exact l_allow H ht hx hL c7
  rw [if_neg c7]
  by_cases c8 : kdT t (xsK x) = 8
  · rw [if_pos c8]; exact l_cost H ht hx hL c8
  rw [if_neg c8]
  obtain ⟨hQ, ⟨hR, hC⟩, hc⟩ := hL
  obtain ⟨x1, x2, x3, x4, x5⟩ := hx
  have q0 : M_Md_isWord (A 0) (iI 0) (ov 40 A m σ) = some (bZ (decide (kdT t (xsK x) = 4)), (ov 40 A m σ)) := q_isWord H ht x1 hQ (w := 0) (by omega)
  have q1 : M_Md_isWord (A 0) (iI 1) (ov 40 A m σ) = some (bZ (decide (kdT t (xsK x) = 5)), (ov 40 A m σ)) := q_isWord H ht x1 hQ (w := 1) (by omega)
  have q2 : M_Md_isWord (A 0) (iI 2) (ov 40 A m σ) = some (bZ (decide (kdT t (xsK x) = 6)), (ov 40 A m σ)) := q_isWord H ht x1 hQ (w := 2) (by omega)
  have q3 : M_Md_isWord (A 0) (iI 3) (ov 40 A m σ) = some (bZ (decide (kdT t (xsK x) = 7)), (ov 40 A m σ)) := q_isWord H ht x1 hQ (w := 3) (by omega)
  have q4 : M_Md_isWord (A 0) (iI 4) (ov 40 A m σ) = some (bZ (decide (kdT t (xsK x) = 8)), (ov 40 A m σ)) := q_isWord H ht x1 hQ (w := 4) (by omega)
  rw [decide_eq_false (by omega)] at q0 q1 q2 q3 q4
  have qf := p_mfail H ht x1 hQ 1
  replace qf : M_Md_faulty (A 0) (iI 1) (ov 40 A m σ) = some (_, _) := qf
  refine ⟨_, ?_, QL_fa H ht x (OnL_r m) (by omega) (by omega) ⟨_, x2.1, hR.2.1.1⟩⟩
  unfold M_Md_readLine
  rw [E_Md_readLine_0]
  simp (disch := omega) only [E_Md_readLine_1, mK_0 H, okO_ov, gd_true, q0, q1, q2, q3, q4, qf, bnd_some, bZ_0, l_0, l_1, l_2, l_3, l_4, ↓reduceIte, mw_ov]
theorem m_lines {t : PD} {A : Nat → Nat} {σ : AM} (H : LM A σ) (ht : wfT t) {m : VM} : ∀ (n : Nat) (x : XS) (c : List Nat) (mm : VM), 1000 ≤ xsK x + n → xOk t x → QL t x c mm → OnL m mm → ∃ m' : VM, L_Md_tower_1 (A 0) (ov 40 A mm σ) = L_Md_tower_2 (A 0) (ov 40 A (m') σ) ∧ QLZ t (rdS t n x) m m' ∧ ((rdS t n x).1 = 0 → xOk t (rdS t n x).2) := by
  have fin : ∀ (x : XS) (c : List Nat) (mm : VM), xOk t x → QL t x c mm → OnL m mm → kdT t (xsK x) = 0 → ∃ m' : VM, L_Md_tower_1 (A 0) (ov 40 A mm σ) = L_Md_tower_2 (A 0) (ov 40 A (m') σ) ∧ QLZ t (0, x) m m' ∧ ((0, x).1 = 0 → xOk t (0, x).2) := by
    intro x c mm hx hL hO h0
    have hl := kOk_le ht hx.1
    refine ⟨mm, ?_, ⟨hO, hL.1.2.2.2, Nat.zero_le _, ⟨_, hx.2.1.1, hL.2.1.1.2.1.1⟩, fun _ => ⟨c, hL⟩⟩, fun _ => hx⟩
    have g1 := (hL.1.1 _ hx.1).1
    rw [so_0.mpr h0] at g1
    replace g1 : mm.1 2 (xsK x) = iI 0 := g1
    have h7 := hL.1.2.2.1
    have h8 := hL.1.2.2.2
    rw [E_Md_tower_1]
    simp (disch := omega) only [mK_0 H, mR_4 H, mK_2 H, mN_2 H, okO_ov, aR_ov, aN_ov, gd_true, gd_in, iI_cl, Int.toNat_natCast, aI_ov H.1, h7, h8, g1, l_0, ↓reduceIte]
  intro n
  induction n with
  | zero =>
    intro x c mm hn hx hL hO
    have h1 := pl_ge hx.1
    have h2 := pl_le t (xsK x)
    have h3 := ht.1
    exact fin x c mm hx hL hO (kd_e (by omega))
  | succ n ih =>
    intro x c mm hn hx hL hO
    by_cases h0 : kdT t (xsK x) = 0
    · rw [show rdS t (n + 1) x = (0, x) from if_pos h0]
      exact fin x c mm hx hL hO h0
    · have e0 : rdS t (n + 1) x = if (lnS t x).1 = 0 then rdS t n (lnS t x).2 else lnS t x := if_neg h0
      rw [e0]
      have hl := kOk_le ht hx.1
      obtain ⟨m1, e1, m2, e2, z1, z2, z3, z4, z5⟩ := m_line H ht hx hL
      have hs := so_le t (xsK x)
      have estep : L_Md_tower_1 (A 0) (ov 40 A mm σ) = L_Md_tower_1 (A 0) (ov 40 A m2 σ) := by
        have g1 := (hL.1.1 _ hx.1).1
        have h7 := hL.1.2.2.1
        have h8 := hL.1.2.2.2
        have hne : ¬ soK t (xsK x) = 0 := fun y => h0 (so_0.mp y)
        rw [E_Md_tower_1]
        simp (disch := omega) only [mK_0 H, mR_4 H, mK_2 H, mN_2 H, okO_ov, aR_ov, aN_ov, gd_true, gd_in, iI_cl, Int.toNat_natCast, aI_ov H.1, h7, h8, g1, e1, e2, bnd_some, l_0, l_59, iI_eq, ↓reduceIte]
        rw [if_neg (by omega)]
      rw [estep]
      by_cases z : (lnS t x).1 = 0
      · rw [if_pos z]
        obtain ⟨c2, L2⟩ := z5 z
        obtain ⟨x2, k2⟩ := ln_ok ht hx z
        exact ih _ c2 m2 (by omega) x2 L2 (OnL_t hO z1)
      · rw [if_neg z]
        refine ⟨m2, ?_, ⟨OnL_t hO z1, z2, z3, z4, z5⟩, fun y => absurd y z⟩
        rw [E_Md_tower_1]
        simp (disch := omega) only [mK_0 H, okO_ov, gd_true, aI_ov H.1, z2, l_0, iI_eq]
        rw [if_neg (by omega)]
def mV (m : VM) : Int32 := if m.1 0 16 < iI 0 then iI 3 else m.1 0 16
theorem m_all6 {A : Nat → Nat} {σ : AM} (H : LM A σ) {m : VM} (hF : RF m) {q : Option (Int32 × AM)} (hq : ∀ n : Nat, n ≤ 6 → m.1 0 15 = iI (n : Int) → L_Md_tower_3 (A 0) (mulI (mV m) n) (iI (n : Int)) (ov 40 A m σ) = q) : L_Md_tower_2 (A 0) (ov 40 A m σ) = q := by
  obtain ⟨n, hn, h15⟩ := hF
  have lp : L_Md_tower_3 (A 0) (mulI (mV m) 0) (iI ((0 : Nat) : Int)) (ov 40 A m σ) = q := by
    refine up_loop (fun k => L_Md_tower_3 (A 0) (mulI (mV m) k) (iI (k : Int)) (ov 40 A m σ)) n _ (fun k hk ih => ?_) ?_ 0 (Nat.zero_le _)
    · have ih : L_Md_tower_3 (A 0) (mulI (mV m) k * (mV m + iI 1)) (iI ((k + 1 : Nat) : Int)) (ov 40 A m σ) = q := ih
      show L_Md_tower_3 _ _ _ _ = _
      rw [E_Md_tower_3]
      simp (disch := omega) only [E_Md_tower_4, mK_0 H, okO_ov, gd_true, aI_ov H.1, h15, l_0, l_1, l_3, iI_lt, letT_eq, iI_add, iI_s]
      rw [if_pos (by omega)]
      by_cases z : m.1 0 16 < iI 0
      · have eV : mV m = iI 3 := if_pos z
        rw [eV] at ih ⊢
        rw [iI_add] at ih
        rw [if_pos z]; exact ih
      · have eV : mV m = m.1 0 16 := if_neg z
        rw [eV] at ih ⊢
        rw [if_neg z]; exact ih
    · exact hq n hn h15
  replace lp : L_Md_tower_3 (A 0) (iI 1) (iI 0) (ov 40 A m σ) = q := lp
  rw [E_Md_tower_2]
  simp only [l_0, l_1, lp]
def OnTr (m m' : VM) : Prop := (∀ c, c ∉ [0, 2, 3, 6, 8, 9] → m'.1 c = m.1 c) ∧ (∀ j, j ∉ [0, 2, 3, 7, 8, 15, 16, 17, 18, 22, 23] → m'.1 0 j = m.1 0 j) ∧ (∀ c, c ∉ [4, 7] → m'.2 c = m.2 c)
theorem OnTr_t {a b c : VM} (h : OnTr a b) (k : OnTr b c) : OnTr a c := ⟨fun i hi => (k.1 i hi).trans (h.1 i hi), fun i hi => (k.2.1 i hi).trans (h.2.1 i hi), fun i hi => (k.2.2 i hi).trans (h.2.2 i hi)⟩
theorem OnTr_0 (m : VM) {j : Nat} (v : Int32) (hj : j ∈ [0, 2, 3, 7, 8, 15, 16, 17, 18, 22, 23]) : OnTr m (sV m 0 j v) := ⟨fun c hc => by rw [sV_ne _ _ _ _ (fun z => hc (by rw [z]; decide))], fun i hi => by rw [sV_eq, if_neg (fun z => hi (by rw [z]; exact hj))], fun _ _ => rfl⟩
theorem OnTr_6 (m : VM) (j : Nat) (v : Int32) : OnTr m (sV m 6 j v) := ⟨fun c hc => by rw [sV_ne _ _ _ _ (fun z => hc (by rw [z]; decide))], fun i hi => by rw [sV_ne _ _ _ _ (by decide)], fun _ _ => rfl⟩
theorem OnTr_L {m m' : VM} (h : OnL m m') : OnTr m m' := ⟨fun c hc => h.1 c (fun z => hc (by
  simp only [List.mem_cons, List.not_mem_nil, or_false] at z ⊢
  omega)), fun j hj => h.2.1 j (fun z => hj (by
  simp only [List.mem_cons, List.not_mem_nil, or_false] at z ⊢
  omega)), fun c hc => h.2.2 c (fun z => hc (by rw [z]; decide))⟩
theorem OnTr_C {m m' : VM} (h : OnC m m') : OnTr m m' := ⟨fun c hc => h.1 c (fun z => hc (by rw [z]; decide)) (fun z => hc (by rw [z]; decide)) (fun z => hc (by rw [z]; decide)), fun j hj => h.2.1 j (fun z => hj (by
  simp only [List.mem_cons, List.not_mem_nil, or_false] at z ⊢
  omega)), fun c hc => h.2.2 c (fun z => hc (by rw [z]; decide))⟩
def mt1 (m : VM) : VM := sV (sV (sV (sV (sV (sV m 0 22 (iI 0)) 0 15 (iI 0)) 0 16 (iI (-1))) 0 17 (iI (-1))) 0 18 (iI 0)) 6 9 (iI (-1))
theorem mt1_R (m : VM) : OnTr m (mt1 m) := OnTr_t (OnTr_t (OnTr_t (OnTr_t (OnTr_t (OnTr_0 m _ (by decide)) (OnTr_0 _ _ (by decide))) (OnTr_0 _ _ (by decide))) (OnTr_0 _ _ (by decide))) (OnTr_0 _ _ (by decide))) (OnTr_6 _ _ _)
theorem mt1_L (m : VM) : OnL m (mt1 m) := OnL_t (OnL_t (OnL_t (OnL_t (OnL_t (OnL_0 m _ (by decide)) (OnL_0 _ _ (by decide))) (OnL_0 _ _ (by decide))) (OnL_0 _ _ (by decide))) (OnL_0 _ _ (by decide))) (OnL_6 _ _ _)
theorem mt1_T (m : VM) : RTs x0S [] (mt1 m) := by
  refine ⟨⟨⟨by unfold mt1; simp (disch := decide) only [sV_eq, sW_eq, sV_ne, sW_ne, sV_2, sW_1, Nat.reduceEqDiff, ↓reduceIte]; rfl, by unfold mt1; simp (disch := decide) only [sV_eq, sW_eq, sV_ne, sW_ne, sV_2, sW_1, Nat.reduceEqDiff, ↓reduceIte]; rfl, by unfold mt1; simp (disch := decide) only [sV_eq, sW_eq, sV_ne, sW_ne, sV_2, sW_1, Nat.reduceEqDiff, ↓reduceIte]; rfl⟩, ⟨by unfold mt1; simp (disch := decide) only [sV_eq, sW_eq, sV_ne, sW_ne, sV_2, sW_1, Nat.reduceEqDiff, ↓reduceIte]; rfl, fun i hi => absurd hi (Nat.not_lt_zero i)⟩, fun i hi => absurd hi (Nat.not_lt_zero i), fun _ => by unfold mt1; simp (disch := decide) only [sV_eq, sW_eq, sV_ne, sW_ne, sV_2, sW_1, Nat.reduceEqDiff, ↓reduceIte], fun l h => ?_⟩, ⟨by unfold mt1; simp (disch := decide) only [sV_eq, sW_eq, sV_ne, sW_ne, sV_2, sW_1, Nat.reduceEqDiff, ↓reduceIte]; rfl, fun i hi => absurd hi (Nat.not_lt_zero i)⟩⟩
  replace h : none = some l := h
  cases h
theorem pwR6 {b n : Nat} (hb : b ≤ 10) (hn : n ≤ 6) : b ^ n ≤ 1000000 := Nat.le_trans (Nat.pow_le_pow_left hb n) (Nat.le_trans (Nat.pow_le_pow_right (by omega) hn) (by decide))
theorem m_read {t : PD} {A : Nat → Nat} {σ : AM} (H : LM A σ) (ht : wfT t) {m : VM} (hT : MTp t m) (hW : MWd m) : ∃ m' : VM, M_Md_tower (A 0) (ov 40 A m σ) = mw (ov 40 A m σ) (L_Md_tower_5 (A 0) (ov 40 A (m') σ)) ∧ OnTr m m' ∧ m'.1 0 0 = iI 0 ∧ m'.1 0 2 = iI 0 ∧ m'.1 0 8 = iI ((twS t).1 : Int) ∧ (twS t).1 ≤ 20000 ∧ ((twS t).1 = 0 → xOk t (twS t).2 ∧ ∃ c, RTs (twS t).2 c m' ∧ c.length ≤ 1005) := by
  have hT0 : MTp t (sV m 0 0 (iI 0)) := ⟨by simp (disch := decide) only [sV_eq, sW_eq, sV_ne, sW_ne, sV_2, sW_1, Nat.reduceEqDiff, ↓reduceIte]; exact hT.1, fun j hj => by rw [sV_ne _ _ _ _ (by decide)]; exact hT.2 j hj⟩
  obtain ⟨m1, e1, O1, f2, f7, f8, hcu⟩ := m_cutAll H ht hT0
  have hW1 : MWd m1 := fun j hj => by rw [O1.2.2 5 (by decide)]; exact hW j hj
  have hQ1 : QK t 0 (mt1 m1) := QK_L (mt1_L m1) (k := 0) ⟨hcu, hW1, f7, f8⟩ (by unfold mt1; simp (disch := decide) only [sV_eq, sW_eq, sV_ne, sW_ne, sV_2, sW_1, Nat.reduceEqDiff, ↓reduceIte]; exact f7) (by unfold mt1; simp (disch := decide) only [sV_eq, sW_eq, sV_ne, sW_ne, sV_2, sW_1, Nat.reduceEqDiff, ↓reduceIte]; exact f8)
  have hx0 : xOk t x0S := ⟨fun j hj => absurd hj (Nat.not_lt_zero j), ⟨Nat.zero_le _, fun n hn => (by cases hn)⟩, fun v hv => (by cases hv), fun v hv => (by cases hv), Nat.zero_le _⟩
  obtain ⟨m2, e2, ⟨z1, z2, z3, z4, z5⟩, z6⟩ := m_lines H ht (m := mt1 m1) 1000 x0S [] (mt1 m1) (by show 1000 ≤ 0 + 1000; omega) hx0 ⟨hQ1, mt1_T m1, Nat.zero_le _⟩ (OnL_r _)
  have O2 : OnTr m m2 := OnTr_t (OnTr_t (OnTr_t (OnTr_0 m (iI 0) (by decide)) (OnTr_C O1)) (mt1_R m1)) (OnTr_L z1)
  have h0 : m2.1 0 0 = iI 0 := by rw [z1.2.1 0 (by decide)]; unfold mt1; simp (disch := decide) only [sV_eq, sW_eq, sV_ne, sW_ne, sV_2, sW_1, Nat.reduceEqDiff, ↓reduceIte]; rw [O1.2.1 0 (by decide)]; simp (disch := decide) only [sV_eq, sW_eq, sV_ne, sW_ne, sV_2, sW_1, Nat.reduceEqDiff, ↓reduceIte]
  have h2 : m2.1 0 2 = iI 0 := by rw [z1.2.1 2 (by decide)]; unfold mt1; simp (disch := decide) only [sV_eq, sW_eq, sV_ne, sW_ne, sV_2, sW_1, Nat.reduceEqDiff, ↓reduceIte]; exact f2
  have eT : M_Md_tower (A 0) (ov 40 A m σ) = mw (ov 40 A m σ) (L_Md_tower_2 (A 0) (ov 40 A m2 σ)) := by
    rw [← e2]
    unfold M_Md_tower
    rw [E_Md_tower_0]
    simp (disch := omega) only [mK_0 H, mR_14 H, mK_6 H, mN_6 H, okO_ov, aR_ov, aN_ov, gd_true, gd_in, iI_cl, Int.reduceToNat, sI_ov H.1, letT_eq, e1, bnd_some, l_0, l_1, l_9, iI_neg]
    rfl
  unfold twS
  by_cases z : (rdS t 1000 x0S).1 = 0
  · rw [if_pos z]
    obtain ⟨c, L2⟩ := z5 z
    have hx := z6 z
    obtain ⟨x1, x2, x3, x4, x5⟩ := hx
    have hkl := kOk_le ht x1
    have hmx : mxS (rdS t 1000 x0S).2 ≤ 9 := by
      unfold mxS
      cases q : xsM (rdS t 1000 x0S).2 with
      | none => decide
      | some v => have := x3 v q; exact this.2
    have hV : mV m2 = iI (mxS (rdS t 1000 x0S).2 : Int) := by
      have h16 := L2.2.1.1.1.1
      unfold mV mxS
      rw [h16]
      cases q : xsM (rdS t 1000 x0S).2 with
      | none => rw [if_pos (by decide)]; rfl
      | some v =>
        have := x3 v q
        show (if iI (v : Int) < iI 0 then iI 3 else iI (v : Int)) = iI (v : Int)
        rw [if_neg (fun y => by rw [iI_lt (by omega) (by omega) (by omega) (by omega)] at y; omega)]
    have hp6 := pwR6 (show mxS (rdS t 1000 x0S).2 + 1 ≤ 10 by omega) x2.1
    have h15 := L2.2.1.1.2.1.1
    have h8 := L2.1.2.2.2
    have hcl : c.length ≤ 1005 := by
      have h := L2.2.2
      have : cF (rdS t 1000 x0S).2 ≤ 5 := by unfold cF; split <;> omega
      omega
    have run : ∀ q : Option (Int32 × AM), (if 16384 < (mxS (rdS t 1000 x0S).2 + 1) ^ (xsN (rdS t 1000 x0S).2).length then L_Md_tower_5 (A 0) (ov 40 A (sV m2 0 8 (iI ((6 + 16 * plT t (xsK (rdS t 1000 x0S).2) : Nat) : Int))) σ) = q else L_Md_tower_5 (A 0) (ov 40 A m2 σ) = q) → L_Md_tower_2 (A 0) (ov 40 A m2 σ) = q := fun q hq => by
      refine m_all6 H z4 (fun n hn hn2 => ?_)
      have en : n = (xsN (rdS t 1000 x0S).2).length := by
        have := h15.symm.trans hn2
        have := x2.1
        rw [iI_eq (by omega) (by omega) (by omega) (by omega)] at *
        omega
      subst en
      have qf := p_mfail H ht x1 L2.1 6
      replace qf : M_Md_faulty (A 0) (iI 6) (ov 40 A m2 σ) = _ := qf
      rw [hV, mulI_eq, E_Md_tower_3]
      simp (disch := omega) only [mK_0 H, okO_ov, gd_true, aI_ov H.1, h15, h8, qf, bnd_some, l_0, l_6, l_16384, iI_lt, ↓reduceIte]
      rw [if_neg (by omega)]
      by_cases y : 16384 < (mxS (rdS t 1000 x0S).2 + 1) ^ (xsN (rdS t 1000 x0S).2).length
      · rw [if_pos y] at hq
        rw [if_pos (by omega)]; exact hq
      · rw [if_neg y] at hq
        rw [if_neg (by omega)]; exact hq
    by_cases y : 16384 < (mxS (rdS t 1000 x0S).2 + 1) ^ (xsN (rdS t 1000 x0S).2).length
    · rw [if_pos y]
      have hp := pl_b ht (xsK (rdS t 1000 x0S).2)
      refine ⟨sV m2 0 8 (iI ((6 + 16 * plT t (xsK (rdS t 1000 x0S).2) : Nat) : Int)), ?_, OnTr_t O2 (OnTr_0 _ _ (by decide)), by simp (disch := decide) only [sV_eq, sW_eq, sV_ne, sW_ne, sV_2, sW_1, Nat.reduceEqDiff, ↓reduceIte]; exact h0, by simp (disch := decide) only [sV_eq, sW_eq, sV_ne, sW_ne, sV_2, sW_1, Nat.reduceEqDiff, ↓reduceIte]; exact h2, by simp (disch := decide) only [sV_eq, sW_eq, sV_ne, sW_ne, sV_2, sW_1, Nat.reduceEqDiff, ↓reduceIte]; rfl, ?_, fun w => ?_⟩
      · rw [eT, run _ (by rw [if_pos y])]
      · show 6 + 16 * plT t _ ≤ 20000
        omega
      · have w : 6 + 16 * plT t _ = 0 := w
        omega
    · rw [if_neg y]
      refine ⟨m2, ?_, O2, h0, h2, z2, z3, fun _ => ⟨⟨x1, x2, x3, x4, x5⟩, c, L2.2.1, hcl⟩⟩
      rw [eT, run _ (by rw [if_neg y])]
  · rw [if_neg z]
    refine ⟨m2, ?_, O2, h0, h2, z2, z3, fun w => absurd w z⟩
    have : L_Md_tower_2 (A 0) (ov 40 A m2 σ) = L_Md_tower_5 (A 0) (ov 40 A m2 σ) := m_all6 H z4 (fun n hn hn2 => by
      rw [E_Md_tower_3]
      simp (disch := omega) only [mK_0 H, okO_ov, gd_true, aI_ov H.1, hn2, z2, l_0, iI_lt, iI_eq]
      rw [if_neg (by omega), if_neg (by omega)])
    rw [eT, this]
