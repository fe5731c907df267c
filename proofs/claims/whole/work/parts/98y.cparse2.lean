/-! ===== the class reads a formula: the parts ===== -/
theorem DN_A {ns : List (List Nat)} {m m' : VM} (h : DN ns m) (k : OnA m m') : DN ns m' := ⟨by rw [k.1 3 (by decide)]; exact h.1, fun i hi => by rw [k.2.2 4 (by decide)]; exact h.2 i hi⟩
theorem DC_A {c : List Nat} {m m' : VM} (h : DC c m) (k : OnA m m') : DC c m' := ⟨by rw [k.1 3 (by decide)]; exact h.1, by rw [k.1 5 (by decide)]; exact h.2⟩
theorem UO_A {m m' : VM} (h : UO m) (k : OnA m m') : UO m' := by
  obtain ⟨u, u1, u2⟩ := h
  exact ⟨u, u1, by rw [k.1 3 (by decide)]; exact u2⟩
theorem PS_U {t : PD} {ns : List (List Nat)} {ic : Bool} {k : Nat} {c : List Nat} {m : VM} (h : PS t ns ic k c m) (hc : c.length ≤ 1000) : UO m := ⟨c.length, hc, h.2.2.2.2.2.1⟩
theorem p_adv {t : PD} {A : Nat → Nat} {σ : AM} (H : LC A σ) (ht : wfT t) {ns : List (List Nat)} {ic : Bool} {k : Nat} {c : List Nat} {m : VM} (h : PS t ns ic k c m) : ∃ m' : VM, M_Rd_advance (A 1) (ov 68 A m σ) = some ((), (ov 68 A (m') σ)) ∧ OnA m m' ∧ PS t ns ic (k + 1) c m' := by
  obtain ⟨h1, h2, h3, h4, h5, h6⟩ := h
  obtain ⟨m', e, k1, k2⟩ := p_Rd_advance H ht (a0 := eT t (plT t k)) (eT_le (pl_le t k)) h1 h2.1
  exact ⟨m', e, k1, CTp_A h1 k1, k2, by rw [k1.2.1 8 (by decide)]; exact h3, by rw [k1.2.1 12 (by decide)]; exact h4, DN_A h5 k1, DC_A h6 k1⟩
theorem p_fail {t : PD} {A : Nat → Nat} {σ : AM} (H : LC A σ) {k : Nat} {m : VM} (h5 : m.1 1 5 = iI (plT t k : Int)) (h8 : m.1 1 8 = iI 0) (v : Nat) : ∃ m' : VM, M_Rd_fail (A 1) (iI (v : Int)) (ov 68 A m σ) = some ((), (ov 68 A (m') σ)) ∧ OnPr m m' ∧ m'.1 3 = m.1 3 ∧ m'.1 1 8 = iI ((v + 16 * plT t k : Nat) : Int) := by
  unfold M_Rd_fail
  refine ⟨sV m 1 8 (iI ((v + 16 * plT t k : Nat) : Int)), ?_, ⟨fun c h1 _ _ => by rw [sV_ne _ _ _ _ h1], fun j hj => by rw [sV_eq, if_neg (fun z => hj (by rw [z]; decide))], fun j _ => by rw [sV_ne _ _ _ _ (by decide)], fun _ _ => rfl⟩, by rw [sV_ne _ _ _ _ (by decide)], by simp (disch := decide) only [sV_eq, sW_eq, sV_ne, sW_ne, sV_2, sW_1, Nat.reduceEqDiff, ↓reduceIte]⟩
  have e : (v : Int) + 16 * (plT t k : Int) = ((v + 16 * plT t k : Nat) : Int) := by omega
  rw [E_Rd_fail_0]
  simp (disch := omega) only [E_Rd_fail_1, cK_1 H, okO_ov, gd_true, aI_ov H.1, sI_ov H.1, letT_eq, h5, h8, l_0, l_16, iI_mul, iI_add, e, ↓reduceIte, mw_ov]
theorem q_level {t : PD} {A : Nat → Nat} {σ : AM} (H : LC A σ) (ht : wfT t) {k : Nat} {m : VM} (h : m.1 1 4 = iI (kdT t k : Int)) : M_Rd_levelOfToken (A 1) (ov 68 A m σ) = some (iI (lvO (kdT t k) : Int), (ov 68 A m σ)) := by
  have hk := kd_lt ht k
  unfold M_Rd_levelOfToken lvO
  rw [E_Rd_levelOfToken_0]
  generalize kdT t k = c at *
  simp (disch := omega) only [cK_1 H, okO_ov, gd_true, aI_ov H.1, letT_eq, h, l_0, l_1, l_2, l_3, l_4, l_10, l_11, l_42, l_43, l_45, l_60, l_61, iI_eq]
  by_cases c1 : c = 10
  · rw [if_pos (by omega), if_pos (by omega), mw_ov]; rfl
  rw [if_neg (by omega)]
  by_cases c2 : c = 11
  · rw [if_pos (by omega), if_pos (by omega), mw_ov]; rfl
  rw [if_neg (by omega)]
  by_cases c3 : c = 42
  · rw [if_pos (by omega), if_neg (by omega), if_neg (by omega), if_neg (by omega), if_pos (by omega), mw_ov]; rfl
  rw [if_neg (by omega)]
  by_cases c4 : c = 43
  · rw [if_pos (by omega), if_neg (by omega), if_neg (by omega), if_pos (by omega), mw_ov]; rfl
  rw [if_neg (by omega)]
  by_cases c5 : c = 45
  · rw [if_pos (by omega), if_neg (by omega), if_neg (by omega), if_pos (by omega), mw_ov]; rfl
  rw [if_neg (by omega)]
  by_cases c6 : c = 60
  · rw [if_pos (by omega), if_neg (by omega), if_pos (by omega), mw_ov]; rfl
  rw [if_neg (by omega)]
  by_cases c7 : c = 61
  · rw [if_pos (by omega), if_neg (by omega), if_pos (by omega), mw_ov]; rfl
  rw [if_neg (by omega), if_neg (by omega), if_neg (by omega), if_neg (by omega), if_neg (by omega), mw_ov]; rfl
theorem q_csign {t : PD} {A : Nat → Nat} {σ : AM} (H : LC A σ) (ht : wfT t) {k : Nat} {m : VM} (h : m.1 1 4 = iI (kdT t k : Int)) : M_Rd_codeOfSign (A 1) (ov 68 A m σ) = some (iI (cdO (kdT t k) : Int), (ov 68 A m σ)) := by
  have hk := kd_lt ht k
  unfold M_Rd_codeOfSign cdO
  rw [E_Rd_codeOfSign_0]
  generalize kdT t k = c at *
  simp (disch := omega) only [cK_1 H, okO_ov, gd_true, aI_ov H.1, letT_eq, h, l_1, l_2, l_3, l_4, l_5, l_6, l_7, l_10, l_11, l_43, l_45, l_60, l_61, iI_eq]
  by_cases c1 : c = 10
  · rw [if_pos (by omega), if_pos (by omega), mw_ov]; rfl
  rw [if_neg (by omega), if_neg c1]
  by_cases c2 : c = 11
  · rw [if_pos (by omega), if_pos (by omega), mw_ov]; rfl
  rw [if_neg (by omega), if_neg c2]
  by_cases c4 : c = 43
  · rw [if_pos (by omega), if_neg (by omega), if_neg (by omega), if_pos (by omega), mw_ov]; rfl
  rw [if_neg (by omega)]
  by_cases c5 : c = 45
  · rw [if_pos (by omega), if_neg (by omega), if_neg (by omega), if_neg (by omega), if_pos (by omega), mw_ov]; rfl
  rw [if_neg (by omega)]
  by_cases c6 : c = 60
  · rw [if_pos (by omega), if_pos (by omega), mw_ov]; rfl
  rw [if_neg (by omega)]
  by_cases c7 : c = 61
  · rw [if_pos (by omega), if_neg (by omega), if_pos (by omega), mw_ov]; rfl
  rw [if_neg (by omega), if_neg (by omega), if_neg (by omega), if_neg (by omega), if_neg (by omega), mw_ov]; rfl
theorem q_named {t : PD} {A : Nat → Nat} {σ : AM} (H : LC A σ) (ht : wfT t) {ns : List (List Nat)} (hn : nsOk ns) {ic : Bool} {k : Nat} {c : List Nat} {m : VM} (h : PS t ns ic k c m) (h3 : kdT t k = 3) : m.2 1 7 = cw64 (wdK t k) ∧ M_Tw_thingNamed (A 3) (cw64 (wdK t k)) (ov 68 A m σ) = some (iI (if idxN ns (wdK t k) = ns.length then -1 else (idxN ns (wdK t k) : Int)), (ov 68 A m σ)) := by
  have hw := kd_W (t := t) (k := k) (by omega) (by omega) ht
  obtain ⟨w1, w2⟩ := wdK_ok hw
  exact ⟨h.2.1.2.2.2.1 hw, q_Tw_named H hn h.2.2.2.2.1 w1 w2⟩
theorem q_faultOf {t : PD} {A : Nat → Nat} {σ : AM} (H : LC A σ) (ht : wfT t) {ns : List (List Nat)} (hn : nsOk ns) {ic : Bool} {k : Nat} {c : List Nat} {m : VM} (h : PS t ns ic k c m) {w : Nat} (hw : w ≤ 5) : M_Rd_faultOfPart (A 1) (iI ((5 - w : Nat) : Int)) (ov 68 A m σ) = some (iI (foP t ns ic w k : Int), (ov 68 A m σ)) := by
  have hk := kd_lt ht k
  have h4 : m.1 1 4 = iI (kdT t k : Int) := h.2.1.2.2.1
  have h12 := h.2.2.2.1
  have f4 : L_Rd_faultOfPart_4 (iI ((5 - w : Nat) : Int)) (ov 68 A m σ) = some (iI ((if w = 0 then 5 else 0 : Nat) : Int), (ov 68 A m σ)) := by
    rw [E_Rd_faultOfPart_4]
    simp (disch := omega) only [E_Rd_faultOfPart_5, l_0, l_5, iI_lt]
    by_cases z : w = 0
    · rw [if_neg (by omega), if_pos z]; rfl
    · rw [if_pos (by omega), if_neg z]; rfl
  have f3 : stP ic (kdT t k) = true → L_Rd_faultOfPart_3 (A 1) (iI ((5 - w : Nat) : Int)) (iI 1) (ov 68 A m σ) = some (iI (foP t ns ic w k : Int), (ov 68 A m σ)) := fun hs => by
    unfold foP
    rw [if_pos hs, E_Rd_faultOfPart_3]
    by_cases c3 : kdT t k = 3
    · obtain ⟨n1, n2⟩ := q_named H ht hn h c3
      have hil := idx_le ns (wdK t k)
      have hnl := hn.1
      simp (disch := omega) only [cK_1 H, cR_1_1 H, cK_3 H, okO_ov, aR_ov, gd_true, aI_ov H.1, aL_ov H.1, h4, n1, n2, bnd_some, l_0, l_1, l_2, l_3, iI_neg, iI_eq, f4, Int.reduceEq, ↓reduceIte]
      rw [if_pos (by omega)]
      by_cases z : idxN ns (wdK t k) = ns.length
      · rw [if_pos z, if_pos (by rfl), if_pos ⟨c3, z⟩]; rfl
      · rw [if_neg z, if_neg (show ¬ ((idxN ns (wdK t k) : Nat) : Int) = -1 by omega), if_neg (show ¬ (kdT t k = 3 ∧ idxN ns (wdK t k) = ns.length) from fun x => z x.2)]
    · simp (disch := omega) only [cK_1 H, okO_ov, gd_true, aI_ov H.1, h4, l_0, l_1, l_3, iI_eq, f4, Int.reduceEq, ↓reduceIte]
      rw [if_neg (by omega), if_neg (show ¬ (kdT t k = 3 ∧ idxN ns (wdK t k) = ns.length) from fun x => c3 x.1)]
  have f0 : stP ic (kdT t k) = false → L_Rd_faultOfPart_3 (A 1) (iI ((5 - w : Nat) : Int)) (iI 0) (ov 68 A m σ) = some (iI (foP t ns ic w k : Int), (ov 68 A m σ)) := fun hs => by
    unfold foP
    rw [if_neg (by rw [hs]; decide), E_Rd_faultOfPart_3]
    simp (disch := omega) only [l_0, l_1, ↓reduceIte]
    rfl
  have yes : ∀ P : Prop, P → (P → stP ic (kdT t k) = true) → stP ic (kdT t k) = true := fun P p f => f p
  unfold M_Rd_faultOfPart
  have main : L_Rd_faultOfPart_0 (A 1) (iI ((5 - w : Nat) : Int)) (ov 68 A m σ) = some (iI (foP t ns ic w k : Int), (ov 68 A m σ)) := by
    rw [E_Rd_faultOfPart_0]
    simp (disch := omega) only [E_Rd_faultOfPart_1, E_Rd_faultOfPart_2, cK_1 H, okO_ov, gd_true, aI_ov H.1, h4, h12, l_0, l_1, l_2, l_3, l_9, l_12, l_13, l_40, iI_eq]
    by_cases c1 : kdT t k = 2
    · rw [if_pos (by omega)]
      exact f3 (decide_eq_true (Or.inl c1))
    rw [if_neg (by omega)]
    by_cases c2 : kdT t k = 3
    · rw [if_pos (by omega)]
      exact f3 (decide_eq_true (Or.inr (Or.inl c2)))
    rw [if_neg (by omega)]
    by_cases c3 : kdT t k = 9
    · rw [if_pos (by omega)]
      exact f3 (decide_eq_true (Or.inr (Or.inr (Or.inl c3))))
    rw [if_neg (by omega)]
    by_cases c4 : kdT t k = 40
    · rw [if_pos (by omega)]
      exact f3 (decide_eq_true (Or.inr (Or.inr (Or.inr (Or.inl c4)))))
    rw [if_neg (by omega)]
    cases ic
    · rw [if_pos (show bZ false = iI 0 from rfl)]
      by_cases c5 : kdT t k = 12
      · rw [if_pos (by omega)]
        exact f3 (decide_eq_true (Or.inr (Or.inr (Or.inr (Or.inr c5)))))
      · rw [if_neg (by omega)]
        refine f0 (decide_eq_false ?_)
        rintro (z | z | z | z | z)
        · exact c1 z
        · exact c2 z
        · exact c3 z
        · exact c4 z
        · exact c5 z
    · rw [if_neg (show ¬ bZ true = iI 0 by decide)]
      by_cases c5 : kdT t k = 13
      · rw [if_pos (by omega)]
        exact f3 (decide_eq_true (Or.inr (Or.inr (Or.inr (Or.inr c5)))))
      · rw [if_neg (by omega)]
        refine f0 (decide_eq_false ?_)
        rintro (z | z | z | z | z)
        · exact c1 z
        · exact c2 z
        · exact c3 z
        · exact c4 z
        · exact c5 z
  rw [main, mw_ov]
theorem q_codeOf {t : PD} {A : Nat → Nat} {σ : AM} (H : LC A σ) (ht : wfT t) {ns : List (List Nat)} (hn : nsOk ns) {ic : Bool} {k : Nat} {c : List Nat} {m : VM} (h : PS t ns ic k c m) {w : Nat} (hf : foP t ns ic w k = 0) : M_Rd_codeOfPart (A 1) (ov 68 A m σ) = some (iI (cdP t ns k : Int), (ov 68 A m σ)) := by
  have hk := kd_lt ht k
  have h4 : m.1 1 4 = iI (kdT t k : Int) := h.2.1.2.2.1
  unfold M_Rd_codeOfPart cdP
  rw [E_Rd_codeOfPart_0]
  by_cases c2 : kdT t k = 2
  · have h6 : m.1 1 6 = iI (vlK t k : Int) := h.2.1.2.2.2.2 c2
    rw [if_pos c2]
    simp (disch := omega) only [cK_1 H, okO_ov, gd_true, aI_ov H.1, h4, h6, l_2, l_32, iI_eq, iI_add]
    rw [if_pos (by omega), mw_ov]
    rfl
  · rw [if_neg c2]
    by_cases c3 : kdT t k = 3
    · obtain ⟨n1, n2⟩ := q_named H ht hn h c3
      have hni : ¬ idxN ns (wdK t k) = ns.length := fun z => by
        unfold foP at hf
        rw [c3, if_pos (by cases ic <;> decide), if_pos ⟨rfl, z⟩] at hf
        omega
      rw [if_neg hni] at n2
      rw [if_pos c3]
      simp (disch := omega) only [cK_1 H, cR_1_1 H, cK_3 H, okO_ov, aR_ov, gd_true, aI_ov H.1, aL_ov H.1, h4, n1, n2, bnd_some, l_2, l_3, l_16, iI_eq, iI_add]
      rw [if_neg (by omega), if_pos (by omega), mw_ov]
      rfl
    · rw [if_neg c3]
      simp (disch := omega) only [cK_1 H, okO_ov, gd_true, aI_ov H.1, h4, l_2, l_3, l_8, iI_eq]
      rw [if_neg (by omega), if_neg (by omega), mw_ov]
      rfl
/-! the whole -/
theorem p_expect {t : PD} {A : Nat → Nat} {σ : AM} (H : LC A σ) (ht : wfT t) {ns : List (List Nat)} {ic : Bool} {k : Nat} {c : List Nat} {m : VM} (h : PS t ns ic k c m) (hc : c.length ≤ 1000) {v : Nat} (hv : v < 128) : ∃ m' : VM, M_Rd_expect (A 1) (iI (v : Int)) (ov 68 A m σ) = some ((), (ov 68 A (m') σ)) ∧ PZ t ns ic c (epS t v k []) m m' := by
  have hk := kd_lt ht k
  have hp := pl_b ht k
  have h4 : m.1 1 4 = iI (kdT t k : Int) := h.2.1.2.2.1
  have h8 := h.2.2.1
  unfold M_Rd_expect epS
  by_cases z : kdT t k = v
  · obtain ⟨m', e, k1, k2⟩ := p_adv H ht h
    refine ⟨m', ?_, ?_⟩
    · rw [E_Rd_expect_0]
      simp (disch := omega) only [E_Rd_expect_1, cK_1 H, okO_ov, gd_true, aI_ov H.1, h4, h8, l_0, iI_eq, e, bnd_some, ↓reduceIte]
      rw [if_pos (by omega), mw_ov]
    · rw [if_pos z]
      exact ⟨OnPr_A k1, PS_U k2 hc, k2.2.2.1, Nat.zero_le _, fun _ => by rw [List.append_nil]; exact k2⟩
  · obtain ⟨m', e, k1, k2, k3⟩ := p_fail H (t := t) (k := k) h.2.1.2.1 h8 1
    replace e : M_Rd_fail (A 1) (iI 1) _ = _ := e
    refine ⟨m', ?_, ?_⟩
    · rw [E_Rd_expect_0]
      simp (disch := omega) only [E_Rd_expect_1, cK_1 H, okO_ov, gd_true, aI_ov H.1, h4, h8, l_0, l_1, iI_eq, e, bnd_some, ↓reduceIte]
      rw [if_neg (by omega), mw_ov]
    · rw [if_neg z]
      refine ⟨k1, ?_, k3, by show 1 + 16 * plT t k ≤ 20000; omega, fun x => ?_⟩
      · obtain ⟨u, u1, u2⟩ := PS_U h hc
        exact ⟨u, u1, by rw [k2]; exact u2⟩
      · have x : 1 + 16 * plT t k = 0 := x
        omega
/-- after a FAULT nothing is expected -/
theorem p_expectF {A : Nat → Nat} {σ : AM} (H : LC A σ) {m : VM} {f : Nat} (h8 : m.1 1 8 = iI (f : Int)) (hf : ¬ f = 0) (hf2 : f ≤ 20000) (v : Int32) : M_Rd_expect (A 1) v (ov 68 A m σ) = some ((), (ov 68 A m σ)) := by
  unfold M_Rd_expect
  rw [E_Rd_expect_0]
  simp (disch := omega) only [cK_1 H, okO_ov, gd_true, aI_ov H.1, h8, l_0, iI_eq]
  rw [if_neg (by omega), mw_ov]
def pcT (t : PD) (ns : List (List Nat)) (ic : Bool) (A : Nat → Nat) (σ : AM) (s : Nat → PRs) (X : AM → Option (Unit × AM)) : Prop := ∀ k c m, kOk t k → c.length ≤ k → PS t ns ic k c m → ∃ m' : VM, X (ov 68 A m σ) = some ((), (ov 68 A (m') σ)) ∧ PZ t ns ic c (s k) m m'
theorem c_exp1 {t : PD} {A : Nat → Nat} {σ : AM} (H : LC A σ) (ht : wfT t) {ns : List (List Nat)} {ic : Bool} {s : Nat → PRs} (hs : gdP t s) {lv : Nat} (hl : lv < 4) {rec : GT_Rd_expression_Rd_part} {wi : Int32} (hX : pcT t ns ic A σ s (fun σ => rec.1 (A 1) (iI ((lv + 1 : Nat) : Int)) wi σ)) : pcT t ns ic A σ (lvS t s lv) (fun σ => mw σ (L_Rd_expression_0 rec (A 1) (iI (lv : Int)) wi σ)) := by
  intro k c m hk hc hP
  obtain ⟨m1, e1, z1, z2, z3, z4, z5⟩ := hX k c m hk hc hP
  replace e1 : rec.1 (A 1) (iI ((lv + 1 : Nat) : Int)) wi (ov 68 A m σ) = some ((), (ov 68 A m1 σ)) := e1
  -- the loop
  have lp : ∀ n i k1 l mm, kOk t k1 → k + l.length ≤ k1 → 0 < l.length → OnPr m mm → PS t ns ic k1 (c ++ l) mm → i + n ≤ 1000 → ∃ m' : VM, L_Rd_expression_2 rec (A 1) (iI (lv : Int)) wi (iI ((i + n : Nat) : Int)) (iI (i : Int)) (ov 68 A mm σ) = some ((), (ov 68 A (m') σ)) ∧ PZ t ns ic c (loS t s lv n k1 l) m m' := by
    intro n
    induction n with
    | zero =>
      intro i k1 l mm hk1 hl1 hl2 i1 i2 hn
      have := kOk_le ht hk1
      refine ⟨mm, ?_, i1, PS_U i2 (by rw [List.length_append]; omega), i2.2.2.1, Nat.zero_le _, fun _ => i2⟩
      rw [E_Rd_expression_2]
      simp (disch := omega) only [E_Rd_expression_3, iI_lt]
      rw [if_neg (by omega)]
    | succ n ih =>
      intro i k1 l mm hk1 hl1 hl2 i1 i2 hn
      have hkl := kOk_le ht hk1
      have h4 : mm.1 1 4 = iI (kdT t k1 : Int) := i2.2.1.2.2.1
      have qlv := q_level H ht h4
      have hlo : lvO (kdT t k1) ≤ 4 := by unfold lvO; repeat (first | omega | split)
      by_cases z : lvO (kdT t k1) = lv
      · have hk2 := kOk_s hk1 (lvO_0 z hl)
        have hkl2 := kOk_le ht hk2
        obtain ⟨m2, e2, k2, p2⟩ := p_adv H ht i2
        obtain ⟨m3, e3, y1, y2, y3, y4, y5⟩ := hX (k1 + 1) (c ++ l) m2 hk2 (by rw [List.length_append]; omega) p2
        replace e3 : rec.1 (A 1) (iI ((lv + 1 : Nat) : Int)) wi (ov 68 A m2 σ) = some ((), (ov 68 A m3 σ)) := e3
        obtain ⟨m4, e4, a1, a2, a3, a4, a5⟩ := p_Tw_add H y2 (cdO (kdT t k1))
        have qcs := q_csign H ht h4
        have hO4 : OnPr m m4 := OnPr_t i1 (OnPr_t (OnPr_A k2) (OnPr_t y1 a1))
        have estep : L_Rd_expression_2 rec (A 1) (iI (lv : Int)) wi (iI ((i + (n + 1) : Nat) : Int)) (iI (i : Int)) (ov 68 A mm σ) = L_Rd_expression_2 rec (A 1) (iI (lv : Int)) wi (iI ((i + (n + 1) : Nat) : Int)) (iI ((i + 1 : Nat) : Int)) (ov 68 A m4 σ) := by
          rw [E_Rd_expression_2]
          simp (disch := omega) only [cK_1 H, cR_1_1 H, cK_3 H, okO_ov, aR_ov, gd_true, aI_ov H.1, i2.2.2.1, qlv, qcs, bnd_some, l_0, l_1, iI_lt, iI_eq, iI_add, iI_s, e2, e3, e4, ↓reduceIte]
          rw [if_pos (by omega), if_pos (by omega)]
        rw [estep]
        have el : loS t s lv (n + 1) k1 l = bR (s (k1 + 1)) (fun k' l' => loS t s lv n k' (l ++ l' ++ [cdO (kdT t k1)])) := if_pos z
        rw [el]
        by_cases y : (s (k1 + 1)).1 = 0
        · obtain ⟨g1, g2, g3⟩ := hs (k1 + 1) hk2 y
          have hgl := kOk_le ht g1
          obtain ⟨b1, b2, b3, b4, b5, b6⟩ := y5 y
          have p4 : PS t ns ic (s (k1 + 1)).2.1 (c ++ (l ++ (s (k1 + 1)).2.2 ++ [cdO (kdT t k1)])) m4 := by
            refine ⟨⟨by rw [a2]; exact b1.1, fun j hj => by rw [a1.1 2 (by decide) (by decide) (by decide)]; exact b1.2 j hj⟩, ⟨by rw [a2]; exact b2.1, by rw [a2]; exact b2.2.1, by rw [a2]; exact b2.2.2.1, fun x => by rw [a3]; exact b2.2.2.2.1 x, fun x => by rw [a2]; exact b2.2.2.2.2 x⟩, by rw [a2]; exact b3, by rw [a2]; exact b4, ⟨by rw [a1.2.2.1 7 (by decide)]; exact b5.1, fun j hj => by rw [a3]; exact b5.2 j hj⟩, ?_⟩
            have := a5 _ b6 (by rw [List.length_append, List.length_append]; omega)
            rw [List.append_assoc, List.append_assoc] at this
            rw [List.append_assoc]
            exact this
          rw [show bR (s (k1 + 1)) (fun k' l' => loS t s lv n k' (l ++ l' ++ [cdO (kdT t k1)])) = loS t s lv n (s (k1 + 1)).2.1 (l ++ (s (k1 + 1)).2.2 ++ [cdO (kdT t k1)]) from if_pos y]
          have := ih (i + 1) (s (k1 + 1)).2.1 (l ++ (s (k1 + 1)).2.2 ++ [cdO (kdT t k1)]) m4 g1 (by rw [List.length_append, List.length_append, List.length_singleton]; omega) (by rw [List.length_append, List.length_singleton]; omega) hO4 p4 (by omega)
          rw [show i + 1 + n = i + (n + 1) by omega] at this
          exact this
        · rw [bR_no y]
          have h8 : m4.1 1 8 = iI ((s (k1 + 1)).1 : Int) := by rw [a2]; exact y3
          refine ⟨m4, ?_, hO4, a4, h8, y4, fun x => absurd x y⟩
          rw [E_Rd_expression_2]
          simp (disch := omega) only [E_Rd_expression_3, cK_1 H, okO_ov, gd_true, aI_ov H.1, h8, l_0, iI_lt, iI_eq]
          rw [if_neg (show ¬ (((s (k1 + 1)).1 : Nat) : Int) = 0 by omega), ite_self]
      · have el : loS t s lv (n + 1) k1 l = (0, k1, l) := if_neg z
        rw [el]
        refine ⟨mm, ?_, i1, PS_U i2 (by rw [List.length_append]; omega), i2.2.2.1, Nat.zero_le _, fun _ => i2⟩
        rw [E_Rd_expression_2]
        simp (disch := omega) only [E_Rd_expression_3, cK_1 H, okO_ov, gd_true, aI_ov H.1, i2.2.2.1, qlv, bnd_some, l_0, iI_lt, iI_eq, ↓reduceIte]
        rw [if_pos (by omega), if_neg (by omega)]
  show ∃ m' : VM, mw _ (L_Rd_expression_0 rec (A 1) (iI (lv : Int)) wi (ov 68 A m σ)) = _ ∧ _
  have e0 : L_Rd_expression_0 rec (A 1) (iI (lv : Int)) wi (ov 68 A m σ) = L_Rd_expression_2 rec (A 1) (iI (lv : Int)) wi (iI ((0 + (if lv = 1 then 1 else 1000) : Nat) : Int)) (iI ((0 : Nat) : Int)) (ov 68 A m1 σ) := by
    rw [E_Rd_expression_0]
    simp (disch := omega) only [E_Rd_expression_1, cK_1 H, okO_ov, gd_true, l_0, l_1, l_4, l_1000, iI_lt, iI_eq, iI_add, iI_s, e1, bnd_some]
    rw [if_pos (by omega)]
    by_cases z : lv = 1
    · rw [if_pos (by omega), if_pos z]; rfl
    · rw [if_neg (by omega), if_neg z]; rfl
  rw [e0]
  by_cases y : (s k).1 = 0
  · obtain ⟨g1, g2, g3⟩ := hs k hk y
    obtain ⟨m', e, r⟩ := lp (if lv = 1 then 1 else 1000) 0 (s k).2.1 (s k).2.2 m1 g1 g2 g3 z1 (z5 y) (by split <;> omega)
    refine ⟨m', ?_, ?_⟩
    · rw [e, mw_ov]
    · rw [show lvS t s lv k = loS t s lv (if lv = 1 then 1 else 1000) (s k).2.1 (s k).2.2 from if_pos y]
      exact r
  · refine ⟨m1, ?_, ?_⟩
    · rw [E_Rd_expression_2]
      simp (disch := omega) only [E_Rd_expression_3, cK_1 H, okO_ov, gd_true, aI_ov H.1, z3, l_0, iI_eq]
      rw [if_neg (show ¬ (((s k).1 : Nat) : Int) = 0 by omega), ite_self, mw_ov]
    · rw [show lvS t s lv k = s k from if_neg y]
      exact ⟨z1, z2, z3, z4, fun x => absurd x y⟩
theorem c_exp {t : PD} {A : Nat → Nat} {σ : AM} (H : LC A σ) (ht : wfT t) {ns : List (List Nat)} {ic : Bool} {s : Nat → PRs} (hs : gdP t s) {f : Nat} {wi : Int32} (hX : ∀ g, f ≤ g → pcT t ns ic A σ s (fun σ => (Q_Rd_expression_Rd_part g).2 (A 1) wi σ)) : ∀ n, n ≤ 4 → ∀ g, f + n + 1 ≤ g → pcT t ns ic A σ (exS t s n) (fun σ => (Q_Rd_expression_Rd_part g).1 (A 1) (iI ((4 - n : Nat) : Int)) wi σ) := by
  intro n
  induction n with
  | zero =>
    intro _ g hg
    obtain ⟨g, rfl⟩ : ∃ h, g = h + 1 := ⟨g - 1, by omega⟩
    intro k c m hk hc hP
    obtain ⟨m', e, r⟩ := hX g (by omega) k c m hk hc hP
    refine ⟨m', ?_, r⟩
    show mw _ (L_Rd_expression_0 _ (A 1) (iI 4) wi (ov 68 A m σ)) = _
    rw [E_Rd_expression_0]
    replace e : (Q_Rd_expression_Rd_part g).2 (A 1) wi (ov 68 A m σ) = some ((), (ov 68 A (m') σ)) := e
    simp (disch := omega) only [cK_1 H, okO_ov, gd_true, l_4, iI_lt, e, bnd_some, Int.reduceLT, ↓reduceIte, mw_ov]
  | succ n ih =>
    intro hn g hg
    obtain ⟨g, rfl⟩ : ∃ h, g = h + 1 := ⟨g - 1, by omega⟩
    have := ih (by omega) g (by omega)
    rw [show 4 - n = (3 - n) + 1 by omega] at this
    have := c_exp1 H ht (ex_gd hs n (by omega)) (lv := 3 - n) (by omega) (rec := Q_Rd_expression_Rd_part g) this
    rw [show 4 - (n + 1) = 3 - n by omega]
    exact this
theorem c_part {t : PD} {A : Nat → Nat} {σ : AM} (H : LC A σ) (ht : wfT t) {ns : List (List Nat)} (hn : nsOk ns) {ic : Bool} : ∀ w, w ≤ 5 → ∀ g, 6 * w + 1 ≤ g → pcT t ns ic A σ (paS t ns ic w) (fun σ => (Q_Rd_expression_Rd_part g).2 (A 1) (iI ((5 - w : Nat) : Int)) σ) := by
  -- a wrong beginning
  have bad : ∀ w, w ≤ 5 → ∀ g, 1 ≤ g → ∀ k c m, kOk t k → c.length ≤ k → PS t ns ic k c m → ¬ foP t ns ic w k = 0 → ∃ m' : VM, (Q_Rd_expression_Rd_part g).2 (A 1) (iI ((5 - w : Nat) : Int)) (ov 68 A m σ) = some ((), (ov 68 A (m') σ)) ∧ PZ t ns ic c (faP t k (foP t ns ic w k)) m m' := by
    intro w hw g hg k c m hk hc hP hf
    obtain ⟨g, rfl⟩ : ∃ h, g = h + 1 := ⟨g - 1, by omega⟩
    have hp := pl_b ht k
    have hkl := kOk_le ht hk
    have hfl : foP t ns ic w k ≤ 5 := by
      unfold foP
      split
      · split
        · omega
        · split <;> omega
      · omega
    have e1 := q_faultOf H ht hn hP hw
    obtain ⟨m', e2, k1, k2, k3⟩ := p_fail H (t := t) (k := k) hP.2.1.2.1 hP.2.2.1 (foP t ns ic w k)
    refine ⟨m', ?_, k1, ?_, k3, by show foP t ns ic w k + 16 * plT t k ≤ 20000; omega, fun x => ?_⟩
    · show mw _ (L_Rd_part_0 _ _ _ _) = _
      rw [E_Rd_part_0]
      simp (disch := omega) only [E_Rd_part_1, cK_1 H, okO_ov, gd_true, e1, bnd_some, l_0, iI_eq, e2, aI_ov H.1, k3]
      rw [if_neg (by omega), if_neg (by omega), mw_ov]
    · obtain ⟨u, u1, u2⟩ := PS_U hP (by omega)
      exact ⟨u, u1, by rw [k2]; exact u2⟩
    · have x : foP t ns ic w k + 16 * plT t k = 0 := x
      omega
  intro w
  induction w with
  | zero =>
    intro hw g hg k c m hk hc hP
    have := fo_0 (t := t) (ns := ns) (ic := ic) (k := k)
    exact bad 0 hw g (by omega) k c m hk hc hP (by omega)
  | succ w ih =>
    intro hw g hg k c m hk hc hP
    by_cases z : foP t ns ic (w + 1) k = 0
    · have hkd := kd_lt ht k
      have hk1 := kOk_s hk (fo_kd z)
      have hkl := kOk_le ht hk1
      have e1 := q_faultOf H ht hn hP hw
      rw [z] at e1
      replace e1 : M_Rd_faultOfPart (A 1) (iI ((5 - (w + 1) : Nat) : Int)) (ov 68 A m σ) = some (iI 0, (ov 68 A m σ)) := e1
      have h4 : m.1 1 4 = iI (kdT t k : Int) := hP.2.1.2.2.1
      obtain ⟨g, rfl⟩ : ∃ h, g = h + 1 := ⟨g - 1, by omega⟩
      have ew : ((5 - (w + 1) : Nat) : Int) + 1 = ((5 - w : Nat) : Int) := by omega
      show ∃ m' : VM, mw _ (L_Rd_part_0 (Q_Rd_expression_Rd_part g) _ _ _) = _ ∧ _
      by_cases c9 : kdT t k = 9
      · rw [show paS t ns ic (w + 1) k = bR (paS t ns ic w (k + 1)) (fun k' l => (0, k', l ++ [0])) from (if_pos z).trans (if_pos c9)]
        obtain ⟨m2, e2, k2, p2⟩ := p_adv H ht hP
        obtain ⟨m3, e3, y1, y2, y3, y4, y5⟩ := ih (by omega) g (by omega) (k + 1) c m2 hk1 (by omega) p2
        replace e3 : (Q_Rd_expression_Rd_part g).2 (A 1) (iI ((5 - w : Nat) : Int)) (ov 68 A m2 σ) = some ((), (ov 68 A m3 σ)) := e3
        obtain ⟨m4, e4, a1, a2, a3, a4, a5⟩ := p_Tw_add H y2 0
        replace e4 : M_Tw_add (A 3) (iI 0) (ov 68 A m3 σ) = some ((), (ov 68 A m4 σ)) := e4
        have hO4 : OnPr m m4 := OnPr_t (OnPr_A k2) (OnPr_t y1 a1)
        refine ⟨m4, ?_, ?_⟩
        · rw [E_Rd_part_0]
          simp (disch := omega) only [E_Rd_part_1, E_Rd_part_2, cK_1 H, cR_1_1 H, cK_3 H, okO_ov, aR_ov, gd_true, e1, bnd_some, l_0, l_1, l_9, aI_ov H.1, hP.2.2.1, h4, iI_eq, iI_add, ew, e2, e3, e4, ↓reduceIte]
          rw [if_pos (by omega), mw_ov]
        · by_cases y : (paS t ns ic w (k + 1)).1 = 0
          · obtain ⟨g1, g2, g3⟩ := pa_gd w (k + 1) hk1 y
            have hgl := kOk_le ht g1
            obtain ⟨b1, b2, b3, b4, b5, b6⟩ := y5 y
            rw [show bR (paS t ns ic w (k + 1)) (fun k' l => (0, k', l ++ [0])) = (0, (paS t ns ic w (k + 1)).2.1, (paS t ns ic w (k + 1)).2.2 ++ [0]) from if_pos y]
            refine ⟨hO4, a4, by rw [a2]; exact b3, Nat.zero_le _, fun _ => ⟨⟨by rw [a2]; exact b1.1, fun j hj => by rw [a1.1 2 (by decide) (by decide) (by decide)]; exact b1.2 j hj⟩, ⟨by rw [a2]; exact b2.1, by rw [a2]; exact b2.2.1, by rw [a2]; exact b2.2.2.1, fun x => by rw [a3]; exact b2.2.2.2.1 x, fun x => by rw [a2]; exact b2.2.2.2.2 x⟩, by rw [a2]; exact b3, by rw [a2]; exact b4, ⟨by rw [a1.2.2.1 7 (by decide)]; exact b5.1, fun j hj => by rw [a3]; exact b5.2 j hj⟩, ?_⟩⟩
            have := a5 _ b6 (by rw [List.length_append]; omega)
            rw [List.append_assoc] at this
            exact this
          · rw [bR_no y]
            exact ⟨hO4, a4, by rw [a2]; exact y3, y4, fun x => absurd x y⟩
      · by_cases c40 : kdT t k = 40
        · rw [show paS t ns ic (w + 1) k = bR (exS t (paS t ns ic w) 4 (k + 1)) (fun k' l => epS t 41 k' l) from (if_pos z).trans ((if_neg c9).trans (if_pos c40))]
          obtain ⟨m2, e2, k2, p2⟩ := p_adv H ht hP
          have hx := c_exp H ht (pa_gd (t := t) (ns := ns) (ic := ic) w) (f := 6 * w + 1) (wi := iI ((5 - w : Nat) : Int)) (fun g hg => ih (by omega) g hg) 4 (Nat.le_refl _) g (by omega)
          obtain ⟨m3, e3, y1, y2, y3, y4, y5⟩ := hx (k + 1) c m2 hk1 (by omega) p2
          replace e3 : (Q_Rd_expression_Rd_part g).1 (A 1) (iI 0) (iI ((5 - w : Nat) : Int)) (ov 68 A m2 σ) = some ((), (ov 68 A m3 σ)) := e3
          by_cases y : (exS t (paS t ns ic w) 4 (k + 1)).1 = 0
          · obtain ⟨g1, g2, g3⟩ := ex_gd (pa_gd w) 4 (Nat.le_refl _) (k + 1) hk1 y
            have hgl := kOk_le ht g1
            have p3 := y5 y
            obtain ⟨m4, e4, x1, x2, x3, x4, x5⟩ := p_expect H ht p3 (by rw [List.length_append]; omega) (v := 41) (by decide)
            replace e4 : M_Rd_expect (A 1) (iI 41) (ov 68 A m3 σ) = some ((), (ov 68 A m4 σ)) := e4
            rw [show bR (exS t (paS t ns ic w) 4 (k + 1)) (fun k' l => epS t 41 k' l) = epS t 41 (exS t (paS t ns ic w) 4 (k + 1)).2.1 (exS t (paS t ns ic w) 4 (k + 1)).2.2 from if_pos y]
            refine ⟨m4, ?_, OnPr_t (OnPr_A k2) (OnPr_t y1 x1), x2, ?_⟩
            · rw [E_Rd_part_0]
              simp (disch := omega) only [E_Rd_part_1, E_Rd_part_2, cK_1 H, okO_ov, gd_true, e1, bnd_some, l_0, l_1, l_9, l_40, l_41, aI_ov H.1, hP.2.2.1, h4, iI_eq, iI_add, ew, e2, e3, e4, ↓reduceIte]
              rw [if_neg (by omega), if_pos (by omega), mw_ov]
            · unfold epS at x3 x4 x5 ⊢
              by_cases v : kdT t (exS t (paS t ns ic w) 4 (k + 1)).2.1 = 41
              · rw [if_pos v] at x3 x4 x5 ⊢
                refine ⟨x3, x4, fun _ => ?_⟩
                have := x5 rfl
                rw [List.append_nil] at this
                exact this
              · rw [if_neg v] at x3 x4 x5 ⊢
                refine ⟨x3, x4, fun x => ?_⟩
                have x : 1 + 16 * plT t _ = 0 := x
                omega
          · rw [bR_no y]
            have e4 := p_expectF H y3 y y4 (iI 41)
            refine ⟨m3, ?_, OnPr_t (OnPr_A k2) y1, y2, y3, y4, fun x => absurd x y⟩
            rw [E_Rd_part_0]
            simp (disch := omega) only [E_Rd_part_1, E_Rd_part_2, cK_1 H, okO_ov, gd_true, e1, bnd_some, l_0, l_1, l_9, l_40, l_41, aI_ov H.1, hP.2.2.1, h4, iI_eq, iI_add, ew, e2, e3, e4, ↓reduceIte]
            rw [if_neg (by omega), if_pos (by omega), mw_ov]
        · rw [show paS t ns ic (w + 1) k = (0, k + 1, [cdP t ns k]) from (if_pos z).trans ((if_neg c9).trans (if_neg c40))]
          have e2 := q_codeOf H ht hn hP z
          obtain ⟨m3, e3, a1, a2, a3, a4, a5⟩ := p_Tw_add H (PS_U hP (by omega)) (cdP t ns k)
          obtain ⟨b1, b2, b3, b4, b5, b6⟩ := hP
          have p3 : PS t ns ic k (c ++ [cdP t ns k]) m3 := ⟨⟨by rw [a2]; exact b1.1, fun j hj => by rw [a1.1 2 (by decide) (by decide) (by decide)]; exact b1.2 j hj⟩, ⟨by rw [a2]; exact b2.1, by rw [a2]; exact b2.2.1, by rw [a2]; exact b2.2.2.1, fun x => by rw [a3]; exact b2.2.2.2.1 x, fun x => by rw [a2]; exact b2.2.2.2.2 x⟩, by rw [a2]; exact b3, by rw [a2]; exact b4, ⟨by rw [a1.2.2.1 7 (by decide)]; exact b5.1, fun j hj => by rw [a3]; exact b5.2 j hj⟩, a5 _ b6 (by omega)⟩
          obtain ⟨m4, e4, k4, p4⟩ := p_adv H ht p3
          refine ⟨m4, ?_, OnPr_t a1 (OnPr_A k4), UO_A a4 k4, p4.2.2.1, Nat.zero_le _, fun _ => p4⟩
          rw [E_Rd_part_0]
          simp (disch := omega) only [E_Rd_part_1, E_Rd_part_2, cK_1 H, cR_1_1 H, cK_3 H, okO_ov, aR_ov, gd_true, e1, bnd_some, l_0, l_9, l_40, aI_ov H.1, b3, h4, iI_eq, e2, e3, e4, ↓reduceIte]
          rw [if_neg (by omega), if_neg (by omega), mw_ov]
    · rw [show paS t ns ic (w + 1) k = faP t k (foP t ns ic (w + 1) k) from if_neg z]
      exact bad (w + 1) hw g (by omega) k c m hk hc hP z
theorem c_formula {t : PD} {A : Nat → Nat} {σ : AM} (H : LC A σ) (ht : wfT t) {ns : List (List Nat)} (hn : nsOk ns) {ic : Bool} : pcT t ns ic A σ (exS t (paS t ns ic 5) 4) (fun σ => M_Rd_expression (A 1) (iI 0) (iI 0) σ) := c_exp H ht (pa_gd 5) (f := 31) (wi := iI ((5 - 5 : Nat) : Int)) (fun g hg => c_part H ht hn 5 (Nat.le_refl _) g (by omega)) 4 (Nat.le_refl _) 80 (by omega)
