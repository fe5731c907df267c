/-! ===== the fewest trials: the class ===== -/
def OnPl (m m' : VM) : Prop := (∀ c, (c < 48 ∨ 53 < c) → m'.1 c = m.1 c) ∧ m'.2 = m.2
theorem OnPl_r (m : VM) : OnPl m m := ⟨fun _ _ => rfl, rfl⟩
theorem OnPl_t {a b c : VM} (h : OnPl a b) (k : OnPl b c) : OnPl a c := ⟨fun q hq => (k.1 q hq).trans (h.1 q hq), k.2.trans h.2⟩
theorem OnPl_V {m m' : VM} (h : OnPl m m') {c : Nat} (j : Nat) (v : Int32) (h1 : 48 ≤ c) (h2 : c ≤ 53) : OnPl m (sV m' c j v) := ⟨fun q hq => by rw [sV_ne _ _ _ _ (by omega)]; exact h.1 q hq, h.2⟩
theorem OnPl_S {m m' : VM} (h : OnS 53 m m') : OnPl m m' := ⟨fun c hc => h.1 c (by omega), h.2⟩
theorem OnPl_Ks {m m' : VM} (h : OnPl m m') : Ks gsA m m' := fun g hg => by
  refine ⟨fun q hq => ?_, fun c hc => ?_, fun q hq => by rw [h.2], fun c hc => by rw [h.2]⟩
  · have := (show ∀ g ∈ gsA, ∀ q ∈ gF g, q.1 < 48 ∨ 53 < q.1 by decide) g hg q hq
    rw [h.1 _ this]
  · have := (show ∀ g ∈ gsA, ∀ c ∈ gC g, c < 48 ∨ 53 < c by decide) g hg c hc
    exact h.1 _ this
/-! questions -/
def qOk (d : TD) (q w : Int) : Prop := q = 0 ∨ q = 4 ∨ (q = 1 ∧ 0 ≤ w ∧ w < (dT d : Int)) ∨ (q = 2 ∧ 0 ≤ w ∧ w.toNat / 6 < dT d ∧ w.toNat % 6 < dT d ∧ w.toNat / 6 ≠ w.toNat % 6) ∨ (q = 3 ∧ 0 ≤ w ∧ w < (sN d : Int))
theorem q_ansV {d : TD} (hd : wfD d) (b : BD) {q w : Int} (h : qOk d q w) (i : Nat) (σ : AM) : M_Pl_answer (iI q) (iI w) (xL d b i) (iI (i : Int)) σ = some (ansV d b q.toNat w.toNat i, σ) := by
  have hT := hd.1
  have hS := sN_le hd
  unfold ansV
  rcases h with rfl | rfl | ⟨rfl, h1, h2⟩ | ⟨rfl, h1, h2, h3, h4⟩ | ⟨rfl, h1, h2⟩
  · exact q_ans0 _ _ _ _
  · exact q_ans4 _ _ _ _
  · obtain ⟨n, rfl⟩ := Int.eq_ofNat_of_zero_le h1
    exact q_ans1 (xL d b i) (t := n) (by omega) _ _
  · obtain ⟨n, rfl⟩ := Int.eq_ofNat_of_zero_le h1
    rw [Int.toNat_natCast] at h2 h3 h4 ⊢
    have := q_ans2 (xL d b i) (a := n / 6) (b := n % 6) (by omega) (by omega) h4 (iI (i : Int)) σ
    rw [show 6 * (n / 6) + n % 6 = n by omega] at this
    exact this
  · obtain ⟨n, rfl⟩ := Int.eq_ofNat_of_zero_le h1
    exact q_ans3 (xL d b i) (s := n) (by omega) _ _
theorem iI_divn {n : Nat} (h : n ≤ 2147483648) : iI (-(n : Int)) / iI 6 = iI (-((n / 6 : Nat) : Int)) := by
  apply Int32.toInt_inj.mp
  have ha : (iI (-(n : Int))).toInt = -(n : Int) := Int32.toInt_ofInt_of_le (by omega) (by omega)
  have hb : (iI 6).toInt = 6 := rfl
  have hq : n / 6 ≤ n := Nat.div_le_self _ _
  have hab : (iI (-((n / 6 : Nat) : Int))).toInt = -((n / 6 : Nat) : Int) := Int32.toInt_ofInt_of_le (by omega) (by omega)
  rw [hab, Int32.toInt_div, ha, hb, Int.neg_tdiv, Int.tdiv_eq_ediv_of_nonneg (by omega), show (n : Int) / 6 = ((n / 6 : Nat) : Int) from rfl, Int.bmod_eq_of_le (by omega) (by omega)]
theorem q_Bp_isQuestion {A : Nat → Nat} {σ : AM} (H : LC A σ) {m : VM} {d : TD} (hd : wfD d) (hT : CTw d m) {q w : Int} (h1 : -2147483648 ≤ q) (h2 : q < 2147483648) (h3 : -2147483648 ≤ w) (h4 : w < 2147483648) : ∃ r : Bool, M_Bp_isQuestion (A 0) (iI q) (iI w) (ov 68 A m σ) = some (bZ r, (ov 68 A m σ)) ∧ (r = true ↔ qOk d q w) := by
  have hT6 := hd.1
  unfold M_Bp_isQuestion qOk
  by_cases c0 : q = 0
  · subst c0
    refine ⟨true, ?_, ⟨fun _ => Or.inl rfl, fun _ => rfl⟩⟩
    rw [E_Bp_isQuestion_0]
    simp only [l_0, l_1, ↓reduceIte, mw_ov]; rfl
  by_cases c1 : q = 1
  · subst c1
    have hh := q_Tw_hasThing H hd hT h3 h4
    refine ⟨decide (0 ≤ w ∧ w < (dT d : Int)), ?_, ?_⟩
    · rw [E_Bp_isQuestion_0]
      simp (disch := omega) only [l_0, l_1, iI_eq, cK_0 H, cR_0_1 H, cK_10 H, okO_ov, aR_ov, gd_true, bnd_some, hh, isB_bZ, Int.reduceEq, ↓reduceIte, mw_ov]
    · rw [decide_eq_true_iff]
      constructor
      · intro z; exact Or.inr (Or.inr (Or.inl ⟨rfl, z⟩))
      · intro z; rcases z with z | z | z | z | z
        · omega
        · omega
        · exact z.2
        · omega
        · omega
  by_cases c2 : q = 2
  · subst c2
    have fF : L_Bp_isQuestion_2 (iI 0) (ov 68 A m σ) = some (bZ false, (ov 68 A m σ)) := by rw [E_Bp_isQuestion_2, isB_0, gd_true]; rfl
    have fT : L_Bp_isQuestion_2 (iI 1) (ov 68 A m σ) = some (bZ true, (ov 68 A m σ)) := by rw [E_Bp_isQuestion_2, isB_1, gd_true]; rfl
    by_cases hw : 0 ≤ w
    · obtain ⟨n, rfl⟩ := Int.eq_ofNat_of_zero_le hw
      have hq : n / 6 ≤ n := Nat.div_le_self _ _
      have hm : n % 6 < 6 := Nat.mod_lt _ (by omega)
      have e1 : iI (n : Int) / iI 6 = iI ((n / 6 : Nat) : Int) := iI_div (a := n) (b := 6) (by omega) (by omega)
      have e2 : iI (n : Int) - iI ((n / 6 : Nat) : Int) * iI 6 = iI ((n % 6 : Nat) : Int) := iI_mod (a := n) (b := 6) (by omega) (by omega)
      have t1 := q_Tw_hasThing H hd hT (a := ((n / 6 : Nat) : Int)) (by omega) (by omega)
      have t2 := q_Tw_hasThing H hd hT (a := ((n % 6 : Nat) : Int)) (by omega) (by omega)
      rw [Int.toNat_natCast]
      generalize n / 6 = x at *
      generalize n % 6 = y at *
      refine ⟨decide (x < dT d ∧ y < dT d ∧ x ≠ y), ?_, ?_⟩
      · rw [E_Bp_isQuestion_0]
        simp (disch := omega) only [E_Bp_isQuestion_1, l_0, l_1, l_2, l_6, iI_eq, e1, e2, letT_eq, cK_0 H, cR_0_1 H, cK_10 H, okO_ov, aR_ov, gd_true, bnd_some, t1, t2, bZ_0, fF, fT, Int.reduceEq, ↓reduceIte, mw_ov]
        by_cases z1 : x < dT d
        · rw [decide_eq_true (show 0 ≤ (x : Int) ∧ (x : Int) < (dT d : Int) by omega), if_neg (by decide)]
          by_cases z2 : y < dT d
          · rw [decide_eq_true (show 0 ≤ (y : Int) ∧ (y : Int) < (dT d : Int) by omega), if_neg (by decide)]
            by_cases z3 : x = y
            · rw [if_pos (by omega), decide_eq_false (fun z => z.2.2 z3), mw_ov]
            · rw [if_neg (by omega), decide_eq_true ⟨z1, z2, z3⟩, mw_ov]
          · rw [decide_eq_false (show ¬ (0 ≤ (y : Int) ∧ (y : Int) < (dT d : Int)) by omega), if_pos rfl, decide_eq_false (fun z => z2 z.2.1), mw_ov]
        · rw [decide_eq_false (show ¬ (0 ≤ (x : Int) ∧ (x : Int) < (dT d : Int)) by omega), if_pos rfl, decide_eq_false (fun z => z1 z.1), mw_ov]
      · rw [decide_eq_true_iff]
        constructor
        · intro z; exact Or.inr (Or.inr (Or.inr (Or.inl ⟨rfl, hw, z⟩)))
        · intro z; rcases z with z | z | z | z | z
          · omega
          · omega
          · omega
          · exact z.2.2
          · omega
    · refine ⟨false, ?_, ⟨fun z => absurd z (by decide), fun z => by omega⟩⟩
      obtain ⟨n, hn⟩ : ∃ n : Nat, w = -(n : Int) := ⟨(-w).toNat, by omega⟩
      subst hn
      have e1 := iI_divn (n := n) (by omega)
      have e2 : iI (-(n : Int)) - iI (-((n / 6 : Nat) : Int)) * iI 6 = iI (-((n % 6 : Nat) : Int)) := by
        rw [iI_mul, iI_sub]; congr 1; omega
      have hm : n % 6 < 6 := Nat.mod_lt _ (by omega)
      have t1 := q_Tw_hasThing H hd hT (a := -((n / 6 : Nat) : Int)) (by omega) (by omega)
      have t2 := q_Tw_hasThing H hd hT (a := -((n % 6 : Nat) : Int)) (by omega) (by omega)
      have hno : ¬ (n / 6 = 0 ∧ n % 6 = 0) := by omega
      generalize n / 6 = x at *
      generalize n % 6 = y at *
      rw [E_Bp_isQuestion_0]
      simp (disch := omega) only [E_Bp_isQuestion_1, l_0, l_1, l_2, l_6, iI_eq, e1, e2, letT_eq, cK_0 H, cR_0_1 H, cK_10 H, okO_ov, aR_ov, gd_true, bnd_some, t1, t2, bZ_0, fF, fT, Int.reduceEq, ↓reduceIte, mw_ov]
      by_cases z1 : x = 0
      · rw [decide_eq_false (show ¬ (0 ≤ -(y : Int) ∧ -(y : Int) < (dT d : Int)) by omega), if_pos rfl]
        by_cases z2 : (0 ≤ -(x : Int) ∧ -(x : Int) < (dT d : Int))
        · rw [decide_eq_true z2, if_neg (by decide), mw_ov]
        · rw [decide_eq_false z2, if_pos rfl, mw_ov]
      · rw [decide_eq_false (show ¬ (0 ≤ -(x : Int) ∧ -(x : Int) < (dT d : Int)) by omega), if_pos rfl, mw_ov]
  by_cases c3 : q = 3
  · subst c3
    have hh := q_Tw_hasSet H hd hT h3 h4
    refine ⟨decide (0 ≤ w ∧ w < (sN d : Int)), ?_, ?_⟩
    · rw [E_Bp_isQuestion_0]
      simp (disch := omega) only [l_0, l_1, l_2, l_3, iI_eq, cK_0 H, cR_0_1 H, cK_10 H, okO_ov, aR_ov, gd_true, bnd_some, hh, isB_bZ, Int.reduceEq, ↓reduceIte, mw_ov]
    · rw [decide_eq_true_iff]
      constructor
      · intro z; exact Or.inr (Or.inr (Or.inr (Or.inr ⟨rfl, z⟩)))
      · intro z; rcases z with z | z | z | z | z
        · omega
        · omega
        · omega
        · omega
        · exact z.2
  by_cases c4 : q = 4
  · subst c4
    refine ⟨true, ?_, ⟨fun _ => Or.inr (Or.inl rfl), fun _ => rfl⟩⟩
    rw [E_Bp_isQuestion_0]
    simp (disch := omega) only [l_0, l_1, l_2, l_3, l_4, iI_eq, Int.reduceEq, ↓reduceIte, mw_ov]; rfl
  · refine ⟨false, ?_, ⟨fun z => absurd z (by decide), fun z => by omega⟩⟩
    rw [E_Bp_isQuestion_0]
    simp (disch := omega) only [l_0, l_1, l_2, l_3, l_4, iI_eq]
    rw [if_neg c0, if_neg c1, if_neg c2, if_neg c3, if_neg c4, mw_ov]; rfl
/-! answers, and who answers alike -/
def grp (n : Nat) (ans : Nat → Int32) (i : Nat) : Nat := mkN n (fun j => decide (ans j = ans i))
theorem Pl_ga3 {A : Nat → Nat} {σ : AM} (H : LC A σ) {n : Nat} (hn : n ≤ 12) {ans : Nat → Int32} {i : Nat} (hi : i < n) {m : VM} (h49 : ∀ j, j < n → m.1 49 j = ans j) (h50 : m.1 50 i = iI 0) : ∃ m' : VM, L_Pl_groupAnswers_3 (A 48) (iI (n : Int)) (iI (i : Int)) (iI ((0 : Nat) : Int)) (ov 68 A m σ) = L_Pl_groupAnswers_2 (A 48) (iI (n : Int)) (iI ((i + 1 : Nat) : Int)) (ov 68 A (m') σ) ∧ (∀ c, c ≠ 50 → m'.1 c = m.1 c) ∧ m'.2 = m.2 ∧ (∀ j, j ≠ i → m'.1 50 j = m.1 50 j) ∧ m'.1 50 i = iI ((grp n ans i : Nat) : Int) := by
  refine up_loopI (fun k m1 => L_Pl_groupAnswers_3 (A 48) (iI (n : Int)) (iI (i : Int)) (iI (k : Int)) (ov 68 A m1 σ)) (fun k m1 => (∀ c, c ≠ 50 → m1.1 c = m.1 c) ∧ m1.2 = m.2 ∧ (∀ j, j ≠ i → m1.1 50 j = m.1 50 j) ∧ m1.1 50 i = iI ((mkN k (fun j => decide (ans j = ans i)) : Nat) : Int)) (fun X => ∃ m' : VM, X = L_Pl_groupAnswers_2 (A 48) (iI (n : Int)) (iI ((i + 1 : Nat) : Int)) (ov 68 A (m') σ) ∧ (∀ c, c ≠ 50 → m'.1 c = m.1 c) ∧ m'.2 = m.2 ∧ (∀ j, j ≠ i → m'.1 50 j = m.1 50 j) ∧ m'.1 50 i = iI ((grp n ans i : Nat) : Int)) n (fun k m1 hk ⟨i1, i2, i3, i4⟩ ih => ?_) (fun m1 ⟨i1, i2, i3, i4⟩ => ?_) 0 m (Nat.zero_le _) ⟨fun _ _ => rfl, rfl, fun _ _ => rfl, h50⟩
  · have e1 : m1.1 49 k = ans k := by rw [i1 49 (by decide)]; exact h49 k hk
    have e2 : m1.1 49 i = ans i := by rw [i1 49 (by decide)]; exact h49 i hi
    have hs := iI_shl1 (t := k) (by omega)
    show ∃ m' : VM, L_Pl_groupAnswers_3 _ _ _ _ _ = _ ∧ _
    rw [E_Pl_groupAnswers_3]
    simp (disch := omega) only [E_Pl_groupAnswers_4, cK_48 H, cR_48_2 H, cR_48_3 H, cK_49 H, cN_49 H, cK_50 H, cN_50 H, okO_ov, aR_ov, aN_ov, gd_true, gd_in, iI_cl, Int.toNat_natCast, aI_ov H.1, sI_ov H.1, letT_eq, e1, e2, i4, l_1, l_31, hs, iI_or, iI_lt, iI_add, iI_s]
    rw [if_pos (by omega)]
    by_cases c : ans k = ans i
    · rw [if_pos c]
      refine ih _ ⟨fun x hx => by rw [sV_ne _ _ _ _ hx]; exact i1 x hx, i2, fun j hj => by rw [sV_eq, if_neg hj]; exact i3 j hj, ?_⟩
      rw [sV_eq, if_pos rfl, mkN, if_pos (decide_eq_true c)]
    · rw [if_neg c]
      refine ih _ ⟨i1, i2, i3, ?_⟩
      rw [mkN, if_neg (by rw [decide_eq_false c]; decide)]; exact i4
  · refine ⟨m1, ?_, i1, i2, i3, i4⟩
    show L_Pl_groupAnswers_3 _ _ _ _ _ = _
    rw [E_Pl_groupAnswers_3]
    simp (disch := omega) only [iI_lt, l_1, iI_add, iI_s]
    rw [if_neg (by omega)]
theorem p_Pl_groupAnswers {d : TD} {b : BD} {A : Nat → Nat} {σ : AM} {m : VM} (R : RQ d b A σ m) (hn : nLf d b ≤ 12) {q w : Int} (hq : qOk d q w) : ∃ m' : VM, M_Pl_groupAnswers (A 48) (iI q) (iI w) (iI (nLf d b : Int)) (ov 68 A m σ) = some ((), (ov 68 A (m') σ)) ∧ OnPl m m' ∧ ∀ i, i < nLf d b → m'.1 50 i = iI ((grp (nLf d b) (ansV d b q.toNat w.toNat) i : Nat) : Int) := by
  have H := R.1
  have hd := R.2.1
  have l2 : ∀ m2, OnPl m m2 → (∀ j, j < nLf d b → m2.1 49 j = ansV d b q.toNat w.toNat j) → ∃ m' : VM, L_Pl_groupAnswers_2 (A 48) (iI (nLf d b : Int)) (iI ((0 : Nat) : Int)) (ov 68 A m2 σ) = some ((), (ov 68 A (m') σ)) ∧ OnPl m m' ∧ ∀ i, i < nLf d b → m'.1 50 i = iI ((grp (nLf d b) (ansV d b q.toNat w.toNat) i : Nat) : Int) := by
    intro m2 k1 k2
    refine up_loopI (fun i m1 => L_Pl_groupAnswers_2 (A 48) (iI (nLf d b : Int)) (iI (i : Int)) (ov 68 A m1 σ)) (fun i m1 => OnPl m m1 ∧ (∀ j, j < nLf d b → m1.1 49 j = ansV d b q.toNat w.toNat j) ∧ ∀ j, j < i → m1.1 50 j = iI ((grp (nLf d b) (ansV d b q.toNat w.toNat) j : Nat) : Int)) (fun X => ∃ m' : VM, X = some ((), (ov 68 A (m') σ)) ∧ OnPl m m' ∧ ∀ i, i < nLf d b → m'.1 50 i = iI ((grp (nLf d b) (ansV d b q.toNat w.toNat) i : Nat) : Int)) (nLf d b) (fun i m1 hi ⟨i1, i2, i3⟩ ih => ?_) (fun m1 ⟨i1, i2, i3⟩ => ?_) 0 m2 (Nat.zero_le _) ⟨k1, k2, fun j hj => absurd hj (Nat.not_lt_zero j)⟩
    · obtain ⟨m3, e3, f1, f2, f3, f4⟩ := Pl_ga3 H hn (ans := ansV d b q.toNat w.toNat) hi (m := sV m1 50 i (iI 0)) (fun j hj => by rw [sV_ne _ _ _ _ (by decide)]; exact i2 j hj) (by rw [sV_eq, if_pos rfl])
      replace e3 : L_Pl_groupAnswers_3 (A 48) _ _ (iI 0) _ = _ := e3
      have ih := ih m3 ⟨OnPl_t i1 ⟨fun c hc => by rw [f1 c (by omega), sV_ne _ _ _ _ (by omega)], f2⟩, fun j hj => by rw [f1 49 (by decide), sV_ne _ _ _ _ (by decide)]; exact i2 j hj, fun j hj => ?_⟩
      · show ∃ m' : VM, L_Pl_groupAnswers_2 _ _ _ _ = _ ∧ _
        rw [E_Pl_groupAnswers_2]
        simp (disch := omega) only [cK_48 H, cR_48_3 H, cK_50 H, cN_50 H, okO_ov, aR_ov, aN_ov, gd_true, gd_in, iI_cl, Int.toNat_natCast, sI_ov H.1, letT_eq, l_0, iI_lt, e3]
        rw [if_pos (by omega)]
        exact ih
      · by_cases e : j = i
        · rw [e]; exact f4
        · rw [f3 j e, sV_eq, if_neg e]; exact i3 j (by omega)
    · refine ⟨m1, ?_, i1, i3⟩
      show L_Pl_groupAnswers_2 _ _ _ _ = _
      rw [E_Pl_groupAnswers_2]
      simp (disch := omega) only [iI_lt]
      rw [if_neg (by omega)]
  have l1 : ∃ m' : VM, L_Pl_groupAnswers_1 (A 48) (iI q) (iI w) (iI (nLf d b : Int)) (iI ((0 : Nat) : Int)) (ov 68 A m σ) = some ((), (ov 68 A (m') σ)) ∧ OnPl m m' ∧ ∀ i, i < nLf d b → m'.1 50 i = iI ((grp (nLf d b) (ansV d b q.toNat w.toNat) i : Nat) : Int) := by
    refine up_loopI (fun i m1 => L_Pl_groupAnswers_1 (A 48) (iI q) (iI w) (iI (nLf d b : Int)) (iI (i : Int)) (ov 68 A m1 σ)) (fun i m1 => OnPl m m1 ∧ ∀ j, j < i → m1.1 49 j = ansV d b q.toNat w.toNat j) (fun X => ∃ m' : VM, X = some ((), (ov 68 A (m') σ)) ∧ OnPl m m' ∧ ∀ i, i < nLf d b → m'.1 50 i = iI ((grp (nLf d b) (ansV d b q.toNat w.toNat) i : Nat) : Int)) (nLf d b) (fun i m1 hi ⟨i1, i2⟩ ih => ?_) (fun m1 ⟨i1, i2⟩ => ?_) 0 m (Nat.zero_le _) ⟨OnPl_r m, fun j hj => absurd hj (Nat.not_lt_zero j)⟩
    · have R1 := RQ_K (Ks_sub (OnPl_Ks i1) (by decide)) R
      have hl := q_Rs_listAt R1 hi
      have ha := q_ansV hd b hq i (ov 68 A m1 σ)
      have ih := ih (sV m1 49 i (ansV d b q.toNat w.toNat i)) ⟨OnPl_V i1 _ _ (by decide) (by decide), fun j hj => by
        rw [sV_eq]
        by_cases e : j = i
        · rw [if_pos e, e]
        · rw [if_neg e]; exact i2 j (by omega)⟩
      show ∃ m' : VM, L_Pl_groupAnswers_1 _ _ _ _ _ _ = _ ∧ _
      rw [E_Pl_groupAnswers_1]
      simp (disch := omega) only [cK_48 H, cR_48_2 H, cR_48_1 H, cK_49 H, cN_49 H, cK_35 H, okO_ov, aR_ov, aN_ov, gd_true, gd_in, iI_cl, Int.toNat_natCast, sI_ov H.1, letT_eq, bnd_some, hl, ha, l_1, iI_lt, iI_add, iI_s]
      rw [if_pos (by omega)]
      exact ih
    · have := l2 m1 i1 i2
      show ∃ m' : VM, L_Pl_groupAnswers_1 _ _ _ _ _ _ = _ ∧ _
      rw [E_Pl_groupAnswers_1]
      simp (disch := omega) only [iI_lt, l_0]
      rw [if_neg (by omega)]
      exact this
  obtain ⟨m', e, r⟩ := l1
  refine ⟨m', ?_, r⟩
  unfold M_Pl_groupAnswers
  rw [E_Pl_groupAnswers_0]
  exact (congrArg (mw _) e).trans (mw_ov _ _ _ _ _ _)
/-! sets that part, each parting once -/
def cov (n : Nat) (rm : Nat → Nat) (K : Nat) (T : List Nat) : Prop := (∀ i j, i < j → j < T.length → T.getD i 0 < T.getD j 0) ∧ (∀ j, j < T.length → T.getD j 0 < K) ∧ ∀ s, s < K → rm s ≠ 0 → rm s ≠ 2 ^ n - 1 → ∃ j, j < T.length ∧ T.getD j 0 ≤ s ∧ (rm (T.getD j 0) = rm s ∨ rm (T.getD j 0) = sdf (2 ^ n - 1) (rm s))
def splE (rm : Nat → Nat) (T : List Nat) (m : VM) : Prop := m.1 48 7 = iI (T.length : Int) ∧ ∀ j, j < T.length → m.1 51 j = iI (rm (T.getD j 0) : Int) ∧ m.1 52 j = iI (T.getD j 0 : Int)
theorem cov_len {n : Nat} {rm : Nat → Nat} {K : Nat} {T : List Nat} (h : cov n rm K T) : T.length ≤ K := by
  have : ∀ j, j < T.length → j ≤ T.getD j 0 := by
    intro j
    induction j with
    | zero => intro _; omega
    | succ j ih => intro hj; have := ih (by omega); have := h.1 j (j + 1) (by omega) hj; omega
  rcases Nat.eq_zero_or_pos T.length with z | z
  · omega
  · have h1 := this (T.length - 1) (by omega)
    have h2 := h.2.1 (T.length - 1) (by omega)
    omega
theorem q_Pl_isNewSplit {A : Nat → Nat} {σ : AM} (H : LC A σ) {m : VM} {rm : Nat → Nat} {T : List Nat} (hS : splE rm T m) (hT : T.length ≤ 64) {n : Nat} (hn : n ≤ 12) (hr : ∀ s, rm s < 2 ^ n) (s : Nat) : ∃ r : Bool, M_Pl_isNewSplit (A 48) (iI (rm s : Int)) (iI ((2 ^ n - 1 : Nat) : Int)) (ov 68 A m σ) = some (bZ r, (ov 68 A m σ)) ∧ (r = false ↔ ∃ j, j < T.length ∧ (rm (T.getD j 0) = rm s ∨ rm (T.getD j 0) = sdf (2 ^ n - 1) (rm s))) := by
  have h4 : 2 ^ n ≤ 4096 := Nat.le_trans (Nat.pow_le_pow_right (by omega) hn) (by decide)
  have hsd : sdf (2 ^ n - 1) (rm s) < 2 ^ n := sdf_lt (by have := Nat.pow_pos (n := n) (show 0 < 2 by omega); omega) _
  have hrs := hr s
  have l1 : ∃ r : Bool, L_Pl_isNewSplit_1 (A 48) (iI (rm s : Int)) (iI ((2 ^ n - 1 : Nat) : Int)) (iI ((0 : Nat) : Int)) (ov 68 A m σ) = some (bZ r, (ov 68 A m σ)) ∧ (r = false ↔ ∃ j, j < T.length ∧ (rm (T.getD j 0) = rm s ∨ rm (T.getD j 0) = sdf (2 ^ n - 1) (rm s))) := by
    refine up_loopI (fun k (_ : Unit) => L_Pl_isNewSplit_1 (A 48) (iI (rm s : Int)) (iI ((2 ^ n - 1 : Nat) : Int)) (iI (k : Int)) (ov 68 A m σ)) (fun k _ => ∀ j, j < k → ¬ (rm (T.getD j 0) = rm s ∨ rm (T.getD j 0) = sdf (2 ^ n - 1) (rm s))) (fun X => ∃ r : Bool, X = some (bZ r, (ov 68 A m σ)) ∧ (r = false ↔ ∃ j, j < T.length ∧ (rm (T.getD j 0) = rm s ∨ rm (T.getD j 0) = sdf (2 ^ n - 1) (rm s)))) T.length (fun k _ hk hI ih => ?_) (fun _ hI => ?_) 0 () (Nat.zero_le _) (fun j hj => absurd hj (Nat.not_lt_zero j))
    · have h51 := (hS.2 k hk).1
      have hrk := hr (T.getD k 0)
      show ∃ r : Bool, L_Pl_isNewSplit_1 _ _ _ _ _ = _ ∧ _
      rw [E_Pl_isNewSplit_1]
      simp (disch := omega) only [E_Pl_isNewSplit_2, cK_48 H, cR_48_4 H, cK_51 H, cN_51 H, okO_ov, aR_ov, aN_ov, gd_true, gd_in, iI_cl, Int.toNat_natCast, aI_ov H.1, hS.1, h51, l_0, l_1, iI_neg, iI_sdf, iI_lt, iI_eq, iI_add, iI_s]
      rw [if_pos (by omega)]
      by_cases c1 : rm (T.getD k 0) = rm s
      · rw [if_pos (by omega)]
        exact ⟨false, rfl, ⟨fun _ => ⟨k, hk, Or.inl c1⟩, fun _ => rfl⟩⟩
      · rw [if_neg (by omega)]
        by_cases c2 : rm (T.getD k 0) = sdf (2 ^ n - 1) (rm s)
        · rw [if_pos (by omega)]
          exact ⟨false, rfl, ⟨fun _ => ⟨k, hk, Or.inr c2⟩, fun _ => rfl⟩⟩
        · rw [if_neg (by omega)]
          refine ih () (fun j hj => ?_)
          by_cases e : j = k
          · subst e; exact fun z => z.elim c1 c2
          · exact hI j (by omega)
    · refine ⟨true, ?_, ⟨fun z => absurd z (by decide), fun ⟨j, hj, z⟩ => absurd z (hI j hj)⟩⟩
      show L_Pl_isNewSplit_1 _ _ _ _ _ = _
      rw [E_Pl_isNewSplit_1]
      simp (disch := omega) only [cK_48 H, okO_ov, gd_true, aI_ov H.1, hS.1, l_1, iI_lt]
      rw [if_neg (by omega)]
      rfl
  obtain ⟨r, e, h⟩ := l1
  refine ⟨r, ?_, h⟩
  unfold M_Pl_isNewSplit
  rw [E_Pl_isNewSplit_0]
  exact (congrArg (mw _) e).trans (mw_ov _ _ _ _ _ _)
theorem Pl_fs2 {d : TD} {b : BD} {A : Nat → Nat} {σ : AM} {m : VM} (R : RQ d b A σ m) (hn : nLf d b ≤ 12) {s : Nat} (hs : s < 64) (al : Int32) : ∀ k, k ≤ nLf d b → ∀ r, L_Pl_findSplits_2 (A 48) (iI (nLf d b : Int)) al (iI (s : Int)) (iI (rmV d b s : Int)) (iI (nLf d b : Int)) (ov 68 A m σ) = r → L_Pl_findSplits_2 (A 48) (iI (nLf d b : Int)) al (iI (s : Int)) (iI ((mkN k (fun i => bt (xL d b i) s) : Nat) : Int)) (iI (k : Int)) (ov 68 A m σ) = r := by
  have H := R.1
  intro k hk r hr
  refine up_loop (fun k => L_Pl_findSplits_2 (A 48) (iI (nLf d b : Int)) al (iI (s : Int)) (iI ((mkN k (fun i => bt (xL d b i) s) : Nat) : Int)) (iI (k : Int)) (ov 68 A m σ)) (nLf d b) r (fun k hk ih => ?_) hr k hk
  have ih : L_Pl_findSplits_2 _ _ _ _ (iI ((if bt (xL d b k) s = true then mkN k (fun i => bt (xL d b i) s) ||| 2 ^ k else mkN k (fun i => bt (xL d b i) s) : Nat) : Int)) _ _ = _ := ih
  have hl := q_Rs_listAt R hk
  have hh := q_St_has (xL d b k) hs (ov 68 A m σ)
  have hsh := iI_shl1 (t := k) (by omega)
  show L_Pl_findSplits_2 _ _ _ _ _ _ _ = _
  cases q : bt (xL d b k) s
  · rw [q] at hh ih
    rw [if_neg (by decide)] at ih
    rw [E_Pl_findSplits_2]
    simp (disch := omega) only [E_Pl_findSplits_3, cK_48 H, cR_48_1 H, cK_35 H, okO_ov, aR_ov, gd_true, bnd_some, hl, hh, l_0, l_1, bZ_0, iI_lt, iI_add, iI_s, ↓reduceIte]
    rw [if_pos (by omega)]
    exact ih
  · rw [q] at hh ih
    rw [if_pos rfl] at ih
    rw [E_Pl_findSplits_2]
    simp (disch := omega) only [E_Pl_findSplits_3, cK_48 H, cR_48_1 H, cK_35 H, okO_ov, aR_ov, gd_true, bnd_some, hl, hh, l_0, l_1, l_31, bZ_0, iI_lt, iI_add, iI_s, letT_eq, hsh, iI_or, reduceCtorEq, ↓reduceIte]
    rw [if_pos (by omega)]
    exact ih
theorem p_Pl_findSplits {d : TD} {b : BD} {A : Nat → Nat} {σ : AM} {m : VM} (R : RQ d b A σ m) (hn : nLf d b ≤ 12) : ∃ (m' : VM) (T : List Nat), M_Pl_findSplits (A 48) (iI (nLf d b : Int)) (ov 68 A m σ) = some ((), (ov 68 A (m') σ)) ∧ OnPl m m' ∧ m'.1 50 = m.1 50 ∧ splE (rmV d b) T m' ∧ cov (nLf d b) (rmV d b) 64 T := by
  have H := R.1
  have h4 : 2 ^ nLf d b ≤ 4096 := Nat.le_trans (Nat.pow_le_pow_right (by omega) hn) (by decide)
  have hp : 0 < 2 ^ nLf d b := Nat.pow_pos (by omega)
  have hsh := iI_shl1 (t := nLf d b) (by omega)
  have e1 : ((2 ^ nLf d b : Nat) : Int) - 1 = ((2 ^ nLf d b - 1 : Nat) : Int) := by omega
  have l1 : ∃ (m' : VM) (T : List Nat), L_Pl_findSplits_1 (A 48) (iI (nLf d b : Int)) (iI ((2 ^ nLf d b - 1 : Nat) : Int)) (iI ((0 : Nat) : Int)) (ov 68 A (sV m 48 7 (iI 0)) σ) = some ((), (ov 68 A (m') σ)) ∧ OnPl m m' ∧ m'.1 50 = m.1 50 ∧ splE (rmV d b) T m' ∧ cov (nLf d b) (rmV d b) 64 T := by
    refine up_loopI (fun s (q : VM × List Nat) => L_Pl_findSplits_1 (A 48) (iI (nLf d b : Int)) (iI ((2 ^ nLf d b - 1 : Nat) : Int)) (iI (s : Int)) (ov 68 A (q.1) σ)) (fun s q => OnPl m q.1 ∧ q.1.1 50 = m.1 50 ∧ splE (rmV d b) q.2 q.1 ∧ cov (nLf d b) (rmV d b) s q.2) (fun X => ∃ (m' : VM) (T : List Nat), X = some ((), (ov 68 A (m') σ)) ∧ OnPl m m' ∧ m'.1 50 = m.1 50 ∧ splE (rmV d b) T m' ∧ cov (nLf d b) (rmV d b) 64 T) 64 (fun s q hs ⟨i1, i2, i3, i4⟩ ih => ?_) (fun q ⟨i1, i2, i3, i4⟩ => ?_) 0 (sV m 48 7 (iI 0), []) (Nat.zero_le _) ⟨OnPl_V (OnPl_r m) _ _ (by decide) (by decide), by rw [sV_ne _ _ _ _ (by decide)], ⟨by rw [sV_eq, if_pos rfl]; rfl, fun j hj => absurd hj (Nat.not_lt_zero j)⟩, fun i j _ hj => absurd hj (Nat.not_lt_zero j), fun j hj => absurd hj (Nat.not_lt_zero j), fun s hs => absurd hs (Nat.not_lt_zero s)⟩
    · obtain ⟨m1, T⟩ := q
      simp only at i1 i2 i3 i4
      have R1 := RQ_K (Ks_sub (OnPl_Ks i1) (by decide)) R
      have hlen := cov_len i4
      have hrs := rmV_lt d b s
      obtain ⟨r, hr1, hr2⟩ := q_Pl_isNewSplit H i3 (by omega) hn (rmV_lt d b) s
      have sk : (rmV d b s = 0 ∨ rmV d b s = 2 ^ nLf d b - 1 ∨ ∃ j, j < T.length ∧ (rmV d b (T.getD j 0) = rmV d b s ∨ rmV d b (T.getD j 0) = sdf (2 ^ nLf d b - 1) (rmV d b s))) → cov (nLf d b) (rmV d b) (s + 1) T := fun h => by
        refine ⟨i4.1, fun j hj => by have := i4.2.1 j hj; omega, fun t ht z1 z2 => ?_⟩
        by_cases e : t = s
        · subst e
          rcases h with h | h | ⟨j, hj, h⟩
          · exact absurd h z1
          · exact absurd h z2
          · exact ⟨j, hj, by have := i4.2.1 j hj; omega, h⟩
        · exact i4.2.2 t (by omega) z1 z2
      have out : L_Pl_findSplits_1 (A 48) (iI (nLf d b : Int)) (iI ((2 ^ nLf d b - 1 : Nat) : Int)) (iI (s : Int)) (ov 68 A m1 σ) = L_Pl_findSplits_2 (A 48) (iI (nLf d b : Int)) (iI ((2 ^ nLf d b - 1 : Nat) : Int)) (iI (s : Int)) (iI (rmV d b s : Int)) (iI (nLf d b : Int)) (ov 68 A m1 σ) := by
        rw [E_Pl_findSplits_1]
        simp (disch := omega) only [l_0, l_64, iI_lt]
        rw [if_pos (by omega)]
        exact Pl_fs2 R1 hn hs _ 0 (Nat.zero_le _) _ rfl
      show ∃ (m' : VM) (T : List Nat), L_Pl_findSplits_1 _ _ _ _ _ = _ ∧ _
      rw [out]
      by_cases c1 : rmV d b s = 0
      · have ih := ih (m1, T) ⟨i1, i2, i3, sk (Or.inl c1)⟩
        rw [E_Pl_findSplits_2]
        simp (disch := omega) only [E_Pl_findSplits_4, l_0, l_1, iI_lt, iI_eq, iI_add, iI_s]
        rw [if_neg (by omega), if_pos (by omega)]
        exact ih
      · by_cases c2 : rmV d b s = 2 ^ nLf d b - 1
        · have ih := ih (m1, T) ⟨i1, i2, i3, sk (Or.inr (Or.inl c2))⟩
          rw [E_Pl_findSplits_2]
          simp (disch := omega) only [E_Pl_findSplits_4, l_0, l_1, iI_lt, iI_eq, iI_add, iI_s]
          rw [if_neg (by omega), if_neg (by omega), if_pos (by omega)]
          exact ih
        · cases er : r
          · subst er
            have ih := ih (m1, T) ⟨i1, i2, i3, sk (Or.inr (Or.inr (hr2.mp rfl)))⟩
            rw [E_Pl_findSplits_2]
            simp (disch := omega) only [E_Pl_findSplits_4, cK_48 H, okO_ov, gd_true, bnd_some, hr1, bZ_0, l_0, l_1, iI_lt, iI_eq, iI_add, iI_s, ↓reduceIte]
            rw [if_neg (by omega), if_neg (by omega), if_neg (by omega)]
            exact ih
          · subst er
            have h7 := i3.1
            have gl : ∀ j, j < T.length → (T ++ [s]).getD j 0 = T.getD j 0 := fun j hj => getD_app1 _ _ _ hj
            have gn : (T ++ [s]).getD T.length 0 = s := getD_app2 _ _ _
            have ih := ih (sV (sV (sV m1 51 T.length (iI (rmV d b s : Int))) 52 T.length (iI (s : Int))) 48 7 (iI ((T.length + 1 : Nat) : Int)), T ++ [s]) ⟨OnPl_V (OnPl_V (OnPl_V i1 _ _ (by decide) (by decide)) _ _ (by decide) (by decide)) _ _ (by decide) (by decide), by rw [sV_ne _ _ _ _ (by decide), sV_ne _ _ _ _ (by decide), sV_ne _ _ _ _ (by decide)]; exact i2, ⟨?_, fun j hj => ?_⟩, fun i j hij hj => ?_, fun j hj => ?_, fun t ht z1 z2 => ?_⟩
            · simp only at ih
              rw [E_Pl_findSplits_2]
              simp (disch := omega) only [E_Pl_findSplits_4, cK_48 H, cR_48_4 H, cR_48_5 H, cK_51 H, cN_51 H, cK_52 H, cN_52 H, okO_ov, aR_ov, aN_ov, gd_true, gd_in, iI_cl, Int.toNat_natCast, aI_ov H.1, sI_ov H.1, letT_eq, sV_ne, h7, bnd_some, hr1, bZ_0, l_0, l_1, iI_lt, iI_eq, iI_add, iI_s, reduceCtorEq, ↓reduceIte]
              rw [if_neg (by omega), if_neg (by omega), if_neg (by omega)]
              exact ih
            · rw [sV_eq, if_pos rfl, List.length_append, List.length_singleton]
            · rw [List.length_append, List.length_singleton] at hj
              by_cases e : j = T.length
              · subst e
                rw [gn]
                constructor
                · rw [sV_ne _ _ _ _ (by decide), sV_ne _ _ _ _ (by decide), sV_eq, if_pos rfl]
                · rw [sV_ne _ _ _ _ (by decide), sV_eq, if_pos rfl]
              · rw [gl j (by omega)]
                have := i3.2 j (by omega)
                constructor
                · rw [sV_ne _ _ _ _ (by decide), sV_ne _ _ _ _ (by decide), sV_eq, if_neg e]; exact this.1
                · rw [sV_ne _ _ _ _ (by decide), sV_eq, if_neg e, sV_ne _ _ _ _ (by decide)]; exact this.2
            · rw [List.length_append, List.length_singleton] at hj
              by_cases e : j = T.length
              · subst e
                rw [gn, gl i (by omega)]; exact i4.2.1 i (by omega)
              · rw [gl i (by omega), gl j (by omega)]; exact i4.1 i j hij (by omega)
            · rw [List.length_append, List.length_singleton] at hj
              by_cases e : j = T.length
              · subst e; rw [gn]; omega
              · rw [gl j (by omega)]; have := i4.2.1 j (by omega); omega
            · rw [List.length_append, List.length_singleton]
              by_cases e : t = s
              · subst e; exact ⟨T.length, by omega, by rw [gn]; exact Nat.le_refl _, by rw [gn]; exact Or.inl rfl⟩
              · obtain ⟨j, hj, z3, z4⟩ := i4.2.2 t (by omega) z1 z2
                exact ⟨j, by omega, by rw [gl j hj]; exact z3, by rw [gl j hj]; exact z4⟩
    · refine ⟨q.1, q.2, ?_, i1, i2, i3, i4⟩
      show L_Pl_findSplits_1 _ _ _ _ _ = _
      rw [E_Pl_findSplits_1]
      simp (disch := omega) only [l_64, iI_lt]
      rw [if_neg (by omega)]
  obtain ⟨m', T, e, r⟩ := l1
  refine ⟨m', T, ?_, r⟩
  unfold M_Pl_findSplits
  rw [E_Pl_findSplits_0]
  simp (disch := omega) only [l_0, l_1, l_31, hsh, iI_sub, e1, letT_eq, cK_48 H, okO_ov, gd_true, sI_ov H.1]
  exact (congrArg (mw _) e).trans (mw_ov _ _ _ _ _ _)
