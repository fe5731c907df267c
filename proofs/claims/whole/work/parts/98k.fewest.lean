/-! ===== fewest, fewestFor: both sides ===== -/
def fewX (d : TD) (b : BD) (q w c : Int) : Prop := qOk d q w ∧ (0 ≤ c ∧ c ≤ 1) ∧ nLf d b ≠ 0 ∧ nLf d b ≤ 12
def fewR (d : TD) (b : BD) (q w c r : Int) : Prop := (fewX d b q w c → r = fewA d b q.toNat w.toNat c) ∧ (¬ fewX d b q w c → r = -1)
theorem fewR_u {d : TD} {b : BD} {q w c r r' : Int} (h : fewR d b q w c r) (h' : fewR d b q w c r') : r = r' := by
  by_cases z : fewX d b q w c
  · rw [h.1 z, h'.1 z]
  · rw [h.2 z, h'.2 z]
theorem c_fewestFor {d : TD} {b : BD} {g z u : Nat} {A : Nat → Nat} {σ : AM} {m : VM} (C : CS0 d b g z u A σ m) {q w c : Int} (h1 : -2147483648 ≤ q) (h2 : q < 2147483648) (h3 : -2147483648 ≤ w) (h4 : w < 2147483648) (h5 : -2147483648 ≤ c) (h6 : c < 2147483648) : ∃ r : Int, Rf d b g (z + 2) u A σ m [0, 2, 3, 4, 5] (M_Bp_fewestFor (A 0) (iI q) (iI w) (iI c) (ov 68 A m σ)) (iI r) ∧ fewR d b q w c r := by
  have H0 := C.1
  obtain ⟨A', σ', m', e1, C', R, hX, hK, _⟩ := p_refresh C
  have H := R.1
  have h5' := RQ_5 R
  obtain ⟨rq, eq, hrq⟩ := q_Bp_isQuestion H R.2.1 R.2.2.2.1 h1 h2 h3 h4
  unfold M_Bp_fewestFor
  by_cases ok : fewX d b q w c
  · obtain ⟨m2, e2, k2, v1, v2⟩ := p_Pl_plan R ok.2.2.1 ok.2.2.2 ok.1
    refine ⟨fewA d b q.toNat w.toNat c, ⟨A', σ', m2, ?_, CS0_K (Ks_sub (OnPl_Ks k2) (by decide)) C', hX, Ks_t hK (Ks_sub (OnPl_Ks k2) (by decide))⟩, ⟨fun _ => rfl, fun z => absurd ok z⟩⟩
    rw [E_Bp_fewestFor_0]
    simp only [cK_0 H0, cR_0_4 H0, cK_35 H0, okO_ov, aR_ov, gd_true, bnd_some, e1]
    rw [← hX.1]
    refine (congrArg (mw _) ?_).trans (mw_of hX.2.1 hX.2.2.1)
    have er : rq = true := hrq.mpr ok.1
    rw [er] at eq
    obtain ⟨_, ⟨c1, c2⟩, n0, n12⟩ := ok
    have j1 : M_Pl_trials (A' 48) (ov 68 A' m2 σ') = some (iI (fewA d b q.toNat w.toNat 0), ov 68 A' m2 σ') := by rw [q_Pl_trials H, v1]
    have j2 : M_Pl_firstSet (A' 48) (ov 68 A' m2 σ') = some (iI (fewA d b q.toNat w.toNat 1), ov 68 A' m2 σ') := by rw [q_Pl_firstSet H, v2]
    simp (disch := omega) only [E_Bp_fewestFor_1, E_Bp_fewestFor_2, l_0, l_1, l_12, iI_lt, iI_eq, cK_0 H, cR_0_4 H, cR_0_6 H, cK_35 H, cK_48 H, okO_ov, aR_ov, gd_true, bnd_some, eq, bZ_0, reduceCtorEq, ↓reduceIte, q_Rs_size H, h5'.1, e2, j1, j2]
    rw [if_neg (by omega), if_neg (by omega), if_neg (by omega), if_neg (by omega)]
    by_cases z : c = 0
    · rw [if_pos z, z]
    · rw [if_neg z, show c = 1 by omega]
  · refine ⟨-1, ⟨A', σ', m', ?_, C', hX, hK⟩, ⟨fun z => absurd z ok, fun _ => rfl⟩⟩
    rw [E_Bp_fewestFor_0]
    simp only [cK_0 H0, cR_0_4 H0, cK_35 H0, okO_ov, aR_ov, gd_true, bnd_some, e1]
    rw [← hX.1]
    refine (congrArg (mw _) ?_).trans (mw_of hX.2.1 hX.2.2.1)
    cases er : rq
    · rw [er] at eq
      simp (disch := omega) only [E_Bp_fewestFor_1, l_0, l_1, iI_neg, iI_lt, cK_0 H, okO_ov, gd_true, bnd_some, eq, bZ_0, ↓reduceIte, ite_self]
    · rw [er] at eq
      have hq := hrq.mp er
      simp (disch := omega) only [E_Bp_fewestFor_1, l_0, l_1, l_12, iI_neg, iI_lt, iI_eq, cK_0 H, cR_0_4 H, cK_35 H, okO_ov, aR_ov, gd_true, bnd_some, eq, bZ_0, reduceCtorEq, ↓reduceIte, q_Rs_size H, h5'.1]
      by_cases z1 : c < 0
      · rw [if_pos z1]
      · rw [if_neg z1]
        by_cases z2 : 1 < c
        · rw [if_pos z2]
        · rw [if_neg z2]
          by_cases z3 : nLf d b = 0
          · rw [if_pos (by omega)]
          · rw [if_neg (by omega), if_pos]
            have : ¬ nLf d b ≤ 12 := fun y => ok ⟨hq, by omega, z3, y⟩
            omega
theorem c_fewest {d : TD} {b : BD} {g z u : Nat} {A : Nat → Nat} {σ : AM} {m : VM} (C : CS0 d b g z u A σ m) {c : Int} (h5 : -2147483648 ≤ c) (h6 : c < 2147483648) : ∃ r : Int, Rf d b g (z + 2) u A σ m [0, 2, 3, 4, 5] (M_Bp_fewest (A 0) (iI c) (ov 68 A m σ)) (iI r) ∧ fewR d b 0 0 c r := by
  obtain ⟨r, ⟨A', σ', m', e, C', hX, hK⟩, hr⟩ := c_fewestFor C (q := 0) (w := 0) (c := c) (by decide) (by decide) (by decide) (by decide) h5 h6
  refine ⟨r, ⟨A', σ', m', ?_, C', hX, hK⟩, hr⟩
  unfold M_Bp_fewest
  rw [E_Bp_fewest_0]
  simp only [cK_0 C.1, okO_ov, gd_true, l_0, e, bnd_some]
  exact mw_of hX.2.1 hX.2.2.1
/-! the reference -/
theorem q_Md_isQuestion {A : Nat → Nat} {σ : AM} (H : LM A σ) {m : VM} {d : TD} (hd : wfD d) (hT : MT d m) {q w : Int} (h1 : -2147483648 ≤ q) (h2 : q < 2147483648) (h3 : -2147483648 ≤ w) (h4 : w < 2147483648) : ∃ r : Bool, M_Md_isQuestion (A 0) (iI q) (iI w) (ov 40 A m σ) = some (bZ r, (ov 40 A m σ)) ∧ (r = true ↔ qOk d q w) := by
  have hT6 := hd.1
  have f2 : ∀ r : Bool, L_Md_isQuestion_2 (bZ r) (ov 40 A m σ) = some (bZ r, (ov 40 A m σ)) := fun r => by rw [E_Md_isQuestion_2, isB_bZ, gd_true]
  have f4 : ∀ r : Bool, L_Md_isQuestion_4 (bZ r) (ov 40 A m σ) = some (bZ r, (ov 40 A m σ)) := fun r => by rw [E_Md_isQuestion_4, isB_bZ, gd_true]
  have f20 : L_Md_isQuestion_2 (iI 0) (ov 40 A m σ) = some (bZ false, (ov 40 A m σ)) := f2 false
  have f21 : L_Md_isQuestion_2 (iI 1) (ov 40 A m σ) = some (bZ true, (ov 40 A m σ)) := f2 true
  have f40 : L_Md_isQuestion_4 (iI 0) (ov 40 A m σ) = some (bZ false, (ov 40 A m σ)) := f4 false
  have f41 : L_Md_isQuestion_4 (iI 1) (ov 40 A m σ) = some (bZ true, (ov 40 A m σ)) := f4 true
  unfold M_Md_isQuestion qOk
  by_cases c0 : q = 0
  · subst c0
    refine ⟨true, ?_, ⟨fun _ => Or.inl rfl, fun _ => rfl⟩⟩
    rw [E_Md_isQuestion_0]
    simp only [l_0, l_1, ↓reduceIte, mw_ov]; rfl
  by_cases c1 : q = 1
  · subst c1
    have hh := q_Md_isThing H hd hT h3 h4
    refine ⟨decide (0 ≤ w ∧ w < (dT d : Int)), ?_, ?_⟩
    · rw [E_Md_isQuestion_0]
      simp (disch := omega) only [l_0, l_1, iI_eq, mK_0 H, okO_ov, gd_true, bnd_some, hh, isB_bZ, Int.reduceEq, ↓reduceIte, mw_ov]
    · rw [decide_eq_true_iff]
      constructor
      · intro z; exact Or.inr (Or.inr (Or.inl ⟨rfl, z⟩))
      · intro z; rcases z with z | z | z | z | z
        · omega
        · omega
        · exact z.2
        · omega
        · omega
  by_cases c2 : q = 2
  · subst c2
    by_cases hw : 0 ≤ w
    · obtain ⟨n, rfl⟩ := Int.eq_ofNat_of_zero_le hw
      have hq : n / 6 ≤ n := Nat.div_le_self _ _
      have hm : n % 6 < 6 := Nat.mod_lt _ (by omega)
      have e1 : iI (n : Int) / iI 6 = iI ((n / 6 : Nat) : Int) := iI_div (a := n) (b := 6) (by omega) (by omega)
      have e2 : iI (n : Int) - iI ((n / 6 : Nat) : Int) * iI 6 = iI ((n % 6 : Nat) : Int) := iI_mod (a := n) (b := 6) (by omega) (by omega)
      have t1 := q_Md_isThing H hd hT (a := ((n / 6 : Nat) : Int)) (by omega) (by omega)
      have t2 := q_Md_isThing H hd hT (a := ((n % 6 : Nat) : Int)) (by omega) (by omega)
      rw [Int.toNat_natCast]
      generalize n / 6 = x at *
      generalize n % 6 = y at *
      refine ⟨decide (x < dT d ∧ y < dT d ∧ x ≠ y), ?_, ?_⟩
      · rw [E_Md_isQuestion_0]
        simp (disch := omega) only [E_Md_isQuestion_1, l_0, l_1, l_2, l_6, iI_eq, iI_lt, e1, e2, mK_0 H, okO_ov, gd_true, bnd_some, t1, t2, bZ_0, f20, f21, Int.reduceEq, ↓reduceIte, mw_ov]
        rw [if_neg (by omega)]
        by_cases z1 : x < dT d
        · rw [decide_eq_true (show 0 ≤ (x : Int) ∧ (x : Int) < (dT d : Int) by omega), if_neg (by decide)]
          by_cases z2 : y < dT d
          · rw [decide_eq_true (show 0 ≤ (y : Int) ∧ (y : Int) < (dT d : Int) by omega), if_neg (by decide)]
            by_cases z3 : x = y
            · rw [if_pos (by omega), decide_eq_false (fun z => z.2.2 z3), mw_ov]
            · rw [if_neg (by omega), decide_eq_true ⟨z1, z2, z3⟩, mw_ov]
          · rw [decide_eq_false (show ¬ (0 ≤ (y : Int) ∧ (y : Int) < (dT d : Int)) by omega), if_pos rfl, decide_eq_false (fun z => z2 z.2.1), mw_ov]
        · rw [decide_eq_false (show ¬ (0 ≤ (x : Int) ∧ (x : Int) < (dT d : Int)) by omega), if_pos rfl, decide_eq_false (fun z => z1 z.1), mw_ov]
      · rw [decide_eq_true_iff]
        constructor
        · intro z; exact Or.inr (Or.inr (Or.inr (Or.inl ⟨rfl, hw, z⟩)))
        · intro z; rcases z with z | z | z | z | z
          · omega
          · omega
          · omega
          · exact z.2.2
          · omega
    · refine ⟨false, ?_, ⟨fun z => absurd z (by decide), fun z => by omega⟩⟩
      rw [E_Md_isQuestion_0]
      simp (disch := omega) only [E_Md_isQuestion_1, l_0, l_1, l_2, iI_eq, iI_lt, f20, Int.reduceEq, ↓reduceIte]
      rw [if_pos (by omega), mw_ov]
  by_cases c3 : q = 3
  · subst c3
    have hh := q_Md_isSet H hd hT h3 h4
    refine ⟨decide (0 ≤ w ∧ w < (sN d : Int)), ?_, ?_⟩
    · rw [E_Md_isQuestion_0]
      simp (disch := omega) only [E_Md_isQuestion_3, l_0, l_1, l_2, l_3, iI_eq, mK_0 H, okO_ov, gd_true, bnd_some, hh, bZ_0, f40, f41, Int.reduceEq, ↓reduceIte]
      by_cases z : 0 ≤ w ∧ w < (sN d : Int)
      · rw [decide_eq_true z, if_neg (by decide), mw_ov]
      · rw [decide_eq_false z, if_pos rfl, mw_ov]
    · rw [decide_eq_true_iff]
      constructor
      · intro z; exact Or.inr (Or.inr (Or.inr (Or.inr ⟨rfl, z⟩)))
      · intro z; rcases z with z | z | z | z | z
        · omega
        · omega
        · omega
        · omega
        · exact z.2
  by_cases c4 : q = 4
  · subst c4
    refine ⟨true, ?_, ⟨fun _ => Or.inr (Or.inl rfl), fun _ => rfl⟩⟩
    rw [E_Md_isQuestion_0]
    simp (disch := omega) only [l_0, l_1, l_2, l_3, l_4, iI_eq, Int.reduceEq, ↓reduceIte, mw_ov]; rfl
  · refine ⟨false, ?_, ⟨fun z => absurd z (by decide), fun z => by omega⟩⟩
    rw [E_Md_isQuestion_0]
    simp (disch := omega) only [E_Md_isQuestion_3, l_0, l_1, l_2, l_3, l_4, iI_eq, f40]
    rw [if_neg c0, if_neg c1, if_neg c2, if_neg c3, if_neg c4, if_neg c3, mw_ov]
