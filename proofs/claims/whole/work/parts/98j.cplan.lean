/-! ===== the fewest trials: the class's search ===== -/
def memo (n c : Nat) (F : Nat → Nat) (m : VM) : Prop := ∀ S, S < 2 ^ n → m.1 c S = iI (-1) ∨ m.1 c S = iI (F S : Int)
theorem alk_of {n : Nat} {ans : Nat → Int32} {S i : Nat} (h : S < 2 ^ n) (hi : i < n) (hb : S.testBit i = true) : sdf S (grp n ans i) = 0 ↔ alk n ans S = true := by
  rw [alk_iff]
  constructor
  · intro z
    have key : ∀ j, j < n → S.testBit j = true → ans j = ans i := fun j hj h1 => by
      have a := congrArg (fun x => x.testBit j) z
      simp only [tb_sdf, grp, tb_mkN, h1, decide_eq_true hj, Bool.true_and, Nat.zero_testBit, Bool.not_eq_false', decide_eq_true_eq] at a
      exact a
    intro j k hj hk h1 h2
    rw [key j hj h1, key k hk h2]
  · intro z
    refine n_ext (sdf_lt h _) (fun j hj => ?_)
    rw [tb_sdf]
    unfold grp
    rw [tb_mkN, decide_eq_true hj, Bool.true_and]
    cases q : S.testBit j
    · rfl
    · rw [decide_eq_true (z j i hj hi q hb)]; rfl
theorem q_Pl_isAlike {A : Nat → Nat} {σ : AM} (H : LC A σ) {m : VM} {n : Nat} (hn : n ≤ 12) {ans : Nat → Int32} (h50 : ∀ i, i < n → m.1 50 i = iI ((grp n ans i : Nat) : Int)) {S : Nat} (hS : S < 2 ^ n) : M_Pl_isAlike (A 48) (iI (S : Int)) (ov 68 A m σ) = some (bZ (alk n ans S), (ov 68 A m σ)) := by
  have h4 : 2 ^ n ≤ 4096 := Nat.le_trans (Nat.pow_le_pow_right (by omega) hn) (by decide)
  have l1 : L_Pl_isAlike_1 (A 48) (iI (S : Int)) (iI ((0 : Nat) : Int)) (ov 68 A m σ) = some (bZ (alk n ans S), (ov 68 A m σ)) := by
    refine up_loopI (fun k (_ : Unit) => L_Pl_isAlike_1 (A 48) (iI (S : Int)) (iI (k : Int)) (ov 68 A m σ)) (fun k _ => ∀ j, j < k → S.testBit j = false) (fun X => X = some (bZ (alk n ans S), (ov 68 A m σ))) 12 (fun k _ hk hI ih => ?_) (fun _ hI => ?_) 0 () (Nat.zero_le _) (fun j hj => absurd hj (Nat.not_lt_zero j))
    · have hb := iI_bit (S := S) (i := k) (by omega) (by omega)
      show L_Pl_isAlike_1 _ _ _ _ = _
      cases q : S.testBit k
      · rw [q] at hb
        replace hb : _ = iI 0 := hb
        rw [E_Pl_isAlike_1]
        simp (disch := omega) only [l_0, l_1, l_12, l_31, iI_lt, iI_add, iI_s, hb, ↓reduceIte]
        rw [if_pos (by omega)]
        refine ih () (fun j hj => ?_)
        by_cases e : j = k
        · rw [e]; exact q
        · exact hI j (by omega)
      · rw [q] at hb
        replace hb : _ = iI 1 := hb
        have hkn : k < n := by
          rcases Nat.lt_or_ge k n with z | z
          · exact z
          · rw [Nat.testBit_lt_two_pow (Nat.lt_of_lt_of_le hS (Nat.pow_le_pow_right (by omega) z))] at q; cases q
        have hsd := sdf_lt hS (grp n ans k)
        have hal := alk_of (ans := ans) hS hkn q
        rw [E_Pl_isAlike_1]
        simp (disch := omega) only [E_Pl_isAlike_2, l_0, l_1, l_12, l_31, iI_neg, iI_lt, iI_eq, hb, cK_48 H, cR_48_3 H, cK_50 H, cN_50 H, okO_ov, aR_ov, aN_ov, gd_true, gd_in, iI_cl, Int.toNat_natCast, aI_ov H.1, h50 k hkn, iI_sdf, isB_0, isB_1]
        rw [if_pos (by omega), if_neg (by decide)]
        by_cases c : sdf S (grp n ans k) = 0
        · rw [if_pos (by omega), hal.mp c]; rfl
        · rw [if_neg (by omega)]
          cases q2 : alk n ans S
          · rfl
          · exact absurd (hal.mpr q2) c
    · have : S = 0 := n_ext hS (fun i hi => hI i (by omega))
      subst this
      show L_Pl_isAlike_1 _ _ _ _ = _
      rw [E_Pl_isAlike_1]
      simp (disch := omega) only [l_1, l_12, iI_lt]
      rw [if_neg (by omega), alk_0]; rfl
  unfold M_Pl_isAlike
  rw [E_Pl_isAlike_0]
  exact (congrArg (mw _) l1).trans (mw_ov _ _ _ _ _ _)
def dbV (F rm : Nat → Nat) (S s B : Nat) : Nat := if S &&& rm s = 0 ∨ sdf S (rm s) = 0 then B else if 1 + F (S &&& rm s) < B then max (1 + F (S &&& rm s)) (1 + F (sdf S (rm s))) else B
theorem dbV_min {F rm : Nat → Nat} {S s B : Nat} (hB : B ≤ 99) : (if dbV F rm S s B < B then dbV F rm S s B else B) = (if byV F rm S s < B then byV F rm S s else B) := by
  unfold dbV byV
  by_cases c : S &&& rm s = 0 ∨ sdf S (rm s) = 0
  · rw [if_pos c, if_pos c, if_neg (by omega), if_neg (by omega)]
  · rw [if_neg c, if_neg c]
    generalize F (S &&& rm s) = x
    generalize F (sdf S (rm s)) = y
    by_cases c2 : 1 + x < B
    · rw [if_pos c2]
      have : max (1 + x) (1 + y) = 1 + max x y := by omega
      rw [this]
    · rw [if_neg c2, if_neg (by omega), if_neg (by omega)]
theorem dbV_eq {F rm : Nat → Nat} {S s B v : Nat} (hB : B ≤ 99) (hv : v < B) : dbV F rm S s B = v ↔ byV F rm S s = v := by
  unfold dbV byV
  by_cases c : S &&& rm s = 0 ∨ sdf S (rm s) = 0
  · rw [if_pos c, if_pos c]; omega
  · rw [if_neg c, if_neg c]
    generalize F (S &&& rm s) = x
    generalize F (sdf S (rm s)) = y
    by_cases c2 : 1 + x < B
    · rw [if_pos c2]; omega
    · rw [if_neg c2]; omega
/-- a table that the search may read -/
def plK (n : Nat) (ans : Nat → Int32) (rm : Nat → Nat) (T : List Nat) (m : VM) : Prop := splE rm T m ∧ (∀ i, i < n → m.1 50 i = iI ((grp n ans i : Nat) : Int)) ∧ memo n 53 (fw n ans rm) m
theorem plK_S {n : Nat} {ans : Nat → Int32} {rm : Nat → Nat} {T : List Nat} {m m' : VM} (h : plK n ans rm T m) (k : OnS 53 m m') (hm : memo n 53 (fw n ans rm) m') : plK n ans rm T m' := ⟨⟨by rw [k.1 48 (by decide)]; exact h.1.1, fun j hj => ⟨by rw [k.1 51 (by decide)]; exact (h.1.2 j hj).1, by rw [k.1 52 (by decide)]; exact (h.1.2 j hj).2⟩⟩, fun i hi => by rw [k.1 50 (by decide)]; exact h.2.1 i hi, hm⟩
theorem OnS_t {c : Nat} {x y z : VM} (h : OnS c x y) (k : OnS c y z) : OnS c x z := ⟨fun a ha => (k.1 a ha).trans (h.1 a ha), k.2.trans h.2⟩
theorem OnS_r (c : Nat) (x : VM) : OnS c x x := ⟨fun _ _ => rfl, rfl⟩
/-- what a step down gives -/
def dOk (n : Nat) (ans : Nat → Int32) (rm : Nat → Nat) (T : List Nat) (A : Nat → Nat) (σ : AM) (rec : Nat → Int32 → Int32 → AM → Option (Int32 × AM)) (S lev : Nat) : Prop := ∀ m, plK n ans rm T m → ∃ m' : VM, rec (A 48) (iI (S : Int)) (iI (lev : Int)) (ov 68 A m σ) = some (iI (fw n ans rm S : Int), (ov 68 A (m') σ)) ∧ OnS 53 m m' ∧ memo n 53 (fw n ans rm) m'
theorem Pl_depthBy0 {A : Nat → Nat} {σ : AM} (H : LC A σ) {n : Nat} (hn : n ≤ 12) {ans : Nat → Int32} {rm : Nat → Nat} (hD : dst n rm) (hr : ∀ s, rm s < 2 ^ n) {T : List Nat} (hT : T.length ≤ 64) (rec : GT_Pl_depthBy_Pl_depthOf) {S lev : Nat} (hS : S < 2 ^ n) (hl : lev ≤ 12) {j : Nat} (hj : j < T.length) {B : Nat} (hB : B ≤ 13) (IH : S &&& rm (T.getD j 0) ≠ 0 → sdf S (rm (T.getD j 0)) ≠ 0 → dOk n ans rm T A σ rec.2 (S &&& rm (T.getD j 0)) (lev + 1) ∧ dOk n ans rm T A σ rec.2 (sdf S (rm (T.getD j 0))) (lev + 1)) {m : VM} (hm : plK n ans rm T m) : ∃ m' : VM, L_Pl_depthBy_0 rec (A 48) (iI (j : Int)) (iI (S : Int)) (iI (lev : Int)) (iI (B : Int)) (ov 68 A m σ) = some (iI (dbV (fw n ans rm) rm S (T.getD j 0) B : Int), (ov 68 A (m') σ)) ∧ OnS 53 m m' ∧ memo n 53 (fw n ans rm) m' := by
  have h4 : 2 ^ n ≤ 4096 := Nat.le_trans (Nat.pow_le_pow_right (by omega) hn) (by decide)
  have h51 := (hm.1.2 j hj).1
  have a1 := and_lt hS (rm (T.getD j 0))
  have a2 := sdf_lt hS (rm (T.getD j 0))
  have f1 := fw_le (ans := ans) hn hD a1
  have f2 := fw_le (ans := ans) hn hD a2
  unfold dbV
  by_cases c : S &&& rm (T.getD j 0) = 0 ∨ sdf S (rm (T.getD j 0)) = 0
  · rw [if_pos c]
    refine ⟨m, ?_, OnS_r _ _, hm.2.2⟩
    rw [E_Pl_depthBy_0]
    simp (disch := omega) only [E_Pl_depthBy_1, cK_48 H, cR_48_4 H, cK_51 H, cN_51 H, okO_ov, aR_ov, aN_ov, gd_true, gd_in, iI_cl, Int.toNat_natCast, aI_ov H.1, h51, letT_eq, iI_and, l_0, l_1, iI_neg, iI_sdf, iI_eq]
    by_cases c1 : S &&& rm (T.getD j 0) = 0
    · rw [if_pos (by omega)]
    · have c2 : sdf S (rm (T.getD j 0)) = 0 := c.elim (fun z => absurd z c1) id
      rw [if_neg (by omega), if_pos (by omega)]
  · rw [if_neg c]
    have c1 : ¬ S &&& rm (T.getD j 0) = 0 := fun z => c (Or.inl z)
    have c2 : ¬ sdf S (rm (T.getD j 0)) = 0 := fun z => c (Or.inr z)
    obtain ⟨i1, i2⟩ := IH c1 c2
    obtain ⟨m1, e1, k1, k2⟩ := i1 m hm
    by_cases c3 : 1 + fw n ans rm (S &&& rm (T.getD j 0)) < B
    · rw [if_pos c3]
      obtain ⟨m2, e2, q1, q2⟩ := i2 m1 (plK_S hm k1 k2)
      have emx : mxI (iI (((1 + fw n ans rm (S &&& rm (T.getD j 0)) : Nat)) : Int)) (iI ((1 + fw n ans rm (sdf S (rm (T.getD j 0))) : Nat) : Int)) = iI ((max (1 + fw n ans rm (S &&& rm (T.getD j 0))) (1 + fw n ans rm (sdf S (rm (T.getD j 0)))) : Nat) : Int) := by
        rw [mxI_iI (by omega) (by omega) (by omega) (by omega)]
        congr 1
        split <;> omega
      refine ⟨m2, ?_, OnS_t k1 q1, q2⟩
      have n1 : iI 1 + iI (fw n ans rm (S &&& rm (T.getD j 0)) : Int) = iI ((1 + fw n ans rm (S &&& rm (T.getD j 0)) : Nat) : Int) := iI_add _ _
      have n2 : iI 1 + iI (fw n ans rm (sdf S (rm (T.getD j 0))) : Int) = iI ((1 + fw n ans rm (sdf S (rm (T.getD j 0))) : Nat) : Int) := iI_add _ _
      rw [E_Pl_depthBy_0]
      simp (disch := omega) only [cK_48 H, cR_48_4 H, cK_51 H, cN_51 H, okO_ov, aR_ov, aN_ov, gd_true, gd_in, iI_cl, Int.toNat_natCast, aI_ov H.1, h51, letT_eq, iI_and, l_0, l_1, iI_neg, iI_sdf, iI_eq, iI_add (lev : Int) 1, iI_s, e1, e2, bnd_some, n1, n2, emx, iI_lt]
      rw [if_neg (by omega), if_neg (by omega), if_pos (by omega)]
    · rw [if_neg c3]
      refine ⟨m1, ?_, k1, k2⟩
      have n1 : iI 1 + iI (fw n ans rm (S &&& rm (T.getD j 0)) : Int) = iI ((1 + fw n ans rm (S &&& rm (T.getD j 0)) : Nat) : Int) := iI_add _ _
      rw [E_Pl_depthBy_0]
      simp (disch := omega) only [cK_48 H, cR_48_4 H, cK_51 H, cN_51 H, okO_ov, aR_ov, aN_ov, gd_true, gd_in, iI_cl, Int.toNat_natCast, aI_ov H.1, h51, letT_eq, iI_and, l_0, l_1, iI_neg, iI_sdf, iI_eq, iI_add (lev : Int) 1, iI_s, e1, bnd_some, n1, iI_lt]
      rw [if_neg (by omega), if_neg (by omega), if_neg (by omega)]
theorem nar_by {v : Nat} (h : v ≤ 12) : vp_nar .byte ((iI (v : Int)).toInt8.toInt32) = iI (v : Int) := by
  have : ∀ v : Fin 13, vp_nar .byte ((iI (v.val : Int)).toInt8.toInt32) = iI (v.val : Int) := by decide +kernel
  exact this ⟨v, by omega⟩
/-- the best of the splits tried so far -/
def bI (F rm : Nat → Nat) (S : Nat) (T : List Nat) (k best : Nat) : Prop := 1 ≤ best ∧ best ≤ 12 ∧ (∀ j, j < k → best ≤ byV F rm S (T.getD j 0)) ∧ (best = 12 ∨ ∃ j, j < k ∧ best = byV F rm S (T.getD j 0))
theorem bI_end {n : Nat} {ans : Nat → Int32} {rm : Nat → Nat} (hn : n ≤ 12) (hD : dst n rm) {T : List Nat} (hc : cov n rm 64 T) {S : Nat} (hS : S < 2 ^ n) (hA : ¬ alk n ans S = true) {k best : Nat} (hk : k ≤ T.length) (h : bI (fw n ans rm) rm S T k best) (he : k = T.length ∨ best ≤ 1) : best = fw n ans rm S := by
  obtain ⟨h1, h2, h3, h4⟩ := h
  obtain ⟨m1, ⟨s, hs, m2⟩, m3⟩ := fw_min (ans := ans) hn hD hS hA
  have all : ∀ s, s < 64 → best ≤ byV (fw n ans rm) rm S s := fun s hs => by
    rcases he with e | e
    · subst e
      by_cases z1 : rm s = 0
      · have : byV (fw n ans rm) rm S s = 99 := if_pos (Or.inl (by rw [z1, Nat.and_zero]))
        omega
      · by_cases z2 : rm s = 2 ^ n - 1
        · have : sdf S (rm s) = 0 := n_ext (sdf_lt hS _) (fun i hi => by rw [tb_sdf, z2, Nat.testBit_two_pow_sub_one, decide_eq_true hi, Bool.not_true, Bool.and_false])
          have : byV (fw n ans rm) rm S s = 99 := if_pos (Or.inr this)
          omega
        · obtain ⟨j, hj, _, z3⟩ := hc.2.2 s hs z1 z2
          have := h3 j hj
          rcases z3 with z3 | z3
          · have e : byV (fw n ans rm) rm S (T.getD j 0) = byV (fw n ans rm) rm S s := by unfold byV; rw [z3]
            omega
          · have e := byV_sym (f := fw n ans rm) hS z3
            omega
    · have := byV_1 (fw n ans rm) rm S s
      omega
  have := all s hs
  rcases h4 with h4 | ⟨j, hj, h4⟩
  · omega
  · have := m3 (T.getD j 0) (hc.2.1 j (by omega))
    omega
theorem Pl_depth {A : Nat → Nat} {σ : AM} (H : LC A σ) {n : Nat} (hn : n ≤ 12) {ans : Nat → Int32} {rm : Nat → Nat} (hD : dst n rm) (hr : ∀ s, rm s < 2 ^ n) {T : List Nat} (hc : cov n rm 64 T) : ∀ (k f S lev : Nat), S < 2 ^ n → pcN n S ≤ k → lev + pcN n S ≤ 12 → 2 * k + 1 ≤ f → dOk n ans rm T A σ (Q_Pl_depthBy_Pl_depthOf f).2 S lev := by
  have h4 : 2 ^ n ≤ 4096 := Nat.le_trans (Nat.pow_le_pow_right (by omega) hn) (by decide)
  have hlen := cov_len hc
  intro k
  induction k with
  | zero =>
    intro f S lev hS hk hl hf m hm
    have := pcN_0 hS (by omega)
    subst this
    obtain ⟨f, rfl⟩ : ∃ g, f = g + 1 := ⟨f - 1, by omega⟩
    refine ⟨m, ?_, OnS_r _ _, hm.2.2⟩
    show mw _ (L_Pl_depthOf_0 _ _ _ _ _) = _
    rw [fw_0]
    rw [E_Pl_depthOf_0]
    simp (disch := omega) only [E_Pl_depthOf_1, l_0, iI_eq]
    rw [if_pos (by omega), mw_ov]
    rfl
  | succ k ih =>
    intro f S lev hS hk hl hf m hm
    obtain ⟨f, rfl⟩ : ∃ g, f = g + 1 + 1 := ⟨f - 2, by omega⟩
    have hfw := fw_le (ans := ans) hn hD hS
    by_cases c0 : S = 0
    · subst c0
      refine ⟨m, ?_, OnS_r _ _, hm.2.2⟩
      show mw _ (L_Pl_depthOf_0 _ _ _ _ _) = _
      rw [fw_0, E_Pl_depthOf_0]
      simp (disch := omega) only [E_Pl_depthOf_1, l_0, iI_eq]
      rw [if_pos (by omega), mw_ov]
      rfl
    have wr : ∀ (m1 : VM) (v : Nat), OnS 53 m m1 → memo n 53 (fw n ans rm) m1 → v = fw n ans rm S → L_Pl_depthOf_3 (Q_Pl_depthBy_Pl_depthOf (f + 1)) (A 48) (iI (S : Int)) (iI (v : Int)) (ov 68 A m1 σ) = some (iI (fw n ans rm S : Int), (ov 68 A (sV m1 53 S (iI (v : Int))) σ)) ∧ OnS 53 m (sV m1 53 S (iI (v : Int))) ∧ memo n 53 (fw n ans rm) (sV m1 53 S (iI (v : Int))) := by
      intro m1 v k1 k2 hv
      refine ⟨?_, ⟨fun a ha => by rw [sV_ne _ _ _ _ ha]; exact k1.1 a ha, k1.2⟩, fun S' hS' => ?_⟩
      · rw [E_Pl_depthOf_3, nar_by (by omega)]
        simp (disch := omega) only [cK_48 H, cR_48_6 H, cK_53 H, cN_53 H, okO_ov, aR_ov, aN_ov, gd_true, gd_in, iI_cl, Int.toNat_natCast, sI_ov H.1, letT_eq]
        rw [hv]
      · rw [sV_eq]
        by_cases e : S' = S
        · rw [if_pos e, e, hv]; exact Or.inr rfl
        · rw [if_neg e]; exact k2 S' hS'
    by_cases c1 : m.1 53 S = iI (-1)
    · have hal := q_Pl_isAlike H hn hm.2.1 hS
      by_cases cA : alk n ans S = true
      · rw [cA] at hal
        have e0 : fw n ans rm S = 0 := by rw [fw_e hS, if_pos cA]
        have w := wr m 0 (OnS_r _ _) hm.2.2 e0.symm
        refine ⟨_, ?_, w.2⟩
        show mw _ (L_Pl_depthOf_0 _ _ _ _ _) = _
        replace w : L_Pl_depthOf_3 _ _ _ (iI 0) _ = _ := w.1
        rw [E_Pl_depthOf_0]
        simp (disch := omega) only [l_0, l_12, iI_eq, iI_lt, cK_48 H, cR_48_6 H, cK_53 H, cN_53 H, okO_ov, aR_ov, aN_ov, gd_true, gd_in, iI_cl, Int.toNat_natCast, aI_ov H.1, c1, hal, bnd_some, bZ_0, reduceCtorEq, ↓reduceIte, w]
        rw [if_neg (by omega), if_neg (by omega), if_pos (by omega), mw_ov]
      · have cA' : alk n ans S = false := by cases q : alk n ans S with | false => rfl | true => exact absurd q cA
        rw [cA'] at hal
        have lp : ∃ m' : VM, L_Pl_depthOf_2 (Q_Pl_depthBy_Pl_depthOf (f + 1)) (A 48) (iI (S : Int)) (iI (lev : Int)) (iI ((12 : Nat) : Int)) (iI ((0 : Nat) : Int)) (ov 68 A m σ) = some (iI (fw n ans rm S : Int), (ov 68 A (m') σ)) ∧ OnS 53 m m' ∧ memo n 53 (fw n ans rm) m' := by
          refine up_loopI (fun i (q : VM × Nat) => L_Pl_depthOf_2 (Q_Pl_depthBy_Pl_depthOf (f + 1)) (A 48) (iI (S : Int)) (iI (lev : Int)) (iI (q.2 : Int)) (iI (i : Int)) (ov 68 A (q.1) σ)) (fun i q => OnS 53 m q.1 ∧ memo n 53 (fw n ans rm) q.1 ∧ bI (fw n ans rm) rm S T i q.2) (fun X => ∃ m' : VM, X = some (iI (fw n ans rm S : Int), (ov 68 A (m') σ)) ∧ OnS 53 m m' ∧ memo n 53 (fw n ans rm) m') T.length (fun i q hi ⟨i1, i2, i3⟩ ihl => ?_) (fun q ⟨i1, i2, i3⟩ => ?_) 0 (m, 12) (Nat.zero_le _) ⟨OnS_r _ _, hm.2.2, by omega, by omega, fun j hj => absurd hj (Nat.not_lt_zero j), Or.inl rfl⟩
          · obtain ⟨m1, best⟩ := q
            simp only at i1 i2 i3
            have hm1 := plK_S hm i1 i2
            have b1 := i3.1
            have b2 := i3.2.1
            show ∃ m' : VM, L_Pl_depthOf_2 _ _ _ _ _ _ _ = _ ∧ _
            by_cases cb : 1 < best
            · obtain ⟨m2, e2, k1, k2⟩ := Pl_depthBy0 H hn hD hr hlen (Q_Pl_depthBy_Pl_depthOf f) hS (lev := lev) (by omega) hi (B := best) (by omega) (fun z1 z2 => by
                have p := parts_pc hS z1 z2
                exact ⟨ih f _ _ (and_lt hS _) (by omega) (by omega) (by omega), ih f _ _ (sdf_lt hS _) (by omega) (by omega) (by omega)⟩) hm1
              have hmn := dbV_min (F := fw n ans rm) (rm := rm) (S := S) (s := T.getD i 0) (B := best) (by omega)
              have hdb : dbV (fw n ans rm) rm S (T.getD i 0) best ≤ 100 := by
                unfold dbV
                have f1 := fw_le (ans := ans) hn hD (and_lt hS (rm (T.getD i 0)))
                have f2 := fw_le (ans := ans) hn hD (sdf_lt hS (rm (T.getD i 0)))
                split
                · omega
                · split <;> omega
              have eby : (Q_Pl_depthBy_Pl_depthOf (f + 1)).1 (A 48) (iI (i : Int)) (iI (S : Int)) (iI (lev : Int)) (iI (best : Int)) (ov 68 A m1 σ) = some (iI (dbV (fw n ans rm) rm S (T.getD i 0) best : Int), (ov 68 A m2 σ)) := by
                show mw _ (L_Pl_depthBy_0 _ _ _ _ _ _ _) = _
                rw [e2, mw_ov]
              have hmin : mnI (iI (best : Int)) (iI (dbV (fw n ans rm) rm S (T.getD i 0) best : Int)) = iI ((if byV (fw n ans rm) rm S (T.getD i 0) < best then byV (fw n ans rm) rm S (T.getD i 0) else best : Nat) : Int) := by
                rw [mnI_iI (by omega) (by omega) (by omega) (by omega), ← hmn]
                congr 1
                by_cases z : dbV (fw n ans rm) rm S (T.getD i 0) best < best
                · rw [if_pos (by omega), if_pos z]
                · rw [if_neg (by omega), if_neg z]
              have h1v := byV_1 (fw n ans rm) rm S (T.getD i 0)
              have ihl := ihl (m2, if byV (fw n ans rm) rm S (T.getD i 0) < best then byV (fw n ans rm) rm S (T.getD i 0) else best) ⟨OnS_t i1 k1, k2, by split <;> omega, by split <;> omega, fun j hj => ?_, ?_⟩
              · rw [E_Pl_depthOf_2]
                simp (disch := omega) only [cK_48 H, okO_ov, gd_true, aI_ov H.1, hm1.1.1, l_1, iI_lt, eby, bnd_some, letT_eq, hmin, iI_add, iI_s]
                rw [if_pos (by omega), if_pos (by omega)]
                exact ihl
              · by_cases e : j = i
                · subst e; split <;> omega
                · have := i3.2.2.1 j (by omega)
                  split <;> omega
              · by_cases z : byV (fw n ans rm) rm S (T.getD i 0) < best
                · rw [if_pos z]; exact Or.inr ⟨i, by omega, rfl⟩
                · rw [if_neg z]
                  rcases i3.2.2.2 with y | ⟨j, hj, y⟩
                  · exact Or.inl y
                  · exact Or.inr ⟨j, by omega, y⟩
            · have e := bI_end hn hD hc hS cA (Nat.le_of_lt hi) i3 (Or.inr (by omega))
              have w := wr m1 best i1 i2 e
              refine ⟨_, ?_, w.2⟩
              rw [E_Pl_depthOf_2]
              simp (disch := omega) only [cK_48 H, okO_ov, gd_true, aI_ov H.1, hm1.1.1, l_1, iI_lt]
              rw [if_pos (by omega), if_neg (by omega)]
              exact w.1
          · obtain ⟨m1, best⟩ := q
            simp only at i1 i2 i3
            have hm1 := plK_S hm i1 i2
            have e := bI_end hn hD hc hS cA (Nat.le_refl _) i3 (Or.inl rfl)
            have w := wr m1 best i1 i2 e
            refine ⟨_, ?_, w.2⟩
            show L_Pl_depthOf_2 _ _ _ _ _ _ _ = _
            rw [E_Pl_depthOf_2]
            simp (disch := omega) only [cK_48 H, okO_ov, gd_true, aI_ov H.1, hm1.1.1, l_1, iI_lt]
            rw [if_neg (by omega)]
            exact w.1
        obtain ⟨m', e, r⟩ := lp
        refine ⟨m', ?_, r⟩
        show mw _ (L_Pl_depthOf_0 _ _ _ _ _) = _
        replace e : L_Pl_depthOf_2 _ _ _ _ (iI 12) (iI 0) _ = _ := e
        rw [E_Pl_depthOf_0]
        simp (disch := omega) only [l_0, l_12, iI_eq, iI_lt, cK_48 H, cR_48_6 H, cK_53 H, cN_53 H, okO_ov, aR_ov, aN_ov, gd_true, gd_in, iI_cl, Int.toNat_natCast, aI_ov H.1, c1, hal, bnd_some, bZ_0, ↓reduceIte, e]
        rw [if_neg (by omega), if_neg (by omega), if_pos (by omega), mw_ov]
    · have e1 : m.1 53 S = iI (fw n ans rm S : Int) := (hm.2.2 S hS).elim (fun z => absurd z c1) id
      refine ⟨m, ?_, OnS_r _ _, hm.2.2⟩
      show mw _ (L_Pl_depthOf_0 _ _ _ _ _) = _
      rw [E_Pl_depthOf_0]
      simp (disch := omega) only [l_0, l_12, iI_eq, iI_lt, cK_48 H, cR_48_6 H, cK_53 H, cN_53 H, okO_ov, aR_ov, aN_ov, gd_true, gd_in, iI_cl, Int.toNat_natCast, aI_ov H.1, e1]
      rw [if_neg (by omega), if_neg (by omega), if_neg (by omega), mw_ov]
theorem q_fill3 {n : Nat} {A : Nat → Nat} {σ : AM} (hA : Inj n A) (m : VM) {c : Nat} (hc : c < n) (hk : aK σ (A c) = 105) {N : Nat} (hl : aN σ (A c) = N) {k : Nat} (hkN : k ≤ N) (hN : N < 2147483648) : M_JArr_fill3 (A c) (iI 0) (iI (k : Int)) (iI (-1)) (ov n A m σ) = some ((), ov n A (fillV m c k (iI (-1))) σ) := by
  have hrc : M_JArr_rangeCheck (iI (N : Int)) (iI 0) (iI (k : Int)) (ov n A m σ) = some ((), ov n A m σ) := by
    unfold M_JArr_rangeCheck
    rw [E_JArr_rangeCheck_0]
    simp (disch := omega) only [l_0, iI_lt]
    rw [if_neg (by omega), if_neg (by omega), if_neg (by omega), mw_ov]
  have hnr : vp_nar .byte (iI (-1)) = iI (-1) := by decide +kernel
  have h := up_loop (fun j => L_JArr_fill3_1 (A c) (iI (k : Int)) (iI (-1)) (iI (j : Int)) (ov n A (fillV m c j (iI (-1))) σ)) k (some ((), ov n A (fillV m c k (iI (-1))) σ)) (fun j hj ih => by
    show L_JArr_fill3_1 _ _ _ _ _ = _
    rw [E_JArr_fill3_1]
    simp (disch := omega) only [iI_lt, okO_ov, okO_of hk, aN_ov, hl, gd_true, gd_in, letT_eq, iI_cl, Int.toNat_natCast, sI_ov hA, hnr, fillV_s, l_1, iI_add]
    rw [if_pos (by omega)]
    exact ih) (by
    show L_JArr_fill3_1 _ _ _ _ _ = _
    rw [E_JArr_fill3_1]
    simp (disch := omega) only [iI_lt]
    rw [if_neg (by omega)]) 0 (Nat.zero_le _)
  replace h : L_JArr_fill3_1 (A c) (iI (k : Int)) (iI (-1)) (iI 0) (ov n A (fillV m c 0 (iI (-1))) σ) = _ := h
  rw [fillV_0] at h
  unfold M_JArr_fill3
  rw [E_JArr_fill3_0]
  simp only [okO_ov, okO_of hk, aN_ov, hl, gd_true, nI_iI, hrc, bnd_some]
  exact (congrArg (mw _) h).trans (mw_ov _ _ _ _ _ _)
/-- what the plan finds -/
def plV (d : TD) (b : BD) (q w : Nat) (m : VM) : Prop := m.1 48 8 = iI (fewA d b q w 0) ∧ m.1 48 9 = iI (fewA d b q w 1)
theorem p_Pl_plan {d : TD} {b : BD} {A : Nat → Nat} {σ : AM} {m : VM} (R : RQ d b A σ m) (h0 : nLf d b ≠ 0) (hn : nLf d b ≤ 12) {q w : Int} (hq : qOk d q w) : ∃ m' : VM, M_Pl_plan (A 48) (iI q) (iI w) (ov 68 A m σ) = some ((), (ov 68 A (m') σ)) ∧ OnPl m m' ∧ plV d b q.toNat w.toNat m' := by
  have H := R.1
  have h5 := RQ_5 R
  have h4 : 2 ^ nLf d b ≤ 4096 := Nat.le_trans (Nat.pow_le_pow_right (by omega) hn) (by decide)
  have hp : 0 < 2 ^ nLf d b := Nat.pow_pos (by omega)
  have hsh := iI_shl1 (t := nLf d b) (by omega)
  have e1 : ((2 ^ nLf d b : Nat) : Int) - 1 = ((2 ^ nLf d b - 1 : Nat) : Int) := by omega
  have hmn : mnI (iI (nLf d b : Int)) (iI 12) = iI (nLf d b : Int) := by
    rw [mnI_iI (by omega) (by omega) (by omega) (by omega), if_neg (by omega)]
  obtain ⟨m1, g1, k1, f1⟩ := p_Pl_groupAnswers R hn hq
  have R1 := RQ_K (Ks_sub (OnPl_Ks k1) (by decide)) R
  obtain ⟨m2, T, g2, k2, f50, f2, f3⟩ := p_Pl_findSplits R1 hn
  have hfl := q_fill3 H.1 m2 (c := 53) (by decide) (H.2.2.1 (53, 105) (by decide)) (H.2.2.2.1 (53, 4096) (by decide)) (k := 2 ^ nLf d b) h4 (by decide)
  have hD := dst_rm (d := d) b
  have hA : 2 ^ nLf d b - 1 < 2 ^ nLf d b := by omega
  have hlen := cov_len f3
  generalize hans : ansV d b q.toNat w.toNat = ans at f1
  have K3 : plK (nLf d b) ans (rmV d b) T (fillV m2 53 (2 ^ nLf d b) (iI (-1))) := ⟨⟨by rw [fillV_ne _ _ _ _ (by decide)]; exact f2.1, fun j hj => ⟨by rw [fillV_ne _ _ _ _ (by decide)]; exact (f2.2 j hj).1, by rw [fillV_ne _ _ _ _ (by decide)]; exact (f2.2 j hj).2⟩⟩, fun i hi => by rw [fillV_ne _ _ _ _ (by decide), f50]; exact f1 i hi, fun S hS => Or.inl (by rw [fillV_at, if_pos hS])⟩
  have hpc := pcN_le (nLf d b) (2 ^ nLf d b - 1)
  obtain ⟨m4, g4, k4, f4⟩ := Pl_depth H hn hD (rmV_lt d b) f3 (ans := ans) 12 80 (2 ^ nLf d b - 1) 0 hA (by omega) (by omega) (by decide) _ K3
  replace g4 : M_Pl_depthOf (A 48) (iI ((2 ^ nLf d b - 1 : Nat) : Int)) (iI 0) _ = _ := g4
  have K4 := plK_S K3 k4 f4
  have hfw := fw_le (ans := ans) hn hD hA
  generalize hV : fw (nLf d b) ans (rmV d b) (2 ^ nLf d b - 1) = V at *
  have O4 : OnPl m m4 := OnPl_t k1 (OnPl_t k2 ⟨fun c hc => by rw [k4.1 c (by omega), fillV_ne _ _ _ _ (by omega)], by rw [k4.2]; rfl⟩)
  -- the first set
  have K5 : plK (nLf d b) ans (rmV d b) T (sV (sV m4 48 8 (iI (V : Int))) 48 9 (iI (-1))) := ⟨⟨by simp (disch := decide) only [sV_eq, sW_eq, sV_ne, sW_ne, sV_2, sW_1, Nat.reduceEqDiff, ↓reduceIte]; exact K4.1.1, fun j hj => ⟨by rw [sV_ne _ _ _ _ (by decide), sV_ne _ _ _ _ (by decide)]; exact (K4.1.2 j hj).1, by rw [sV_ne _ _ _ _ (by decide), sV_ne _ _ _ _ (by decide)]; exact (K4.1.2 j hj).2⟩⟩, fun i hi => by rw [sV_ne _ _ _ _ (by decide), sV_ne _ _ _ _ (by decide)]; exact K4.2.1 i hi, by
    intro S hS
    rw [sV_ne _ _ _ _ (by decide), sV_ne _ _ _ _ (by decide)]; exact K4.2.2 S hS⟩
  have lp : ∃ m' : VM, L_Pl_plan_1 (A 48) (iI ((2 ^ nLf d b - 1 : Nat) : Int)) (iI ((0 : Nat) : Int)) (ov 68 A (sV (sV m4 48 8 (iI (V : Int))) 48 9 (iI (-1))) σ) = some ((), (ov 68 A (m') σ)) ∧ OnPl m m' ∧ m'.1 48 8 = iI (V : Int) ∧ m'.1 48 9 = iI (fewA d b q.toNat w.toNat 1) := by
    have fin0 : V = 0 → fewA d b q.toNat w.toNat 1 = -1 := fun z => by unfold fewA; rw [if_neg (by decide), hans, hV, if_pos z]
    by_cases c0 : V = 0
    · refine ⟨sV (sV m4 48 8 (iI (V : Int))) 48 9 (iI (-1)), ?_, OnPl_V (OnPl_V O4 _ _ (by decide) (by decide)) _ _ (by decide) (by decide), by simp (disch := decide) only [sV_eq, sW_eq, sV_ne, sW_ne, sV_2, sW_1, Nat.reduceEqDiff, ↓reduceIte], by rw [fin0 c0]; simp (disch := decide) only [sV_eq, sW_eq, sV_ne, sW_ne, sV_2, sW_1, Nat.reduceEqDiff, ↓reduceIte]⟩
      rw [E_Pl_plan_1]
      have z7 := K4.1.1
      simp (disch := omega) only [E_Pl_plan_3, cK_48 H, okO_ov, gd_true, aI_ov H.1, z7, iI_lt, l_0, sV_eq, Nat.reduceEqDiff, ↓reduceIte, c0]
      by_cases z : (((0 : Nat)) : Int) < (T.length : Int)
      · rw [if_pos z, if_neg (by omega)]
      · rw [if_neg z]
    · have hna : ¬ alk (nLf d b) ans (2 ^ nLf d b - 1) = true := fun z => c0 (by rw [← hV, fw_e hA, if_pos z])
      obtain ⟨mm1, ⟨s0, hs0, mm2⟩, mm3⟩ := fw_min (ans := ans) hn hD hA hna
      rw [hV] at mm1 mm2 mm3
      -- the least set
      have ls : ∃ s, s < 64 ∧ byV (fw (nLf d b) ans (rmV d b)) (rmV d b) (2 ^ nLf d b - 1) s = V ∧ ∀ t, t < s → byV (fw (nLf d b) ans (rmV d b)) (rmV d b) (2 ^ nLf d b - 1) t ≠ V := by
        have : ∀ n, n < 64 → byV (fw (nLf d b) ans (rmV d b)) (rmV d b) (2 ^ nLf d b - 1) n = V → ∃ s, s ≤ n ∧ byV (fw (nLf d b) ans (rmV d b)) (rmV d b) (2 ^ nLf d b - 1) s = V ∧ ∀ t, t < s → byV (fw (nLf d b) ans (rmV d b)) (rmV d b) (2 ^ nLf d b - 1) t ≠ V := by
          intro n
          induction n using Nat.strongRecOn with
          | ind n ihn =>
            intro h1 h2
            by_cases z : ∃ t, t < n ∧ byV (fw (nLf d b) ans (rmV d b)) (rmV d b) (2 ^ nLf d b - 1) t = V
            · obtain ⟨t, z1, z2⟩ := z
              obtain ⟨s, y1, y2, y3⟩ := ihn t z1 (by omega) z2
              exact ⟨s, by omega, y2, y3⟩
            · exact ⟨n, Nat.le_refl _, h2, fun t ht y => z ⟨t, ht, y⟩⟩
        obtain ⟨s, y1, y2, y3⟩ := this s0 hs0 mm2.symm
        exact ⟨s, by omega, y2, y3⟩
      obtain ⟨s, hs, hsv, hsm⟩ := ls
      have efs : fewA d b q.toNat w.toNat 1 = (s : Int) := by
        unfold fewA
        rw [if_neg (by decide), hans, hV, if_neg c0]
        exact fsN_of hs (decide_eq_true hsv) (fun t ht => decide_eq_false (hsm t ht))
      rw [efs]
      -- it is one of the splits
      have hin : ∃ j, j < T.length ∧ T.getD j 0 = s := by
        have z1 : rmV d b s ≠ 0 := fun z => by
          have : byV (fw (nLf d b) ans (rmV d b)) (rmV d b) (2 ^ nLf d b - 1) s = 99 := if_pos (Or.inl (by rw [z, Nat.and_zero]))
          omega
        have z2 : rmV d b s ≠ 2 ^ nLf d b - 1 := fun z => by
          have : sdf (2 ^ nLf d b - 1) (rmV d b s) = 0 := by unfold sdf; rw [z, Nat.and_self, Nat.xor_self]
          have : byV (fw (nLf d b) ans (rmV d b)) (rmV d b) (2 ^ nLf d b - 1) s = 99 := if_pos (Or.inr this)
          omega
        obtain ⟨j, hj, z3, z4⟩ := f3.2.2 s hs z1 z2
        refine ⟨j, hj, ?_⟩
        have : byV (fw (nLf d b) ans (rmV d b)) (rmV d b) (2 ^ nLf d b - 1) (T.getD j 0) = V := by
          rcases z4 with z4 | z4
          · rw [← hsv]; unfold byV; rw [z4]
          · rw [byV_sym hA z4]; exact hsv
        rcases Nat.lt_or_ge (T.getD j 0) s with y | y
        · exact absurd this (hsm _ y)
        · omega
      obtain ⟨j0, hj0, ej0⟩ := hin
      have bef : ∀ j, j < j0 → byV (fw (nLf d b) ans (rmV d b)) (rmV d b) (2 ^ nLf d b - 1) (T.getD j 0) ≠ V := fun j hj => hsm _ (by rw [← ej0]; exact f3.1 j j0 hj hj0)
      have stepB : ∀ (i : Nat) (mm : VM), i < T.length → plK (nLf d b) ans (rmV d b) T mm → ∃ m' : VM, M_Pl_depthBy (A 48) (iI (i : Int)) (iI ((2 ^ nLf d b - 1 : Nat) : Int)) (iI 0) (iI ((V + 1 : Nat) : Int)) (ov 68 A mm σ) = some (iI (dbV (fw (nLf d b) ans (rmV d b)) (rmV d b) (2 ^ nLf d b - 1) (T.getD i 0) (V + 1) : Int), (ov 68 A (m') σ)) ∧ OnS 53 mm m' ∧ memo (nLf d b) 53 (fw (nLf d b) ans (rmV d b)) m' := by
        intro i mm hi hmm
        obtain ⟨m', e, r⟩ := Pl_depthBy0 H hn hD (rmV_lt d b) hlen (Q_Pl_depthBy_Pl_depthOf 79) hA (lev := 0) (by omega) hi (B := V + 1) (by omega) (fun z1 z2 => by
          have p := parts_pc hA z1 z2
          exact ⟨Pl_depth H hn hD (rmV_lt d b) f3 12 79 _ _ (and_lt hA _) (by omega) (by omega) (by decide), Pl_depth H hn hD (rmV_lt d b) f3 12 79 _ _ (sdf_lt hA _) (by omega) (by omega) (by decide)⟩) hmm
        refine ⟨m', ?_, r⟩
        show mw _ (L_Pl_depthBy_0 _ _ _ _ _ _ _) = _
        exact (congrArg (mw _) e).trans (mw_ov _ _ _ _ _ _)
      have hdb : ∀ t, dbV (fw (nLf d b) ans (rmV d b)) (rmV d b) (2 ^ nLf d b - 1) t (V + 1) ≤ 100 := fun t => by
        unfold dbV
        have y1 := fw_le (ans := ans) hn hD (and_lt hA (rmV d b t))
        have y2 := fw_le (ans := ans) hn hD (sdf_lt hA (rmV d b t))
        split
        · omega
        · split <;> omega
      have e0 : iI ((V : Int)) + iI 1 = iI ((V + 1 : Nat) : Int) := iI_add _ _
      refine up_loopI (fun i mm => L_Pl_plan_1 (A 48) (iI ((2 ^ nLf d b - 1 : Nat) : Int)) (iI (i : Int)) (ov 68 A mm σ)) (fun i mm => plK (nLf d b) ans (rmV d b) T mm ∧ OnPl m mm ∧ mm.1 48 8 = iI (V : Int) ∧ mm.1 48 9 = iI (if j0 < i then (s : Int) else -1)) (fun X => ∃ m' : VM, X = some ((), (ov 68 A (m') σ)) ∧ OnPl m m' ∧ m'.1 48 8 = iI (V : Int) ∧ m'.1 48 9 = iI (s : Int)) T.length (fun i mm hi ⟨i1, i2, i3, i4⟩ ih => ?_) (fun mm ⟨i1, i2, i3, i4⟩ => ?_) 0 _ (Nat.zero_le _) ⟨K5, OnPl_V (OnPl_V O4 _ _ (by decide) (by decide)) _ _ (by decide) (by decide), by simp (disch := decide) only [sV_eq, sW_eq, sV_ne, sW_ne, sV_2, sW_1, Nat.reduceEqDiff, ↓reduceIte], by rw [if_neg (Nat.not_lt_zero _)]; simp (disch := decide) only [sV_eq, sW_eq, sV_ne, sW_ne, sV_2, sW_1, Nat.reduceEqDiff, ↓reduceIte]⟩
      · show ∃ m' : VM, L_Pl_plan_1 _ _ _ _ = _ ∧ _
        by_cases ci : j0 < i
        · rw [if_pos ci] at i4
          refine ⟨mm, ?_, i2, i3, i4⟩
          rw [E_Pl_plan_1]
          simp (disch := omega) only [E_Pl_plan_3, cK_48 H, okO_ov, gd_true, aI_ov H.1, i1.1.1, i3, i4, iI_lt, iI_eq, l_0, l_1, iI_neg]
          rw [if_pos (by omega), if_pos (by omega), if_neg (by omega)]
        · rw [if_neg ci] at i4
          obtain ⟨m5, e5, q1, q2⟩ := stepB i mm hi i1
          have hde := dbV_eq (F := fw (nLf d b) ans (rmV d b)) (rm := rmV d b) (S := 2 ^ nLf d b - 1) (s := T.getD i 0) (B := V + 1) (v := V) (by omega) (by omega)
          have hdbi := hdb (T.getD i 0)
          have g8 : m5.1 48 8 = iI (V : Int) := by rw [q1.1 48 (by decide)]; exact i3
          have g9 : m5.1 48 9 = iI (-1) := by rw [q1.1 48 (by decide)]; exact i4
          have g52 : m5.1 52 i = iI (T.getD i 0 : Int) := by rw [q1.1 52 (by decide)]; exact (i1.1.2 i hi).2
          by_cases cj : i = j0
          · have hv : dbV (fw (nLf d b) ans (rmV d b)) (rmV d b) (2 ^ nLf d b - 1) (T.getD i 0) (V + 1) = V := hde.mpr (by rw [cj, ej0]; exact hsv)
            rw [hv] at e5
            have ih := ih (sV m5 48 9 (iI (T.getD i 0 : Int))) ⟨⟨⟨by simp (disch := decide) only [sV_eq, sW_eq, sV_ne, sW_ne, sV_2, sW_1, Nat.reduceEqDiff, ↓reduceIte]; rw [q1.1 48 (by decide)]; exact i1.1.1, fun j hj => ⟨by rw [sV_ne _ _ _ _ (by decide), q1.1 51 (by decide)]; exact (i1.1.2 j hj).1, by rw [sV_ne _ _ _ _ (by decide), q1.1 52 (by decide)]; exact (i1.1.2 j hj).2⟩⟩, fun x hx => by rw [sV_ne _ _ _ _ (by decide), q1.1 50 (by decide)]; exact i1.2.1 x hx, fun S hS => by rw [sV_ne _ _ _ _ (by decide)]; exact q2 S hS⟩, OnPl_V (OnPl_t i2 (OnPl_S q1)) _ _ (by decide) (by decide), by simp (disch := decide) only [sV_eq, sW_eq, sV_ne, sW_ne, sV_2, sW_1, Nat.reduceEqDiff, ↓reduceIte]; exact g8, by simp (disch := decide) only [sV_eq, sW_eq, sV_ne, sW_ne, sV_2, sW_1, Nat.reduceEqDiff, ↓reduceIte]; rw [if_pos (by omega), cj, ej0]⟩
            rw [E_Pl_plan_1]
            simp (disch := omega) only [E_Pl_plan_2, cK_48 H, cR_48_5 H, cK_52 H, cN_52 H, okO_ov, aR_ov, aN_ov, gd_true, gd_in, iI_cl, Int.toNat_natCast, aI_ov H.1, sI_ov H.1, i1.1.1, i3, i4, e0, e5, g8, g52, bnd_some, letT_eq, iI_lt, iI_eq, l_0, l_1, iI_neg, iI_add, iI_s, ↓reduceIte]
            rw [if_pos (by omega), if_pos (by omega)]
            exact ih
          · have hv : ¬ dbV (fw (nLf d b) ans (rmV d b)) (rmV d b) (2 ^ nLf d b - 1) (T.getD i 0) (V + 1) = V := fun z => bef i (by omega) (hde.mp z)
            have ih := ih m5 ⟨plK_S i1 q1 q2, OnPl_t i2 (OnPl_S q1), g8, by rw [if_neg (by omega)]; exact g9⟩
            rw [E_Pl_plan_1]
            simp (disch := omega) only [E_Pl_plan_2, cK_48 H, okO_ov, gd_true, aI_ov H.1, i1.1.1, i3, i4, e0, e5, g8, bnd_some, letT_eq, iI_lt, iI_eq, l_0, l_1, iI_neg, iI_add, iI_s, ↓reduceIte]
            rw [if_pos (by omega), if_pos (by omega), if_neg (by omega)]
            exact ih
      · rw [if_pos hj0] at i4
        refine ⟨mm, ?_, i2, i3, i4⟩
        show L_Pl_plan_1 _ _ _ _ = _
        rw [E_Pl_plan_1]
        simp (disch := omega) only [E_Pl_plan_3, cK_48 H, okO_ov, gd_true, aI_ov H.1, i1.1.1, iI_lt]
        rw [if_neg (by omega)]
  obtain ⟨m', e, r1, r2, r3⟩ := lp
  refine ⟨m', ?_, r1, ?_, r3⟩
  · replace e : L_Pl_plan_1 (A 48) (iI ((2 ^ nLf d b - 1 : Nat) : Int)) (iI 0) _ = _ := e
    unfold M_Pl_plan
    rw [E_Pl_plan_0]
    simp (disch := omega) only [cK_48 H, cR_48_1 H, cR_48_6 H, cK_35 H, cK_53 H, okO_ov, aR_ov, gd_true, bnd_some, q_Rs_size H, h5.1, l_0, l_1, l_12, l_31, iI_neg, hmn, hsh, iI_sub, e1, letT_eq, g1, g2, hfl, g4, sI_ov H.1, e, mw_ov]
  · rw [r2]; unfold fewA; rw [if_pos rfl, hans, hV]
