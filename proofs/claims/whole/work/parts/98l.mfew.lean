/-! ===== fewest, fewestFor: the reference's search ===== -/
def mfK (d : TD) (n : Nat) (ans : Nat → Int32) (rm : Nat → Nat) (m : VM) : Prop := MT d m ∧ m.1 0 46 = iI (n : Int) ∧ (∀ i, i < n → m.1 30 i = ans i) ∧ (∀ s, s < sN d → m.1 31 s = iI (rm s : Int)) ∧ memo n 32 (fw n ans rm) m
theorem OnS32_KM {m m' : VM} (h : OnS 32 m m') : KM m m' := ⟨fun j _ => by rw [h.1 0 (by decide)], fun c hc => h.1 c (fun e => by subst e; revert hc; decide), fun c _ => by rw [h.2]⟩
theorem mfK_S {d : TD} {n : Nat} {ans : Nat → Int32} {rm : Nat → Nat} {m m' : VM} (h : mfK d n ans rm m) (k : OnS 32 m m') (hm : memo n 32 (fw n ans rm) m') : mfK d n ans rm m' := ⟨MT_K (OnS32_KM k) h.1, by rw [k.1 0 (by decide)]; exact h.2.1, fun i hi => by rw [k.1 30 (by decide)]; exact h.2.2.1 i hi, fun s hs => by rw [k.1 31 (by decide)]; exact h.2.2.2.1 s hs, hm⟩
def dOkM (d : TD) (n : Nat) (ans : Nat → Int32) (rm : Nat → Nat) (A : Nat → Nat) (σ : AM) (rec : Nat → Int32 → AM → Option (Int32 × AM)) (S : Nat) : Prop := ∀ m, mfK d n ans rm m → ∃ m' : VM, rec (A 0) (iI (S : Int)) (ov 40 A m σ) = some (iI (fw n ans rm S : Int), (ov 40 A (m') σ)) ∧ OnS 32 m m' ∧ memo n 32 (fw n ans rm) m'
theorem Md_by0 {d : TD} {A : Nat → Nat} {σ : AM} (H : LM A σ) (hd : wfD d) {n : Nat} (hn : n ≤ 12) {ans : Nat → Int32} {rm : Nat → Nat} (hD : dst n rm) (rec : GT_Md_by_Md_fewestBy) {S : Nat} (hS : S < 2 ^ n) {s : Nat} (hs : s < sN d) (IH : S &&& rm s ≠ 0 → sdf S (rm s) ≠ 0 → dOkM d n ans rm A σ rec.2 (S &&& rm s) ∧ dOkM d n ans rm A σ rec.2 (sdf S (rm s))) {m : VM} (hm : mfK d n ans rm m) : ∃ m' : VM, L_Md_by_0 rec (A 0) (iI (S : Int)) (iI (s : Int)) (ov 40 A m σ) = some (iI (byV (fw n ans rm) rm S s : Int), (ov 40 A (m') σ)) ∧ OnS 32 m m' ∧ memo n 32 (fw n ans rm) m' := by
  have h4 : 2 ^ n ≤ 4096 := Nat.le_trans (Nat.pow_le_pow_right (by omega) hn) (by decide)
  have hN := sN_le hd
  have h31 := hm.2.2.2.1 s hs
  have a1 := and_lt hS (rm s)
  have a2 := sdf_lt hS (rm s)
  have f1 := fw_le (ans := ans) hn hD a1
  have f2 := fw_le (ans := ans) hn hD a2
  unfold byV
  by_cases c : S &&& rm s = 0 ∨ sdf S (rm s) = 0
  · rw [if_pos c]
    refine ⟨m, ?_, OnS_r _ _, hm.2.2.2.2⟩
    rw [E_Md_by_0]
    simp (disch := omega) only [E_Md_by_1, mK_0 H, mR_58 H, mK_31 H, mN_31 H, okO_ov, aR_ov, aN_ov, gd_true, gd_in, iI_cl, Int.toNat_natCast, aI_ov H.1, h31, letT_eq, iI_and, l_0, l_1, l_99, iI_neg, iI_sdf, iI_eq]
    by_cases c1 : S &&& rm s = 0
    · rw [if_pos (by omega)]; rfl
    · have c2 : sdf S (rm s) = 0 := c.elim (fun z => absurd z c1) id
      rw [if_neg (by omega), if_pos (by omega)]; rfl
  · rw [if_neg c]
    have c1 : ¬ S &&& rm s = 0 := fun z => c (Or.inl z)
    have c2 : ¬ sdf S (rm s) = 0 := fun z => c (Or.inr z)
    obtain ⟨i1, i2⟩ := IH c1 c2
    obtain ⟨m1, e1, k1, k2⟩ := i1 m hm
    obtain ⟨m2, e2, q1, q2⟩ := i2 m1 (mfK_S hm k1 k2)
    refine ⟨m2, ?_, OnS_t k1 q1, q2⟩
    rw [E_Md_by_0]
    simp (disch := omega) only [E_Md_by_2, mK_0 H, mR_58 H, mK_31 H, mN_31 H, okO_ov, aR_ov, aN_ov, gd_true, gd_in, iI_cl, Int.toNat_natCast, aI_ov H.1, h31, letT_eq, iI_and, l_0, l_1, iI_neg, iI_sdf, iI_eq, e1, e2, bnd_some, iI_lt, iI_add]
    rw [if_neg (by omega), if_neg (by omega)]
    by_cases z : fw n ans rm (sdf S (rm s)) < fw n ans rm (S &&& rm s)
    · rw [if_pos (by omega), Nat.max_eq_left (by omega)]; rfl
    · rw [if_neg (by omega), Nat.max_eq_right (by omega)]; rfl
/-- who is the first, and whether all so far answer alike -/
def smI (ans : Nat → Int32) (S k : Nat) (q : Int × Bool) : Prop := (q.2 = true ↔ ∀ i j, i < k → j < k → S.testBit i = true → S.testBit j = true → ans i = ans j) ∧ ((q.1 = -1 ∧ ∀ j, j < k → S.testBit j = false) ∨ ∃ i : Nat, q.1 = (i : Int) ∧ i < k ∧ S.testBit i = true)
theorem Md_fb1 {d : TD} {A : Nat → Nat} {σ : AM} (H : LM A σ) {n : Nat} (hn : n ≤ 12) {ans : Nat → Int32} {rm : Nat → Nat} (rec : GT_Md_by_Md_fewestBy) {S : Nat} (hS : S < 2 ^ n) {m : VM} (hm : mfK d n ans rm m) : L_Md_fewestBy_1 rec (A 0) (iI (S : Int)) (iI (-1)) (iI 1) (iI 0) (ov 40 A m σ) = if alk n ans S = true then L_Md_fewestBy_7 rec (A 0) (iI (S : Int)) (iI 1) (iI 0) (iI 0) (ov 40 A m σ) else L_Md_fewestBy_7 rec (A 0) (iI (S : Int)) (iI 0) (iI 99) (iI 0) (ov 40 A m σ) := by
  have h4 : 2 ^ n ≤ 4096 := Nat.le_trans (Nat.pow_le_pow_right (by omega) hn) (by decide)
  have h46 := hm.2.1
  refine up_loopI (fun k (q : Int × Bool) => L_Md_fewestBy_1 rec (A 0) (iI (S : Int)) (iI q.1) (bZ q.2) (iI (k : Int)) (ov 40 A m σ)) (fun k q => smI ans S k q) (fun X => X = if alk n ans S = true then L_Md_fewestBy_7 rec (A 0) (iI (S : Int)) (iI 1) (iI 0) (iI 0) (ov 40 A m σ) else L_Md_fewestBy_7 rec (A 0) (iI (S : Int)) (iI 0) (iI 99) (iI 0) (ov 40 A m σ)) n (fun k q hk hI ih => ?_) (fun q hI => ?_) 0 (-1, true) (Nat.zero_le _) ⟨⟨fun _ i j hi => absurd hi (Nat.not_lt_zero i), fun _ => rfl⟩, Or.inl ⟨rfl, fun j hj => absurd hj (Nat.not_lt_zero j)⟩⟩
  · obtain ⟨f, sm⟩ := q
    obtain ⟨i1, i2⟩ := hI
    simp only at i1 i2
    have hb := iI_bit (S := S) (i := k) (by omega) (by omega)
    have hak := hm.2.2.1 k hk
    show L_Md_fewestBy_1 _ _ _ _ _ _ _ = _
    cases q : S.testBit k
    · rw [q] at hb
      replace hb : _ = iI 0 := hb
      have ih := ih (f, sm) ⟨⟨fun h i j hi hj h1 h2 => ?_, fun h => i1.mpr fun i j hi hj h1 h2 => h i j (by omega) (by omega) h1 h2⟩, ?_⟩
      · rw [E_Md_fewestBy_1]
        simp (disch := omega) only [E_Md_fewestBy_5, mK_0 H, okO_ov, gd_true, aI_ov H.1, h46, l_1, l_31, hb, iI_lt, iI_eq, iI_add, iI_s, Int.reduceEq, ↓reduceIte]
        rw [if_pos (by omega)]
        exact ih
      · have z1 : i ≠ k := fun e => by subst e; rw [q] at h1; cases h1
        have z2 : j ≠ k := fun e => by subst e; rw [q] at h2; cases h2
        exact i1.mp h i j (by omega) (by omega) h1 h2
      · rcases i2 with ⟨z1, z2⟩ | ⟨i, z1, z2, z3⟩
        · refine Or.inl ⟨z1, fun j hj => ?_⟩
          by_cases e : j = k
          · rw [e]; exact q
          · exact z2 j (by omega)
        · exact Or.inr ⟨i, z1, by omega, z3⟩
    · rw [q] at hb
      replace hb : _ = iI 1 := hb
      rcases i2 with ⟨rfl, z2⟩ | ⟨i0, rfl, z2, z3⟩
      · have est : sm = true := i1.mpr fun i j hi hj h1 => by rw [z2 i hi] at h1; cases h1
        subst est
        have ih := ih ((k : Int), true) ⟨⟨fun _ i j hi hj h1 h2 => ?_, fun _ => rfl⟩, Or.inr ⟨k, rfl, by omega, q⟩⟩
        · rw [show bZ true = iI 1 from rfl]
          rw [E_Md_fewestBy_1]
          simp (disch := omega) only [E_Md_fewestBy_2, E_Md_fewestBy_3, E_Md_fewestBy_4, E_Md_fewestBy_5, mK_0 H, mR_57 H, mK_30 H, mN_30 H, okO_ov, aR_ov, aN_ov, gd_true, gd_in, iI_cl, Int.toNat_natCast, aI_ov H.1, h46, hak, l_0, l_1, l_31, iI_neg, hb, iI_lt, iI_eq, iI_add, iI_s, Int.reduceEq, Int.reduceLT, Int.reduceNeg, ↓reduceIte]
          rw [if_pos (by omega)]
          exact ih
        · have y1 : i = k := Classical.byContradiction fun e => by rw [z2 i (by omega)] at h1; cases h1
          have y2 : j = k := Classical.byContradiction fun e => by rw [z2 j (by omega)] at h2; cases h2
          rw [y1, y2]
      · have hai := hm.2.2.1 i0 (by omega)
        cases hsm : sm
        · subst hsm
          have ih := ih ((i0 : Int), false) ⟨⟨fun z => absurd (show false = true from z) (by decide), fun z => absurd (i1.mpr fun i j hi hj h1 h2 => z i j (by omega) (by omega) h1 h2) (by decide)⟩, Or.inr ⟨i0, rfl, by omega, z3⟩⟩
          rw [show bZ false = iI 0 from rfl]
          rw [E_Md_fewestBy_1]
          simp (disch := omega) only [E_Md_fewestBy_2, E_Md_fewestBy_3, E_Md_fewestBy_4, E_Md_fewestBy_5, mK_0 H, okO_ov, gd_true, aI_ov H.1, h46, l_0, l_1, l_31, hb, iI_lt, iI_eq, iI_add, iI_s, Int.reduceEq, ↓reduceIte]
          rw [if_pos (by omega), if_neg (by omega)]
          exact ih
        · subst hsm
          by_cases ce : ans k = ans i0
          · have ih := ih ((i0 : Int), true) ⟨⟨fun _ i j hi hj h1 h2 => ?_, fun _ => rfl⟩, Or.inr ⟨i0, rfl, by omega, z3⟩⟩
            · rw [show bZ true = iI 1 from rfl]
              rw [E_Md_fewestBy_1]
              simp (disch := omega) only [E_Md_fewestBy_2, E_Md_fewestBy_3, E_Md_fewestBy_4, E_Md_fewestBy_5, mK_0 H, mR_57 H, mK_30 H, mN_30 H, okO_ov, aR_ov, aN_ov, gd_true, gd_in, iI_cl, Int.toNat_natCast, aI_ov H.1, h46, hak, hai, l_0, l_1, l_31, hb, iI_lt, iI_eq, iI_add, iI_s, Int.reduceEq, ↓reduceIte]
              rw [if_pos (by omega), if_neg (by omega), if_pos ce]
              exact ih
            · have key : ∀ i, i < k + 1 → S.testBit i = true → ans i = ans i0 := fun i hi h => by
                by_cases e : i = k
                · rw [e]; exact ce
                · exact i1.mp rfl i i0 (by omega) z2 h z3
              rw [key i hi h1, key j hj h2]
          · have ih := ih ((i0 : Int), false) ⟨⟨fun z => absurd (show false = true from z) (by decide), fun z => absurd (z k i0 (by omega) (by omega) q z3) ce⟩, Or.inr ⟨i0, rfl, by omega, z3⟩⟩
            rw [show bZ true = iI 1 from rfl]
            rw [E_Md_fewestBy_1]
            simp (disch := omega) only [E_Md_fewestBy_2, E_Md_fewestBy_3, E_Md_fewestBy_4, E_Md_fewestBy_5, mK_0 H, mR_57 H, mK_30 H, mN_30 H, okO_ov, aR_ov, aN_ov, gd_true, gd_in, iI_cl, Int.toNat_natCast, aI_ov H.1, h46, hak, hai, l_0, l_1, l_31, hb, iI_lt, iI_eq, iI_add, iI_s, Int.reduceEq, ↓reduceIte]
            rw [if_pos (by omega), if_neg (by omega), if_neg ce]
            exact ih
  · obtain ⟨f, sm⟩ := q
    obtain ⟨i1, i2⟩ := hI
    simp only at i1 i2
    show L_Md_fewestBy_1 _ _ _ _ _ _ _ = _
    cases hsm : sm
    · subst hsm
      have : ¬ alk n ans S = true := fun z => absurd (i1.mpr fun i j hi hj h1 h2 => alk_iff.mp z i j hi hj h1 h2) (by decide)
      rw [if_neg this, show bZ false = iI 0 from rfl, E_Md_fewestBy_1]
      simp (disch := omega) only [E_Md_fewestBy_6, mK_0 H, okO_ov, gd_true, aI_ov H.1, h46, l_0, l_99, iI_lt, ↓reduceIte]
      rw [if_neg (by omega)]
    · subst hsm
      have : alk n ans S = true := alk_iff.mpr fun i j hi hj h1 h2 => i1.mp rfl i j hi hj h1 h2
      rw [if_pos this, show bZ true = iI 1 from rfl, E_Md_fewestBy_1]
      simp (disch := omega) only [E_Md_fewestBy_6, mK_0 H, okO_ov, gd_true, aI_ov H.1, h46, l_0, l_99, iI_lt, iI_eq, Int.reduceEq, ↓reduceIte]
      rw [if_neg (by omega)]
theorem Md_fb0 {d : TD} {A : Nat → Nat} {σ : AM} (H : LM A σ) (hd : wfD d) {n : Nat} (hn : n ≤ 12) {ans : Nat → Int32} {rm : Nat → Nat} (hD : dst n rm) (hlo : ∀ s, sN d ≤ s → rm s = 0) (rec : GT_Md_by_Md_fewestBy) {S : Nat} (hS : S < 2 ^ n) (IH : ¬ alk n ans S = true → ∀ s, s < sN d → ∀ m, mfK d n ans rm m → ∃ m' : VM, rec.1 (A 0) (iI (S : Int)) (iI (s : Int)) (ov 40 A m σ) = some (iI (byV (fw n ans rm) rm S s : Int), (ov 40 A (m') σ)) ∧ OnS 32 m m' ∧ memo n 32 (fw n ans rm) m') {m : VM} (hm : mfK d n ans rm m) : ∃ m' : VM, L_Md_fewestBy_0 rec (A 0) (iI (S : Int)) (ov 40 A m σ) = some (iI (fw n ans rm S : Int), (ov 40 A (m') σ)) ∧ OnS 32 m m' ∧ memo n 32 (fw n ans rm) m' := by
  have h4 : 2 ^ n ≤ 4096 := Nat.le_trans (Nat.pow_le_pow_right (by omega) hn) (by decide)
  have hN := sN_le hd
  have hfw := fw_le (ans := ans) hn hD hS
  have wr : ∀ (m1 : VM) (v : Nat), OnS 32 m m1 → memo n 32 (fw n ans rm) m1 → v = fw n ans rm S → L_Md_fewestBy_9 rec (A 0) (iI (S : Int)) (iI (v : Int)) (ov 40 A m1 σ) = some (iI (fw n ans rm S : Int), (ov 40 A (sV m1 32 S (iI (v : Int))) σ)) ∧ OnS 32 m (sV m1 32 S (iI (v : Int))) ∧ memo n 32 (fw n ans rm) (sV m1 32 S (iI (v : Int))) := by
    intro m1 v k1 k2 hv
    refine ⟨?_, ⟨fun a ha => by rw [sV_ne _ _ _ _ ha]; exact k1.1 a ha, k1.2⟩, fun S' hS' => ?_⟩
    · rw [E_Md_fewestBy_9]
      simp (disch := omega) only [mK_0 H, mR_59 H, mK_32 H, mN_32 H, okO_ov, aR_ov, aN_ov, gd_true, gd_in, iI_cl, Int.toNat_natCast, sI_ov H.1, letT_eq]
      rw [hv]
    · rw [sV_eq]
      by_cases e : S' = S
      · rw [if_pos e, e, hv]; exact Or.inr rfl
      · rw [if_neg e]; exact k2 S' hS'
  by_cases c1 : m.1 32 S = iI (-1)
  · have h1 := Md_fb1 H hn rec hS hm
    have e0 : L_Md_fewestBy_0 rec (A 0) (iI (S : Int)) (ov 40 A m σ) = L_Md_fewestBy_1 rec (A 0) (iI (S : Int)) (iI (-1)) (iI 1) (iI 0) (ov 40 A m σ) := by
      rw [E_Md_fewestBy_0]
      simp (disch := omega) only [mK_0 H, mR_59 H, mK_32 H, mN_32 H, okO_ov, aR_ov, aN_ov, gd_true, gd_in, iI_cl, Int.toNat_natCast, aI_ov H.1, c1, l_0, l_1, iI_neg, iI_lt]
      rw [if_pos (by omega)]
    rw [e0, h1]
    by_cases cA : alk n ans S = true
    · rw [if_pos cA]
      have ez : fw n ans rm S = 0 := by rw [fw_e hS, if_pos cA]
      have w := wr m 0 (OnS_r _ _) hm.2.2.2.2 ez.symm
      refine ⟨_, ?_, w.2⟩
      have w1 : L_Md_fewestBy_9 _ _ _ (iI 0) _ = _ := w.1
      rw [E_Md_fewestBy_7]
      have hp := sN_pos d
      simp (disch := omega) only [mK_0 H, okO_ov, gd_true, bnd_some, q_Md_sets H hd hm.1, l_0, iI_lt, iI_eq, Int.reduceEq, ↓reduceIte]
      rw [if_pos (by omega)]
      exact w1
    · rw [if_neg cA]
      refine up_loopI (fun s mm => L_Md_fewestBy_7 rec (A 0) (iI (S : Int)) (iI 0) (iI (bst (fw n ans rm) rm S s : Int)) (iI (s : Int)) (ov 40 A mm σ)) (fun s mm => OnS 32 m mm ∧ memo n 32 (fw n ans rm) mm) (fun X => ∃ m' : VM, X = some (iI (fw n ans rm S : Int), (ov 40 A (m') σ)) ∧ OnS 32 m m' ∧ memo n 32 (fw n ans rm) m') (sN d) (fun s mm hs ⟨i1, i2⟩ ih => ?_) (fun mm ⟨i1, i2⟩ => ?_) 0 m (Nat.zero_le _) ⟨OnS_r _ _, hm.2.2.2.2⟩
      · have hmm := mfK_S hm i1 i2
        obtain ⟨m2, e2, k1, k2⟩ := IH cA s hs mm hmm
        have b9 := bst_99 (fw n ans rm) rm S s
        have hbv : byV (fw n ans rm) rm S s ≤ 99 := by
          unfold byV
          have y1 := fw_le (ans := ans) hn hD (and_lt hS (rm s))
          have y2 := fw_le (ans := ans) hn hD (sdf_lt hS (rm s))
          split <;> omega
        have ih := ih m2 ⟨OnS_t i1 k1, k2⟩
        replace ih : ∃ m' : VM, L_Md_fewestBy_7 rec (A 0) (iI (S : Int)) (iI 0) (iI ((if byV (fw n ans rm) rm S s < bst (fw n ans rm) rm S s then byV (fw n ans rm) rm S s else bst (fw n ans rm) rm S s : Nat) : Int)) (iI ((s + 1 : Nat) : Int)) (ov 40 A m2 σ) = _ ∧ _ := ih
        show ∃ m' : VM, L_Md_fewestBy_7 _ _ _ _ _ _ _ = _ ∧ _
        rw [E_Md_fewestBy_7]
        simp (disch := omega) only [E_Md_fewestBy_8, mK_0 H, okO_ov, gd_true, bnd_some, q_Md_sets H hd hmm.1, l_0, l_1, iI_lt, e2, iI_add, iI_s, ↓reduceIte]
        rw [if_pos (by omega)]
        by_cases z : byV (fw n ans rm) rm S s < bst (fw n ans rm) rm S s
        · rw [if_pos z] at ih
          rw [if_pos (by omega)]
          exact ih
        · rw [if_neg z] at ih
          rw [if_neg (by omega)]
          exact ih
      · have hmm := mfK_S hm i1 i2
        have ev : bst (fw n ans rm) rm S (sN d) = fw n ans rm S := by
          rw [fw_e hS, if_neg cA]
          exact (bst_ext hN (fun s h1 _ => if_pos (Or.inl (by rw [hlo s h1, Nat.and_zero])))).symm
        have w := wr mm _ i1 i2 ev
        refine ⟨_, ?_, w.2⟩
        show L_Md_fewestBy_7 _ _ _ _ _ _ _ = _
        rw [E_Md_fewestBy_7]
        simp (disch := omega) only [mK_0 H, okO_ov, gd_true, bnd_some, q_Md_sets H hd hmm.1, iI_lt]
        rw [if_neg (by omega)]
        exact w.1
  · have e1 : m.1 32 S = iI (fw n ans rm S : Int) := (hm.2.2.2.2 S hS).elim (fun z => absurd z c1) id
    refine ⟨m, ?_, OnS_r _ _, hm.2.2.2.2⟩
    rw [E_Md_fewestBy_0]
    simp (disch := omega) only [mK_0 H, mR_59 H, mK_32 H, mN_32 H, okO_ov, aR_ov, aN_ov, gd_true, gd_in, iI_cl, Int.toNat_natCast, aI_ov H.1, e1, l_0, iI_lt]
    rw [if_neg (by omega)]
theorem Md_few {d : TD} {A : Nat → Nat} {σ : AM} (H : LM A σ) (hd : wfD d) {n : Nat} (hn : n ≤ 12) {ans : Nat → Int32} {rm : Nat → Nat} (hD : dst n rm) (hlo : ∀ s, sN d ≤ s → rm s = 0) : ∀ (k f S : Nat), S < 2 ^ n → pcN n S ≤ k → 2 * k + 1 ≤ f → dOkM d n ans rm A σ (Q_Md_by_Md_fewestBy f).2 S := by
  intro k
  induction k with
  | zero =>
    intro f S hS hk hf m hm
    obtain ⟨f, rfl⟩ : ∃ g, f = g + 1 := ⟨f - 1, by omega⟩
    have := pcN_0 hS (by omega)
    subst this
    obtain ⟨m', e, r⟩ := Md_fb0 H hd hn hD hlo (Q_Md_by_Md_fewestBy f) hS (fun z => absurd (alk_0 n ans) z) hm
    refine ⟨m', ?_, r⟩
    show mw _ (L_Md_fewestBy_0 _ _ _ _) = _
    rw [e, mw_ov]
  | succ k ih =>
    intro f S hS hk hf m hm
    obtain ⟨f, rfl⟩ : ∃ g, f = g + 1 + 1 := ⟨f - 2, by omega⟩
    obtain ⟨m', e, r⟩ := Md_fb0 H hd hn hD hlo (Q_Md_by_Md_fewestBy (f + 1)) hS (fun _ s hs mm hmm => by
      obtain ⟨m2, e2, r2⟩ := Md_by0 H hd hn hD (Q_Md_by_Md_fewestBy f) hS hs (fun z1 z2 => by
        have p := parts_pc hS z1 z2
        exact ⟨ih f _ (and_lt hS _) (by omega) (by omega), ih f _ (sdf_lt hS _) (by omega) (by omega)⟩) hmm
      refine ⟨m2, ?_, r2⟩
      show mw _ (L_Md_by_0 _ _ _ _ _) = _
      rw [e2, mw_ov]) hm
    refine ⟨m', ?_, r⟩
    show mw _ (L_Md_fewestBy_0 _ _ _ _) = _
    rw [e, mw_ov]
