/-! ===== the reference reads a formula: tests and parts ===== -/
theorem m_test {t : PD} {A : Nat → Nat} {σ : AM} (H : LM A σ) (ht : wfT t) {ns : List (List Nat)} {ic : Bool} {s : Nat → PRs} (hs : gdP t s) {B : Nat} (hB : 1005 ≤ B) (hB2 : B < 1098) {rec : GT_Md_all_Md_products_Md_sums_Md_takePart_M} {wi : Int32} (hX : pmT t ns ic A σ s B (fun σ => rec.2.2.1 (A 0) wi σ)) : pmT t ns ic A σ (lvS t s 1) (B + 1) (fun σ => N_Md_test rec (A 0) wi σ) := by
  intro k c m hk hc hQ
  obtain ⟨m1, e1, y1, y2, y3, y4, y5⟩ := hX k c m hk hc hQ
  replace e1 : rec.2.2.1 (A 0) wi (ov 40 A m σ) = some ((), (ov 40 A m1 σ)) := e1
  show ∃ m' : VM, mw _ (L_Md_test_0 rec (A 0) wi (ov 40 A m σ)) = _ ∧ _
  by_cases y : (s k).1 = 0
  · obtain ⟨g1, g2, g3⟩ := hs k hk y
    have hQ1 := y5 y
    have hl1 := kOk_le ht g1
    have hlen : (c ++ (s k).2.2).length ≤ (s k).2.1 + 5 := by rw [List.length_append]; omega
    have q := q_isSign H ht g1 hQ1.1 (c := 60) (by omega) (by omega)
    replace q : M_Md_isSign (A 0) (iI 60) (ov 40 A m1 σ) = _ := q
    have p := q_hasSign H ht g1 hQ1.1 (c := 60) (by omega) (by omega)
    replace p : M_Md_hasSign (A 0) (iI 60) (ov 40 A m1 σ) = _ := p
    have r := q_hasSign H ht g1 hQ1.1 (c := 61) (by omega) (by omega)
    replace r : M_Md_hasSign (A 0) (iI 61) (ov 40 A m1 σ) = _ := r
    rw [show lvS t s 1 k = loS t s 1 1 (s k).2.1 (s k).2.2 from if_pos y]
    by_cases z : lvO (kdT t (s k).2.1) = 1
    · have hk2 := kOk_s g1 (lvO_0 z (by omega))
      obtain ⟨m3, e3, x1, ⟨u, u1, u2⟩, x3, x4, x5⟩ := hX ((s k).2.1 + 1) (c ++ (s k).2.2) (atS m1 ((s k).2.1 + 1)) hk2 (by omega) (QS_at hQ1 _)
      replace e3 : rec.2.2.1 (A 0) wi (ov 40 A (atS m1 ((s k).2.1 + 1)) σ) = some ((), (ov 40 A m3 σ)) := e3
      have e4 : L_Md_test_0 rec (A 0) wi (ov 40 A m σ) = some ((), (ov 40 A (emS m3 u (iI (opR (cdO (kdT t (s k).2.1)) : Int)) (iI (agR (cdO (kdT t (s k).2.1)) : Int))) σ)) := by
        rcases lv_1.mp z with z2 | z2
        · rw [decide_eq_true z2] at q p
          rw [if_pos z2] at p
          have q2 := p_emit H u2 (by omega) (iI 7) (iI 0)
          rw [z2, E_Md_test_0]
          simp only [E_Md_test_1, E_Md_test_2, E_Md_test_3, mK_0 H, okO_ov, gd_true, l_60, l_61, l_0, l_7, e1, q, p, e3, q2, bnd_some, bZ_0, reduceCtorEq, ↓reduceIte]
          rfl
        · rw [decide_eq_false (show ¬ kdT t (s k).2.1 = 60 by omega)] at q p
          rw [if_neg (show ¬ kdT t (s k).2.1 = 60 by omega)] at p
          rw [decide_eq_true z2, if_pos z2] at r
          have q2 := p_emit H u2 (by omega) (iI 8) (iI 0)
          rw [z2, E_Md_test_0]
          simp only [E_Md_test_1, E_Md_test_2, E_Md_test_3, mK_0 H, okO_ov, gd_true, l_60, l_61, l_0, l_8, e1, q, p, r, e3, q2, bnd_some, bZ_0, reduceCtorEq, ↓reduceIte]
          rfl
      rw [e4]
      refine ⟨_, mw_ov _ _ _ _ _ _, ?_⟩
      have hO4 : OnPq m (emS m3 u (iI (opR (cdO (kdT t (s k).2.1)) : Int)) (iI (agR (cdO (kdT t (s k).2.1)) : Int))) := OnPq_t y1 (OnPq_t (OnPq_at _ _) (OnPq_t x1 (OnPq_em _ _ _ _)))
      have el : loS t s 1 1 (s k).2.1 (s k).2.2 = bR (s ((s k).2.1 + 1)) (fun k' l' => loS t s 1 0 k' ((s k).2.2 ++ l' ++ [cdO (kdT t (s k).2.1)])) := if_pos z
      rw [el]
      have h8 : (emS m3 u (iI (opR (cdO (kdT t (s k).2.1)) : Int)) (iI (agR (cdO (kdT t (s k).2.1)) : Int))).1 0 8 = iI ((s ((s k).2.1 + 1)).1 : Int) := by rw [em_7 _ _ _ _ (by decide)]; exact x3
      by_cases w : (s ((s k).2.1 + 1)).1 = 0
      · obtain ⟨f1, f2, f3⟩ := hs ((s k).2.1 + 1) hk2 w
        have q3 := x5 w
        have eu : u = (c ++ (s k).2.2 ++ (s ((s k).2.1 + 1)).2.2).length := by
          have h1 := q3.2.2.2.1.symm.trans u2
          have hg := kOk_le ht f1
          rw [List.length_append] at h1 ⊢
          rw [iI_eq (by omega) (by omega) (by omega) (by omega)] at h1
          omega
        have q4 := QS_em q3 (cdO (kdT t (s k).2.1))
        rw [← eu] at q4
        rw [show bR (s ((s k).2.1 + 1)) (fun k' l' => loS t s 1 0 k' ((s k).2.2 ++ l' ++ [cdO (kdT t (s k).2.1)])) = (0, (s ((s k).2.1 + 1)).2.1, (s k).2.2 ++ (s ((s k).2.1 + 1)).2.2 ++ [cdO (kdT t (s k).2.1)]) from if_pos w]
        have ea : c ++ (s k).2.2 ++ (s ((s k).2.1 + 1)).2.2 ++ [cdO (kdT t (s k).2.1)] = c ++ ((s k).2.2 ++ (s ((s k).2.1 + 1)).2.2 ++ [cdO (kdT t (s k).2.1)]) := by simp only [List.append_assoc]
        rw [ea] at q4
        exact ⟨hO4, ⟨u + 1, by omega, by unfold emS; simp (disch := decide) only [sV_eq, sW_eq, sV_ne, sW_ne, sV_2, sW_1, Nat.reduceEqDiff, ↓reduceIte]⟩, by rw [h8, w], Nat.zero_le _, fun _ => q4⟩
      · rw [bR_no w]
        exact ⟨hO4, ⟨u + 1, by omega, by unfold emS; simp (disch := decide) only [sV_eq, sW_eq, sV_ne, sW_ne, sV_2, sW_1, Nat.reduceEqDiff, ↓reduceIte]⟩, h8, x4, fun x => absurd x w⟩
    · have z2 : ¬ (kdT t (s k).2.1 = 60 ∨ kdT t (s k).2.1 = 61) := fun x => z (lv_1.mpr x)
      rw [decide_eq_false (show ¬ kdT t (s k).2.1 = 60 by omega)] at q p
      rw [if_neg (show ¬ kdT t (s k).2.1 = 60 by omega)] at p
      rw [decide_eq_false (show ¬ kdT t (s k).2.1 = 61 by omega), if_neg (show ¬ kdT t (s k).2.1 = 61 by omega)] at r
      rw [show loS t s 1 1 (s k).2.1 (s k).2.2 = (0, (s k).2.1, (s k).2.2) from if_neg z]
      refine ⟨m1, ?_, y1, QU_le y2 (by omega), by rw [y3, y], Nat.zero_le _, fun _ => hQ1⟩
      rw [E_Md_test_0]
      simp only [E_Md_test_3, mK_0 H, okO_ov, gd_true, l_60, l_61, l_0, e1, q, p, r, bnd_some, bZ_0, ↓reduceIte, mw_ov]
  · have q := q_isSignF H y3 y y4
    have p := q_hasSignF H y3 y y4
    rw [show lvS t s 1 k = s k from if_neg y]
    refine ⟨m1, ?_, y1, QU_le y2 (by omega), y3, y4, fun x => absurd x y⟩
    rw [E_Md_test_0]
    simp only [E_Md_test_3, mK_0 H, okO_ov, gd_true, l_60, l_61, l_0, e1, q, p, bnd_some, bZ_0, ↓reduceIte, mw_ov]
/-- what the reference makes of the token at the head of a part -/
theorem tp_3 {t : PD} {A : Nat → Nat} {σ : AM} (H : LM A σ) (ht : wfT t) {ns : List (List Nat)} {ic : Bool} {k : Nat} {c : List Nat} {m : VM} (hk : kOk t k) (hQ : QS t ns ic k c m) (rec : GT_Md_all_Md_products_Md_sums_Md_takePart_M) (wi : Int32) : L_Md_takePart_0 rec (A 0) wi (ov 40 A m σ) = if stP ic (kdT t k) = true then L_Md_takePart_3 rec (A 0) wi (bZ (decide (kdT t k = 2))) (bZ (decide (kdT t k = 3))) (ov 40 A m σ) else L_Md_takePart_5 rec (A 0) wi (bZ (decide (kdT t k = 2))) (bZ (decide (kdT t k = 3))) (ov 40 A (sV m 0 8 (iI ((1 + 16 * plT t k : Nat) : Int))) σ) := by
  obtain ⟨g1, g2, g3⟩ := hQ.1.1 k hk
  have hl := kOk_le ht hk
  have hs := so_le t k
  have e1 : L_Md_takePart_0 rec (A 0) wi (ov 40 A m σ) = L_Md_takePart_1 rec (A 0) wi (bZ (decide (kdT t k = 2))) (ov 40 A m σ) := by
    have h7 := hQ.1.2.2.1
    have h8 := hQ.1.2.2.2
    rw [E_Md_takePart_0]
    simp (disch := omega) only [mK_0 H, mR_4 H, mK_2 H, mN_2 H, okO_ov, aR_ov, aN_ov, gd_true, gd_in, iI_cl, Int.toNat_natCast, aI_ov H.1, h7, h8, g1, l_0, l_1, l_2, iI_lt, iI_eq, Int.lt_irrefl, ↓reduceIte]
    by_cases z : kdT t k = 2
    · have := so_2.mpr z
      rw [if_pos (by omega), decide_eq_true z]; rfl
    · have : ¬ soK t k = 2 := fun y => z (so_2.mp y)
      rw [if_neg (by omega), decide_eq_false z]; rfl
  have e2 : L_Md_takePart_1 rec (A 0) wi (bZ (decide (kdT t k = 2))) (ov 40 A m σ) = L_Md_takePart_2 rec (A 0) wi (bZ (decide (kdT t k = 2))) (bZ (decide (kdT t k = if ic = true then 13 else 12))) (ov 40 A m σ) := by
    have h23 := hQ.2.1
    have q9 : M_Md_isWord (A 0) (iI 9) (ov 40 A m σ) = some (bZ (decide (kdT t k = 13)), (ov 40 A m σ)) := q_isWord H ht hk hQ.1 (w := 9) (by omega)
    have q8 : M_Md_isWord (A 0) (iI 8) (ov 40 A m σ) = some (bZ (decide (kdT t k = 12)), (ov 40 A m σ)) := q_isWord H ht hk hQ.1 (w := 8) (by omega)
    rw [E_Md_takePart_1]
    simp (disch := omega) only [mK_0 H, okO_ov, gd_true, aI_ov H.1, h23, l_0, l_8, l_9, q8, q9, bnd_some, bZ_0]
    cases ic
    · rw [if_neg (by decide), if_neg (by decide)]
    · rw [if_pos (by decide), if_pos rfl]
  have qn := q_isName H ht hk hQ.1
  have q40 : M_Md_isSign (A 0) (iI 40) (ov 40 A m σ) = some (bZ (decide (kdT t k = 40)), (ov 40 A m σ)) := q_isSign H ht hk hQ.1 (c := 40) (by omega) (by omega)
  have q5 : M_Md_isWord (A 0) (iI 5) (ov 40 A m σ) = some (bZ (decide (kdT t k = 9)), (ov 40 A m σ)) := q_isWord H ht hk hQ.1 (w := 5) (by omega)
  have qf := p_mfail H ht hk hQ.1 1
  replace qf : M_Md_faulty (A 0) (iI 1) (ov 40 A m σ) = _ := qf
  rw [e1, e2, E_Md_takePart_2]
  simp only [mK_0 H, okO_ov, gd_true, qn, q40, q5, qf, bnd_some, bZ_0, l_0, l_1, l_5, l_40]
  unfold stP
  by_cases cf : kdT t k = if ic = true then 13 else 12
  · rw [decide_eq_true cf, if_neg (by decide), if_pos (decide_eq_true (Or.inr (Or.inr (Or.inr (Or.inr cf)))))]
  rw [decide_eq_false cf, if_pos rfl]
  by_cases c3 : kdT t k = 3
  · rw [decide_eq_true c3, if_neg (by decide), if_pos (decide_eq_true (Or.inr (Or.inl c3)))]
  rw [decide_eq_false c3, if_pos rfl]
  by_cases c2 : kdT t k = 2
  · rw [decide_eq_true c2, if_neg (by decide), if_pos (decide_eq_true (Or.inl c2))]
  rw [decide_eq_false c2, if_pos rfl]
  by_cases c4 : kdT t k = 40
  · rw [decide_eq_true c4, if_neg (by decide), if_pos (decide_eq_true (Or.inr (Or.inr (Or.inr (Or.inl c4)))))]
  rw [decide_eq_false c4, if_pos rfl]
  by_cases c9 : kdT t k = 9
  · rw [decide_eq_true c9, if_neg (by decide), if_pos (decide_eq_true (Or.inr (Or.inr (Or.inl c9))))]
  rw [decide_eq_false c9, if_pos rfl, if_neg (by rw [decide_eq_true_iff]; omega)]
theorem tp_5 {t : PD} {A : Nat → Nat} {σ : AM} (H : LM A σ) (ht : wfT t) {ns : List (List Nat)} (hn : nsOk ns) {ic : Bool} {k : Nat} {c : List Nat} {m : VM} (hk : kOk t k) (hQ : QS t ns ic k c m) (rec : GT_Md_all_Md_products_Md_sums_Md_takePart_M) {w : Nat} (hw : w ≤ 5) : L_Md_takePart_0 rec (A 0) (iI ((5 - w : Nat) : Int)) (ov 40 A m σ) = L_Md_takePart_5 rec (A 0) (iI ((5 - w : Nat) : Int)) (bZ (decide (kdT t k = 2))) (bZ (decide (kdT t k = 3))) (ov 40 A (if foP t ns ic w k = 0 then m else sV m 0 8 (iI ((foP t ns ic w k + 16 * plT t k : Nat) : Int))) σ) := by
  have hl := kOk_le ht hk
  have hnl := hn.1
  have h7 := hQ.1.2.2.1
  rw [tp_3 H ht hk hQ]
  by_cases cs : stP ic (kdT t k) = true
  · rw [if_pos cs]
    have q2 := p_mfail H ht hk hQ.1 2
    replace q2 : M_Md_faulty (A 0) (iI 2) (ov 40 A m σ) = _ := q2
    have q5 := p_mfail H ht hk hQ.1 5
    replace q5 : M_Md_faulty (A 0) (iI 5) (ov 40 A m σ) = _ := q5
    have e4 : (kdT t k = 3 ∧ idxN ns (wdK t k) = ns.length → False) → L_Md_takePart_4 rec (A 0) (iI ((5 - w : Nat) : Int)) (bZ (decide (kdT t k = 2))) (bZ (decide (kdT t k = 3))) (ov 40 A m σ) = L_Md_takePart_5 rec (A 0) (iI ((5 - w : Nat) : Int)) (bZ (decide (kdT t k = 2))) (bZ (decide (kdT t k = 3))) (ov 40 A (if foP t ns ic w k = 0 then m else sV m 0 8 (iI ((foP t ns ic w k + 16 * plT t k : Nat) : Int))) σ) := fun hz => by
      have ef : foP t ns ic w k = if w = 0 then 5 else 0 := by unfold foP; rw [if_pos cs, if_neg hz]
      rw [ef, E_Md_takePart_4]
      simp (disch := omega) only [mK_0 H, okO_ov, gd_true, l_5, iI_eq, q5, bnd_some]
      by_cases z : w = 0
      · rw [if_pos (by omega), if_pos z, if_neg (by decide)]
      · rw [if_neg (by omega), if_neg z, if_pos rfl]
    by_cases c3 : kdT t k = 3
    · obtain ⟨n1, n2⟩ := q_nameK H ht hn hk hQ.1 hQ.2.2.1 c3
      rw [E_Md_takePart_3]
      simp (disch := omega) only [mK_0 H, mR_6 H, mK_4 H, mN_4 H, okO_ov, aR_ov, aN_ov, gd_true, gd_in, iI_cl, Int.toNat_natCast, aI_ov H.1, aL_ov H.1, h7, n1, n2, q2, bnd_some, l_0, l_2, bZ_0]
      rw [if_neg (by rw [decide_eq_true c3]; decide)]
      have hi := idx_le ns (wdK t k)
      by_cases z : idxN ns (wdK t k) = ns.length
      · have ef : foP t ns ic w k = 2 := by unfold foP; rw [if_pos cs, if_pos ⟨c3, z⟩]
        rw [if_pos z, ef, if_pos (by decide), if_neg (by decide)]
      · rw [if_neg z]
        simp (disch := omega) only [iI_lt]
        rw [if_neg (by omega)]
        exact e4 fun y => z y.2
    · rw [E_Md_takePart_3]
      simp only [l_0, bZ_0]
      rw [if_pos (decide_eq_false c3)]
      exact e4 fun y => c3 y.1
  · rw [if_neg cs]
    have ef : foP t ns ic w k = 1 := by unfold foP; rw [if_neg cs]
    rw [ef, if_neg (by decide)]
noncomputable abbrev QmD : Nat → GT_Md_all_Md_products_Md_sums_Md_takePart_M := Q_Md_all_Md_products_Md_sums_Md_takePart_M
theorem m_exp {t : PD} {A : Nat → Nat} {σ : AM} (H : LM A σ) (ht : wfT t) {ns : List (List Nat)} {ic : Bool} {s : Nat → PRs} (hs : gdP t s) {B : Nat} (hB : 1005 ≤ B) (hB2 : B < 1090) {g : Nat} {wi : Int32} (hX : pmT t ns ic A σ s B (fun σ => (QmD g).2.2.2.1 (A 0) wi σ)) : pmT t ns ic A σ (exS t s 4) (B + 4) (fun σ => (QmD (g + 4)).1 (A 0) wi σ) := by
  have h1 := m_products H ht hs hB (by omega) hX
  have g1 : gdP t (lvS t s 3) := lv_gd hs (by omega)
  have h2 := m_sums H ht g1 (B := B + 1) (by omega) (by omega) (rec := QmD (g + 1)) h1
  have g2 : gdP t (lvS t (lvS t s 3) 2) := lv_gd g1 (by omega)
  have h3 := m_test H ht g2 (B := B + 2) (by omega) (by omega) (rec := QmD (g + 2)) h2
  have g3 : gdP t (lvS t (lvS t (lvS t s 3) 2) 1) := lv_gd g2 (by omega)
  exact m_all H ht g3 (B := B + 3) (by omega) (by omega) (rec := QmD (g + 3)) h3
theorem m_part {t : PD} {A : Nat → Nat} {σ : AM} (H : LM A σ) (ht : wfT t) {ns : List (List Nat)} (hn : nsOk ns) {ic : Bool} : ∀ w, w ≤ 5 → ∀ g, 6 * w + 1 ≤ g → pmT t ns ic A σ (paS t ns ic w) (1005 + 4 * w) (fun σ => (QmD g).2.2.2.1 (A 0) (iI ((5 - w : Nat) : Int)) σ) := by
  have bad : ∀ w, w ≤ 5 → ∀ g, 1 ≤ g → ∀ k c m, kOk t k → c.length ≤ k + 5 → QS t ns ic k c m → ¬ foP t ns ic w k = 0 → ∃ m' : VM, (QmD g).2.2.2.1 (A 0) (iI ((5 - w : Nat) : Int)) (ov 40 A m σ) = some ((), (ov 40 A (m') σ)) ∧ QZ t ns ic c (1005 + 4 * w) (faP t k (foP t ns ic w k)) m m' := by
    intro w hw g hg k c m hk hc hQ hf
    obtain ⟨g, rfl⟩ : ∃ h, g = h + 1 := ⟨g - 1, by omega⟩
    have hl := kOk_le ht hk
    have hp := pl_b ht k
    have hfo : foP t ns ic w k ≤ 5 := by unfold foP; repeat (first | omega | split)
    show ∃ m' : VM, mw _ (L_Md_takePart_0 (QmD g) _ _ _) = _ ∧ _
    rw [tp_5 H ht hn hk hQ _ hw, if_neg hf]
    have h8 : (sV m 0 8 (iI ((foP t ns ic w k + 16 * plT t k : Nat) : Int))).1 0 8 = iI ((foP t ns ic w k + 16 * plT t k : Nat) : Int) := by simp (disch := decide) only [sV_eq, sW_eq, sV_ne, sW_ne, sV_2, sW_1, Nat.reduceEqDiff, ↓reduceIte]
    refine ⟨_, ?_, OnPq_0 m _ (by decide), ⟨c.length, by omega, by simp (disch := decide) only [sV_eq, sW_eq, sV_ne, sW_ne, sV_2, sW_1, Nat.reduceEqDiff, ↓reduceIte]; exact hQ.2.2.2.1⟩, h8, ?_, fun z => ?_⟩
    · rw [E_Md_takePart_5]
      simp (disch := omega) only [mK_0 H, okO_ov, gd_true, aI_ov H.1, h8, l_0, iI_lt]
      rw [if_pos (by omega), mw_ov]
    · show foP t ns ic w k + 16 * plT t k ≤ 20000
      omega
    · have z : foP t ns ic w k + 16 * plT t k = 0 := z
      omega
  intro w
  induction w with
  | zero =>
    intro hw g hg k c m hk hc hQ
    have := fo_0 (t := t) (ns := ns) (ic := ic) (k := k)
    exact bad 0 hw g (by omega) k c m hk hc hQ (by omega)
  | succ w ih =>
    intro hw g hg k c m hk hc hQ
    by_cases hf : foP t ns ic (w + 1) k = 0
    · obtain ⟨g, rfl⟩ : ∃ h, g = h + 1 := ⟨g - 1, by omega⟩
      have hl := kOk_le ht hk
      have hk1 := kOk_s hk (fo_kd hf)
      have hl1 := kOk_le ht hk1
      have h7 := hQ.1.2.2.1
      have h8 := hQ.1.2.2.2
      have q9 : M_Md_hasWord (A 0) (iI 5) (ov 40 A m σ) = some (bZ (decide (kdT t k = 9)), (ov 40 A (if kdT t k = 9 then atS m (k + 1) else m) σ)) := q_hasWord H ht hk hQ.1 (w := 5) (by omega)
      have q40 : M_Md_hasSign (A 0) (iI 40) (ov 40 A m σ) = some (bZ (decide (kdT t k = 40)), (ov 40 A (if kdT t k = 40 then atS m (k + 1) else m) σ)) := q_hasSign H ht hk hQ.1 (c := 40) (by omega) (by omega)
      have ed : ((5 - (w + 1) : Nat) : Int) + 1 = ((5 - w : Nat) : Int) := by omega
      show ∃ m' : VM, mw _ (L_Md_takePart_0 (QmD g) _ _ _) = _ ∧ _
      rw [tp_5 H ht hn hk hQ _ hw, if_pos hf]
      by_cases c9 : kdT t k = 9
      · rw [decide_eq_true c9, if_pos c9] at q9
        obtain ⟨m3, e3, x1, ⟨u, u1, u2⟩, x3, x4, x5⟩ := ih (by omega) g (by omega) (k + 1) c (atS m (k + 1)) hk1 (by omega) (QS_at hQ _)
        replace e3 : (QmD g).2.2.2.1 (A 0) (iI ((5 - w : Nat) : Int)) (ov 40 A (atS m (k + 1)) σ) = some ((), (ov 40 A m3 σ)) := e3
        have qe := p_emit H u2 (by omega) (iI 3) (iI 0)
        have e : paS t ns ic (w + 1) k = bR (paS t ns ic w (k + 1)) (fun k' l => (0, k', l ++ [0])) := (if_pos hf).trans (if_pos c9)
        rw [e]
        have hO : OnPq m (emS m3 u (iI 3) (iI 0)) := OnPq_t (OnPq_at _ _) (OnPq_t x1 (OnPq_em _ _ _ _))
        have h84 : (emS m3 u (iI 3) (iI 0)).1 0 8 = iI ((paS t ns ic w (k + 1)).1 : Int) := by rw [em_7 _ _ _ _ (by decide)]; exact x3
        refine ⟨emS m3 u (iI 3) (iI 0), ?_, ?_⟩
        · rw [E_Md_takePart_5]
          simp (disch := omega) only [E_Md_takePart_8, mK_0 H, okO_ov, gd_true, aI_ov H.1, h8, l_0, l_1, l_3, l_5, iI_lt, iI_add, ed, q9, e3, qe, bnd_some, bZ_0, reduceCtorEq, Int.lt_irrefl, ↓reduceIte, mw_ov]
        · by_cases z : (paS t ns ic w (k + 1)).1 = 0
          · rw [show bR (paS t ns ic w (k + 1)) (fun k' l => (0, k', l ++ [0])) = (0, (paS t ns ic w (k + 1)).2.1, (paS t ns ic w (k + 1)).2.2 ++ [0]) from if_pos z]
            obtain ⟨f1, f2, f3⟩ := pa_gd (t := t) (ns := ns) (ic := ic) w (k + 1) hk1 z
            have hg := kOk_le ht f1
            have q3 := x5 z
            have eu : u = (c ++ (paS t ns ic w (k + 1)).2.2).length := by
              have h1 := q3.2.2.2.1.symm.trans u2
              rw [List.length_append] at h1 ⊢
              rw [iI_eq (by omega) (by omega) (by omega) (by omega)] at h1
              omega
            have q4 := QS_em q3 0
            rw [← eu, List.append_assoc] at q4
            exact ⟨hO, ⟨u + 1, by omega, by unfold emS; simp (disch := decide) only [sV_eq, sW_eq, sV_ne, sW_ne, sV_2, sW_1, Nat.reduceEqDiff, ↓reduceIte]⟩, by rw [h84, z], Nat.zero_le _, fun _ => q4⟩
          · rw [bR_no z]
            exact ⟨hO, ⟨u + 1, by omega, by unfold emS; simp (disch := decide) only [sV_eq, sW_eq, sV_ne, sW_ne, sV_2, sW_1, Nat.reduceEqDiff, ↓reduceIte]⟩, h84, x4, fun x => absurd x z⟩
      · rw [decide_eq_false c9, if_neg c9] at q9
        by_cases c40 : kdT t k = 40
        · rw [decide_eq_true c40, if_pos c40] at q40
          have hX := ih (by omega) (g - 4) (by omega)
          have hA := m_exp H ht (pa_gd (t := t) (ns := ns) (ic := ic) w) (B := 1005 + 4 * w) (by omega) (by omega) hX
          rw [show g - 4 + 4 = g by omega] at hA
          obtain ⟨m3, e3, x1, x2, x3, x4, x5⟩ := hA (k + 1) c (atS m (k + 1)) hk1 (by omega) (QS_at hQ _)
          replace e3 : (QmD g).1 (A 0) (iI ((5 - w : Nat) : Int)) (ov 40 A (atS m (k + 1)) σ) = some ((), (ov 40 A m3 σ)) := e3
          have hO : OnPq m m3 := OnPq_t (OnPq_at _ _) x1
          have e : paS t ns ic (w + 1) k = bR (exS t (paS t ns ic w) 4 (k + 1)) (fun k' l => epS t 41 k' l) := (if_pos hf).trans ((if_neg c9).trans (if_pos c40))
          rw [e]
          by_cases z : (exS t (paS t ns ic w) 4 (k + 1)).1 = 0
          · obtain ⟨f1, f2, f3⟩ := ex_gd (pa_gd (t := t) (ns := ns) (ic := ic) w) 4 (Nat.le_refl _) (k + 1) hk1 z
            have q3 := x5 z
            have hp := pl_b ht (exS t (paS t ns ic w) 4 (k + 1)).2.1
            have q41 := p_takeS H ht f1 q3.1 (c := 41) (by omega) (by omega)
            replace q41 : M_Md_takeSign (A 0) (iI 41) (ov 40 A m3 σ) = _ := q41
            rw [show bR (exS t (paS t ns ic w) 4 (k + 1)) (fun k' l => epS t 41 k' l) = epS t 41 (exS t (paS t ns ic w) 4 (k + 1)).2.1 (exS t (paS t ns ic w) 4 (k + 1)).2.2 from if_pos z]
            unfold epS
            refine ⟨if kdT t (exS t (paS t ns ic w) 4 (k + 1)).2.1 = 41 then atS m3 ((exS t (paS t ns ic w) 4 (k + 1)).2.1 + 1) else sV m3 0 8 (iI ((1 + 16 * plT t (exS t (paS t ns ic w) 4 (k + 1)).2.1 : Nat) : Int)), ?_, ?_⟩
            · rw [E_Md_takePart_5]
              simp (disch := omega) only [E_Md_takePart_8, mK_0 H, okO_ov, gd_true, aI_ov H.1, h8, l_0, l_1, l_5, l_40, l_41, iI_lt, iI_add, ed, q9, q40, e3, q41, bnd_some, bZ_0, reduceCtorEq, Int.lt_irrefl, ↓reduceIte, mw_ov]
            · obtain ⟨u, u1, u2⟩ := x2
              by_cases y : kdT t (exS t (paS t ns ic w) 4 (k + 1)).2.1 = 41
              · rw [if_pos y, if_pos y]
                exact ⟨OnPq_t hO (OnPq_at _ _), ⟨u, by omega, by unfold atS; simp (disch := decide) only [sV_eq, sW_eq, sV_ne, sW_ne, sV_2, sW_1, Nat.reduceEqDiff, ↓reduceIte]; exact u2⟩, by unfold atS; simp (disch := decide) only [sV_eq, sW_eq, sV_ne, sW_ne, sV_2, sW_1, Nat.reduceEqDiff, ↓reduceIte]; exact q3.1.2.2.2, Nat.zero_le _, fun _ => QS_at q3 _⟩
              · rw [if_neg y, if_neg y]
                refine ⟨OnPq_t hO (OnPq_0 _ _ (by decide)), ⟨u, by omega, by simp (disch := decide) only [sV_eq, sW_eq, sV_ne, sW_ne, sV_2, sW_1, Nat.reduceEqDiff, ↓reduceIte]; exact u2⟩, by simp (disch := decide) only [sV_eq, sW_eq, sV_ne, sW_ne, sV_2, sW_1, Nat.reduceEqDiff, ↓reduceIte]; rfl, ?_, fun x => ?_⟩
                · show 1 + 16 * plT t _ ≤ 20000
                  omega
                · have x : 1 + 16 * plT t _ = 0 := x
                  omega
          · have q41 := p_takeSF H x3 z x4 (iI 41)
            rw [bR_no z]
            refine ⟨m3, ?_, hO, QU_le x2 (by omega), x3, x4, fun x => absurd x z⟩
            rw [E_Md_takePart_5]
            simp (disch := omega) only [E_Md_takePart_8, mK_0 H, okO_ov, gd_true, aI_ov H.1, h8, l_0, l_1, l_5, l_40, l_41, iI_lt, iI_add, ed, q9, q40, e3, q41, bnd_some, bZ_0, reduceCtorEq, Int.lt_irrefl, ↓reduceIte, mw_ov]
        · rw [decide_eq_false c40, if_neg c40] at q40
          have e : paS t ns ic (w + 1) k = (0, k + 1, [cdP t ns k]) := (if_pos hf).trans ((if_neg c9).trans (if_neg c40))
          rw [e]
          have hRC := hQ.2.2.2
          have qe := fun a b => p_emit H hRC.1 (by omega) a b
          have key : L_Md_takePart_5 (QmD g) (A 0) (iI ((5 - (w + 1) : Nat) : Int)) (bZ (decide (kdT t k = 2))) (bZ (decide (kdT t k = 3))) (ov 40 A m σ) = some ((), (ov 40 A (atS (emS m c.length (iI (opR (cdP t ns k) : Int)) (iI (agR (cdP t ns k) : Int))) (k + 1)) σ)) := by
            have e7 : ∀ a b, (emS m c.length a b).1 0 7 = iI (k : Int) := fun a b => by rw [em_7 _ _ _ _ (by decide)]; exact h7
            rw [E_Md_takePart_5]
            by_cases c2 : kdT t k = 2
            · have hv := ((hQ.1.1 k hk).2.2 (by omega)).2.1 c2
              have hvl := vl_lt c2 ht
              have hcd : cdP t ns k = 32 + vlK t k := if_pos c2
              have ho : opR (32 + vlK t k) = 1 := by
                unfold opR
                rw [if_neg (by omega), if_neg (by omega), if_neg (by omega), if_neg (by omega), if_neg (by omega), if_neg (by omega), if_neg (by omega), if_neg (by omega), if_neg (by omega), if_neg (by omega)]
              have ha : agR (32 + vlK t k) = vlK t k := by
                unfold agR
                rw [if_neg (by omega), if_neg (by omega), if_neg (by omega), if_neg (by omega)]; omega
              rw [hcd, ho, ha, decide_eq_true c2, decide_eq_false (show ¬ kdT t k = 3 by omega)]
              rw [iI_j (by omega) (by omega)] at hv
              simp (disch := omega) only [E_Md_takePart_6, E_Md_takePart_7, E_Md_takePart_8, mK_0 H, mR_6 H, mK_4 H, mN_4 H, okO_ov, aR_ov, aN_ov, gd_true, gd_in, iI_cl, Int.toNat_natCast, aI_ov H.1, aL_ov H.1, sI_ov H.1, letT_eq, h7, h8, e7, hv, jI_i, l_0, l_1, l_2, l_5, l_6, l_40, iI_lt, iI_add, iI_s, q9, q40, qe, bnd_some, bZ_0, reduceCtorEq, Int.lt_irrefl, ↓reduceIte]
              rfl
            · by_cases c3 : kdT t k = 3
              · obtain ⟨n1, n2⟩ := q_nameK H ht hn hk hQ.1 hQ.2.2.1 c3
                have hz : ¬ idxN ns (wdK t k) = ns.length := fun y => by
                  unfold foP at hf
                  split at hf
                  · rw [if_pos ⟨c3, y⟩] at hf; omega
                  · omega
                have hi := idx_le ns (wdK t k)
                have hnl := hn.1
                rw [if_neg hz] at n2
                have hcd : cdP t ns k = 16 + idxN ns (wdK t k) := (if_neg c2).trans (if_pos c3)
                have ho : opR (16 + idxN ns (wdK t k)) = 2 := by
                  unfold opR
                  rw [if_neg (by omega), if_neg (by omega), if_neg (by omega), if_neg (by omega), if_neg (by omega), if_neg (by omega), if_neg (by omega), if_neg (by omega), if_neg (by omega), if_pos (by omega)]
                have ha : agR (16 + idxN ns (wdK t k)) = idxN ns (wdK t k) := by
                  unfold agR
                  rw [if_neg (by omega), if_neg (by omega), if_neg (by omega), if_pos (by omega)]; omega
                rw [hcd, ho, ha, decide_eq_false c2, decide_eq_true c3]
                simp (disch := omega) only [E_Md_takePart_6, E_Md_takePart_7, E_Md_takePart_8, mK_0 H, mR_6 H, mK_4 H, mN_4 H, okO_ov, aR_ov, aN_ov, gd_true, gd_in, iI_cl, Int.toNat_natCast, aI_ov H.1, aL_ov H.1, sI_ov H.1, letT_eq, h7, h8, e7, n1, n2, l_0, l_1, l_2, l_5, l_6, l_40, iI_lt, iI_add, iI_s, q9, q40, qe, bnd_some, bZ_0, reduceCtorEq, Int.lt_irrefl, ↓reduceIte]
                rfl
              · have hcd : cdP t ns k = 8 := (if_neg c2).trans (if_neg c3)
                rw [hcd, decide_eq_false c2, decide_eq_false c3]
                simp (disch := omega) only [E_Md_takePart_6, E_Md_takePart_7, E_Md_takePart_8, mK_0 H, okO_ov, gd_true, aI_ov H.1, sI_ov H.1, letT_eq, h7, h8, e7, l_0, l_1, l_2, l_5, l_6, l_40, iI_lt, iI_add, iI_s, q9, q40, qe, bnd_some, bZ_0, reduceCtorEq, Int.lt_irrefl, ↓reduceIte]
                rfl
          rw [key]
          refine ⟨_, mw_ov _ _ _ _ _ _, OnPq_t (OnPq_em _ _ _ _) (OnPq_at _ _), ⟨c.length + 1, by omega, by unfold atS emS; simp (disch := decide) only [sV_eq, sW_eq, sV_ne, sW_ne, sV_2, sW_1, Nat.reduceEqDiff, ↓reduceIte]⟩, ?_, Nat.zero_le _, fun _ => QS_at (QS_em hQ _) _⟩
          unfold atS
          rw [sV_eq, if_neg (by decide), em_7 _ _ _ _ (by decide)]; exact h8
    · have e : paS t ns ic (w + 1) k = faP t k (foP t ns ic (w + 1) k) := if_neg hf
      rw [e]
      exact bad (w + 1) hw g (by omega) k c m hk hc hQ hf
/-- a whole formula -/
theorem m_formula {t : PD} {A : Nat → Nat} {σ : AM} (H : LM A σ) (ht : wfT t) {ns : List (List Nat)} (hn : nsOk ns) {ic : Bool} : pmT t ns ic A σ (fmS t ns ic) 1029 (fun σ => M_Md_all (A 0) (iI 0) σ) := by
  have h := m_exp H ht (pa_gd (t := t) (ns := ns) (ic := ic) 5) (B := 1025) (by omega) (by omega) (m_part H ht hn (ic := ic) 5 (Nat.le_refl _) 76 (by omega))
  exact h
