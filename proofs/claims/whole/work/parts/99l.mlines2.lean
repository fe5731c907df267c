/-! ===== the reference reads lines: most, bar, allow, cost ===== -/
theorem l_most {t : PD} {A : Nat → Nat} {σ : AM} (H : LM A σ) (ht : wfT t) {x : XS} (hx : xOk t x) {c : List Nat} {m : VM} (hL : QL t x c m) (hk5 : kdT t (xsK x) = 5) : ∃ m1 : VM, M_Md_readLine (A 0) (ov 40 A m σ) = some ((), (ov 40 A m1 σ)) ∧ LnZ A σ t (moL t x) m m1 := by
  obtain ⟨hQ, ⟨hR, hC⟩, hc⟩ := hL
  obtain ⟨x1, x2, x3, x4, x5⟩ := hx
  have hk1 := kOk_s x1 (show ¬ kdT t (xsK x) = 0 by omega)
  have hl1 := kOk_le ht hk1
  have hnl := x2.1
  have hF : RF m := ⟨_, hnl, hR.2.1.1⟩
  have q0 : M_Md_isWord (A 0) (iI 0) (ov 40 A m σ) = some (bZ (decide (kdT t (xsK x) = 4)), (ov 40 A m σ)) := q_isWord H ht x1 hQ (w := 0) (by omega)
  rw [decide_eq_false (by omega)] at q0
  have q1 : M_Md_isWord (A 0) (iI 1) (ov 40 A m σ) = some (bZ (decide (kdT t (xsK x) = 5)), (ov 40 A m σ)) := q_isWord H ht x1 hQ (w := 1) (by omega)
  rw [decide_eq_true hk5] at q1
  have h16 := hR.1.1
  have hlt := oI_lt (o := xsM x) (fun v hv => by have := x3 v hv; omega)
  have h7 := hQ.2.2.1
  unfold M_Md_readLine moL
  by_cases cS : (xsM x).isSome = true
  · rw [if_pos cS]
    have qf := p_mfail H ht x1 hQ 3
    replace qf : M_Md_faulty (A 0) (iI 3) (ov 40 A m σ) = some (_, _) := qf
    refine ⟨_, ?_, QL_fa H ht x (OnL_r m) (by omega) (by omega) hF⟩
    rw [E_Md_readLine_0]
    simp (disch := omega) only [mK_0 H, okO_ov, gd_true, aI_ov H.1, q0, q1, qf, h16, hlt, bnd_some, bZ_0, l_0, l_1, l_3, reduceCtorEq, ↓reduceIte]
    rw [if_neg (by rw [cS]; decide), mw_ov]
  · rw [if_neg cS]
    have cS0 : (xsM x).isSome = false := by cases q : (xsM x).isSome; rfl; exact absurd q cS
    have hQ1 := QK_at hQ (xsK x + 1)
    have O1 : OnL m (atS m (xsK x + 1)) := OnL_W (OnLw_Q (OnPq_at m _))
    have qn := p_takeN H ht hk1 hQ1 (g := 9) (by omega)
    replace qn : M_Md_takeNumber (A 0) (iI 1) (iI 9) (ov 40 A (sV m 0 7 (iI ((xsK x + 1 : Nat) : Int))) σ) = _ := qn
    have run : ∀ (v : Int32) (mm : VM), M_Md_takeNumber (A 0) (iI 1) (iI 9) (ov 40 A (sV m 0 7 (iI ((xsK x + 1 : Nat) : Int))) σ) = some (v, (ov 40 A mm σ)) → mw (ov 40 A m σ) (L_Md_readLine_0 (A 0) (ov 40 A m σ)) = some ((), (ov 40 A (sV mm 0 16 v) σ)) := fun v mm e => by
      rw [E_Md_readLine_0]
      simp (disch := omega) only [E_Md_readLine_1, mK_0 H, okO_ov, gd_true, aI_ov H.1, sI_ov H.1, letT_eq, q0, q1, h16, hlt, h7, e, bnd_some, bZ_0, l_0, l_1, l_9, iI_add, iI_s, reduceCtorEq, ↓reduceIte]
      rw [if_pos cS0, mw_ov]
    have bad : ∀ v, 0 < v → v ≤ 6 → M_Md_takeNumber (A 0) (iI 1) (iI 9) (ov 40 A (sV m 0 7 (iI ((xsK x + 1 : Nat) : Int))) σ) = some (iI 0, (ov 40 A (sV (atS m (xsK x + 1)) 0 8 (iI ((v + 16 * plT t (xsK x + 1) : Nat) : Int))) σ)) → ∃ m1 : VM, mw (ov 40 A m σ) (L_Md_readLine_0 (A 0) (ov 40 A m σ)) = some ((), (ov 40 A m1 σ)) ∧ LnZ A σ t (faL t (xsK x + 1) v x) m m1 := fun v hv hv2 e => by
      have hp := pl_b ht (xsK x + 1)
      refine ⟨_, run _ _ e, QL_bad H (OnL_t O1 (OnL_t (OnL_0 _ _ (by decide)) (OnL_0 _ _ (by decide)))) (by simp (disch := decide) only [sV_eq, sW_eq, sV_ne, sW_ne, sV_2, sW_1, Nat.reduceEqDiff, ↓reduceIte]; rfl) ?_ ?_ ?_⟩
      · show ¬ v + 16 * plT t _ = 0
        omega
      · show v + 16 * plT t _ ≤ 20000
        omega
      · obtain ⟨n, n1, n2⟩ := hF
        exact ⟨n, n1, by unfold atS; simp (disch := decide) only [sV_eq, sW_eq, sV_ne, sW_ne, sV_2, sW_1, Nat.reduceEqDiff, ↓reduceIte]; exact n2⟩
    unfold nuL
    by_cases c2 : kdT t (xsK x + 1) = 2
    · rw [if_pos c2] at qn ⊢
      by_cases z : vlK t (xsK x + 1) < 1 ∨ 9 < vlK t (xsK x + 1)
      · rw [if_pos z] at qn ⊢
        exact bad 4 (by omega) (by omega) qn
      · rw [if_neg z] at qn ⊢
        have k2 := kOk_s hk1 (show ¬ kdT t (xsK x + 1) = 0 by omega)
        refine ⟨_, run _ _ qn, ?_⟩
        have OA : OnL m (sV (atS (atS m (xsK x + 1)) (xsK x + 1 + 1)) 0 16 (iI (vlK t (xsK x + 1) : Int))) := OnL_t O1 (OnL_t (OnL_W (OnLw_Q (OnPq_at _ _))) (OnL_0 _ _ (by decide)))
        refine QL_fin H ht k2 OA (QK_L OA hQ (by unfold atS; simp (disch := decide) only [sV_eq, sW_eq, sV_ne, sW_ne, sV_2, sW_1, Nat.reduceEqDiff, ↓reduceIte]) (by unfold atS; simp (disch := decide) only [sV_eq, sW_eq, sV_ne, sW_ne, sV_2, sW_1, Nat.reduceEqDiff, ↓reduceIte]; exact hQ.2.2.2)) (c := c) ⟨?_, ?_⟩ rfl ?_ hnl
        · obtain ⟨⟨a1, a2, a3⟩, a4, a5, a6, a7⟩ := RT0_W (OnLw_Q (OnPq_at _ (xsK x + 1 + 1))) (RT0_W (OnLw_Q (OnPq_at m (xsK x + 1))) hR)
          refine ⟨⟨by simp (disch := decide) only [sV_eq, sW_eq, sV_ne, sW_ne, sV_2, sW_1, Nat.reduceEqDiff, ↓reduceIte]; rfl, by simp (disch := decide) only [sV_eq, sW_eq, sV_ne, sW_ne, sV_2, sW_1, Nat.reduceEqDiff, ↓reduceIte]; exact a2, by simp (disch := decide) only [sV_eq, sW_eq, sV_ne, sW_ne, sV_2, sW_1, Nat.reduceEqDiff, ↓reduceIte]; exact a3⟩, ⟨by simp (disch := decide) only [sV_eq, sW_eq, sV_ne, sW_ne, sV_2, sW_1, Nat.reduceEqDiff, ↓reduceIte]; exact a4.1, a4.2⟩, ?_, ?_, ?_⟩
          · rw [sV_ne _ _ _ _ (by decide)]; exact a5
          · rw [sV_ne _ _ _ _ (by decide)]; exact a6
          · rw [sV_ne _ _ _ _ (by decide)]; exact a7
        · exact RC_0 (RC_0 (RC_0 hC _ (by decide)) _ (by decide)) _ (by decide)
        · show c.length ≤ xsK x + 2 + cF x
          omega
    · rw [if_neg c2] at qn ⊢
      exact bad 1 (by omega) (by omega) qn
theorem l_bar {t : PD} {A : Nat → Nat} {σ : AM} (H : LM A σ) (ht : wfT t) {x : XS} (hx : xOk t x) {c : List Nat} {m : VM} (hL : QL t x c m) (hk6 : kdT t (xsK x) = 6) : ∃ m1 : VM, M_Md_readLine (A 0) (ov 40 A m σ) = some ((), (ov 40 A m1 σ)) ∧ LnZ A σ t (baL t x) m m1 := by
  obtain ⟨hQ, ⟨hR, hC⟩, hc⟩ := hL
  obtain ⟨x1, x2, x3, x4, x5⟩ := hx
  have hk1 := kOk_s x1 (show ¬ kdT t (xsK x) = 0 by omega)
  have hl1 := kOk_le ht hk1
  have hnl := x2.1
  have hF : RF m := ⟨_, hnl, hR.2.1.1⟩
  have q0 : M_Md_isWord (A 0) (iI 0) (ov 40 A m σ) = some (bZ (decide (kdT t (xsK x) = 4)), (ov 40 A m σ)) := q_isWord H ht x1 hQ (w := 0) (by omega)
  rw [decide_eq_false (by omega)] at q0
  have q1 : M_Md_isWord (A 0) (iI 1) (ov 40 A m σ) = some (bZ (decide (kdT t (xsK x) = 5)), (ov 40 A m σ)) := q_isWord H ht x1 hQ (w := 1) (by omega)
  rw [decide_eq_false (by omega)] at q1
  have q2 : M_Md_isWord (A 0) (iI 2) (ov 40 A m σ) = some (bZ (decide (kdT t (xsK x) = 6)), (ov 40 A m σ)) := q_isWord H ht x1 hQ (w := 2) (by omega)
  rw [decide_eq_true hk6] at q2
  have h16 := hR.1.2.1
  have hlt := oI_lt (o := xsB x) (fun v hv => by have := x4 v hv; omega)
  have h7 := hQ.2.2.1
  unfold M_Md_readLine baL
  by_cases cS : (xsB x).isSome = true
  · rw [if_pos cS]
    have qf := p_mfail H ht x1 hQ 3
    replace qf : M_Md_faulty (A 0) (iI 3) (ov 40 A m σ) = some (_, _) := qf
    refine ⟨_, ?_, QL_fa H ht x (OnL_r m) (by omega) (by omega) hF⟩
    rw [E_Md_readLine_0]
    simp (disch := omega) only [mK_0 H, okO_ov, gd_true, aI_ov H.1, q0, q1, q2, qf, h16, hlt, bnd_some, bZ_0, l_0, l_1, l_2, l_3, reduceCtorEq, ↓reduceIte]
    rw [if_neg (by rw [cS]; decide), mw_ov]
  · rw [if_neg cS]
    have cS0 : (xsB x).isSome = false := by cases q : (xsB x).isSome; rfl; exact absurd q cS
    have hQ1 := QK_at hQ (xsK x + 1)
    have O1 : OnL m (atS m (xsK x + 1)) := OnL_W (OnLw_Q (OnPq_at m _))
    have qn := p_takeN H ht hk1 hQ1 (g := 60) (by omega)
    replace qn : M_Md_takeNumber (A 0) (iI 1) (iI 60) (ov 40 A (sV m 0 7 (iI ((xsK x + 1 : Nat) : Int))) σ) = _ := qn
    have run : ∀ (v : Int32) (mm : VM), M_Md_takeNumber (A 0) (iI 1) (iI 60) (ov 40 A (sV m 0 7 (iI ((xsK x + 1 : Nat) : Int))) σ) = some (v, (ov 40 A mm σ)) → mw (ov 40 A m σ) (L_Md_readLine_0 (A 0) (ov 40 A m σ)) = some ((), (ov 40 A (sV mm 0 17 v) σ)) := fun v mm e => by
      rw [E_Md_readLine_0]
      simp (disch := omega) only [E_Md_readLine_1, mK_0 H, okO_ov, gd_true, aI_ov H.1, sI_ov H.1, letT_eq, q0, q1, q2, h16, hlt, h7, e, bnd_some, bZ_0, l_0, l_1, l_2, l_60, iI_add, iI_s, reduceCtorEq, ↓reduceIte]
      rw [if_pos cS0, mw_ov]
    have bad : ∀ v, 0 < v → v ≤ 6 → M_Md_takeNumber (A 0) (iI 1) (iI 60) (ov 40 A (sV m 0 7 (iI ((xsK x + 1 : Nat) : Int))) σ) = some (iI 0, (ov 40 A (sV (atS m (xsK x + 1)) 0 8 (iI ((v + 16 * plT t (xsK x + 1) : Nat) : Int))) σ)) → ∃ m1 : VM, mw (ov 40 A m σ) (L_Md_readLine_0 (A 0) (ov 40 A m σ)) = some ((), (ov 40 A m1 σ)) ∧ LnZ A σ t (faL t (xsK x + 1) v x) m m1 := fun v hv hv2 e => by
      have hp := pl_b ht (xsK x + 1)
      refine ⟨_, run _ _ e, QL_bad H (OnL_t O1 (OnL_t (OnL_0 _ _ (by decide)) (OnL_0 _ _ (by decide)))) (by simp (disch := decide) only [sV_eq, sW_eq, sV_ne, sW_ne, sV_2, sW_1, Nat.reduceEqDiff, ↓reduceIte]; rfl) ?_ ?_ ?_⟩
      · show ¬ v + 16 * plT t _ = 0
        omega
      · show v + 16 * plT t _ ≤ 20000
        omega
      · obtain ⟨n, n1, n2⟩ := hF
        exact ⟨n, n1, by unfold atS; simp (disch := decide) only [sV_eq, sW_eq, sV_ne, sW_ne, sV_2, sW_1, Nat.reduceEqDiff, ↓reduceIte]; exact n2⟩
    unfold nuL
    by_cases c2 : kdT t (xsK x + 1) = 2
    · rw [if_pos c2] at qn ⊢
      by_cases z : vlK t (xsK x + 1) < 1 ∨ 60 < vlK t (xsK x + 1)
      · rw [if_pos z] at qn ⊢
        exact bad 4 (by omega) (by omega) qn
      · rw [if_neg z] at qn ⊢
        have k2 := kOk_s hk1 (show ¬ kdT t (xsK x + 1) = 0 by omega)
        refine ⟨_, run _ _ qn, ?_⟩
        have OA : OnL m (sV (atS (atS m (xsK x + 1)) (xsK x + 1 + 1)) 0 17 (iI (vlK t (xsK x + 1) : Int))) := OnL_t O1 (OnL_t (OnL_W (OnLw_Q (OnPq_at _ _))) (OnL_0 _ _ (by decide)))
        refine QL_fin H ht k2 OA (QK_L OA hQ (by unfold atS; simp (disch := decide) only [sV_eq, sW_eq, sV_ne, sW_ne, sV_2, sW_1, Nat.reduceEqDiff, ↓reduceIte]) (by unfold atS; simp (disch := decide) only [sV_eq, sW_eq, sV_ne, sW_ne, sV_2, sW_1, Nat.reduceEqDiff, ↓reduceIte]; exact hQ.2.2.2)) (c := c) ⟨?_, ?_⟩ rfl ?_ hnl
        · obtain ⟨⟨a1, a2, a3⟩, a4, a5, a6, a7⟩ := RT0_W (OnLw_Q (OnPq_at _ (xsK x + 1 + 1))) (RT0_W (OnLw_Q (OnPq_at m (xsK x + 1))) hR)
          refine ⟨⟨by simp (disch := decide) only [sV_eq, sW_eq, sV_ne, sW_ne, sV_2, sW_1, Nat.reduceEqDiff, ↓reduceIte]; exact a1, by simp (disch := decide) only [sV_eq, sW_eq, sV_ne, sW_ne, sV_2, sW_1, Nat.reduceEqDiff, ↓reduceIte]; rfl, by simp (disch := decide) only [sV_eq, sW_eq, sV_ne, sW_ne, sV_2, sW_1, Nat.reduceEqDiff, ↓reduceIte]; exact a3⟩, ⟨by simp (disch := decide) only [sV_eq, sW_eq, sV_ne, sW_ne, sV_2, sW_1, Nat.reduceEqDiff, ↓reduceIte]; exact a4.1, a4.2⟩, ?_, ?_, ?_⟩
          · rw [sV_ne _ _ _ _ (by decide)]; exact a5
          · rw [sV_ne _ _ _ _ (by decide)]; exact a6
          · rw [sV_ne _ _ _ _ (by decide)]; exact a7
        · exact RC_0 (RC_0 (RC_0 hC _ (by decide)) _ (by decide)) _ (by decide)
        · show c.length ≤ xsK x + 2 + cF x
          omega
    · rw [if_neg c2] at qn ⊢
      exact bad 1 (by omega) (by omega) qn
theorem m_whole {t : PD} {A : Nat → Nat} {σ : AM} (H : LM A σ) (ht : wfT t) {ns : List (List Nat)} (hn : nsOk ns) {ic : Bool} {k : Nat} {c : List Nat} {m : VM} (hk : kOk t k) (hc : c.length ≤ k + 5) (q : QK t k m) (r : RN ns m) (hC : RC c m) : ∃ m' : VM, M_Md_readWhole (A 0) (bZ (!ic)) (ov 40 A m σ) = some ((), (ov 40 A (m') σ)) ∧ OnLw m m' ∧ m'.1 0 8 = iI ((fmS t ns ic k).1 : Int) ∧ (fmS t ns ic k).1 ≤ 20000 ∧ ((fmS t ns ic k).1 = 0 → QK t (fmS t ns ic k).2.1 m' ∧ RC (c ++ ((fmS t ns ic k).2.2 ++ [9])) m') := by
  have O1 : OnLw m (sV m 0 23 (bZ (!ic))) := OnLw_0 m _ (by decide)
  have hQ : QS t ns ic k c (sV m 0 23 (bZ (!ic))) := ⟨QK_L (OnL_W O1) q (by simp (disch := decide) only [sV_eq, sW_eq, sV_ne, sW_ne, sV_2, sW_1, Nat.reduceEqDiff, ↓reduceIte]; exact q.2.2.1) (by simp (disch := decide) only [sV_eq, sW_eq, sV_ne, sW_ne, sV_2, sW_1, Nat.reduceEqDiff, ↓reduceIte]; exact q.2.2.2), by simp (disch := decide) only [sV_eq, sW_eq, sV_ne, sW_ne, sV_2, sW_1, Nat.reduceEqDiff, ↓reduceIte], ⟨by simp (disch := decide) only [sV_eq, sW_eq, sV_ne, sW_ne, sV_2, sW_1, Nat.reduceEqDiff, ↓reduceIte]; exact r.1, r.2⟩, RC_0 hC _ (by decide)⟩
  obtain ⟨m2, e2, y1, ⟨u, u1, u2⟩, y3, y4, y5⟩ := m_formula H ht hn k c _ hk hc hQ
  replace e2 : M_Md_all (A 0) (iI 0) (ov 40 A (sV m 0 23 (bZ (!ic))) σ) = some ((), (ov 40 A m2 σ)) := e2
  have e3 := p_emit H u2 (by omega) (iI 0) (iI 0)
  refine ⟨emS m2 u (iI 0) (iI 0), ?_, OnLw_t O1 (OnLw_Q (OnPq_t y1 (OnPq_em _ _ _ _))), by rw [em_7 _ _ _ _ (by decide)]; exact y3, y4, fun z => ?_⟩
  · unfold M_Md_readWhole
    rw [E_Md_readWhole_0]
    simp (disch := omega) only [mK_0 H, okO_ov, gd_true, sI_ov H.1, letT_eq, isB_bZ, l_0, e2, e3, bnd_some, mw_ov]
  · obtain ⟨f1, f2, f3⟩ := fm_gd (t := t) (ns := ns) (ic := ic) k hk z
    have hg := kOk_le ht f1
    have q3 := y5 z
    have eu : u = (c ++ (fmS t ns ic k).2.2).length := by
      have h1 := q3.2.2.2.1.symm.trans u2
      rw [List.length_append] at h1 ⊢
      rw [iI_eq (by omega) (by omega) (by omega) (by omega)] at h1
      omega
    have q4 := QS_em q3 9
    rw [← eu, List.append_assoc] at q4
    exact ⟨q4.1, q4.2.2.2⟩
theorem l_allow {t : PD} {A : Nat → Nat} {σ : AM} (H : LM A σ) (ht : wfT t) {x : XS} (hx : xOk t x) {c : List Nat} {m : VM} (hL : QL t x c m) (hk7 : kdT t (xsK x) = 7) : ∃ m1 : VM, M_Md_readLine (A 0) (ov 40 A m σ) = some ((), (ov 40 A m1 σ)) ∧ LnZ A σ t (alL t x) m m1 := by
  obtain ⟨hQ, ⟨hR, hC⟩, hc⟩ := hL
  obtain ⟨x1, x2, x3, x4, x5⟩ := hx
  have hk1 := kOk_s x1 (show ¬ kdT t (xsK x) = 0 by omega)
  have hl1 := kOk_le ht hk1
  have hnl := x2.1
  have hF : RF m := ⟨_, hnl, hR.2.1.1⟩
  have q0 : M_Md_isWord (A 0) (iI 0) (ov 40 A m σ) = some (bZ (decide (kdT t (xsK x) = 4)), (ov 40 A m σ)) := q_isWord H ht x1 hQ (w := 0) (by omega)
  rw [decide_eq_false (by omega)] at q0
  have q1 : M_Md_isWord (A 0) (iI 1) (ov 40 A m σ) = some (bZ (decide (kdT t (xsK x) = 5)), (ov 40 A m σ)) := q_isWord H ht x1 hQ (w := 1) (by omega)
  rw [decide_eq_false (by omega)] at q1
  have q2 : M_Md_isWord (A 0) (iI 2) (ov 40 A m σ) = some (bZ (decide (kdT t (xsK x) = 6)), (ov 40 A m σ)) := q_isWord H ht x1 hQ (w := 2) (by omega)
  rw [decide_eq_false (by omega)] at q2
  have q3 : M_Md_isWord (A 0) (iI 3) (ov 40 A m σ) = some (bZ (decide (kdT t (xsK x) = 7)), (ov 40 A m σ)) := q_isWord H ht x1 hQ (w := 3) (by omega)
  rw [decide_eq_true hk7] at q3
  have h18 := hR.1.2.2
  have h22 := hC.1
  have h7 := hQ.2.2.1
  have hcF : cF x ≤ (xsA x).length + 1 := by unfold cF; split <;> omega
  unfold M_Md_readLine alL
  by_cases c4 : (xsA x).length < 4
  · rw [if_pos c4]
    have hb : sV (sV (atS m (xsK x + 1)) 6 (5 + (xsA x).length) (iI (c.length : Int))) 0 18 (iI (((xsA x).length + 1 : Nat) : Int)) = sV (sV (sV m 0 7 (iI ((xsK x + 1 : Nat) : Int))) 6 (5 + (xsA x).length) (iI (c.length : Int))) 0 18 (iI (((xsA x).length + 1 : Nat) : Int)) := rfl
    have O2 : OnL m (sV (sV (atS m (xsK x + 1)) 6 (5 + (xsA x).length) (iI (c.length : Int))) 0 18 (iI (((xsA x).length + 1 : Nat) : Int))) := OnL_t (OnL_W (OnLw_Q (OnPq_at m _))) (OnL_t (OnL_6 _ _ _) (OnL_0 _ _ (by decide)))
    have Q2 := QK_L O2 hQ (k' := xsK x + 1) (by unfold atS; simp (disch := decide) only [sV_eq, sW_eq, sV_ne, sW_ne, sV_2, sW_1, Nat.reduceEqDiff, ↓reduceIte]) (by unfold atS; simp (disch := decide) only [sV_eq, sW_eq, sV_ne, sW_ne, sV_2, sW_1, Nat.reduceEqDiff, ↓reduceIte]; exact hQ.2.2.2)
    have RN2 : RN (xsN x) (sV (sV (atS m (xsK x + 1)) 6 (5 + (xsA x).length) (iI (c.length : Int))) 0 18 (iI (((xsA x).length + 1 : Nat) : Int))) := ⟨by unfold atS; simp (disch := decide) only [sV_eq, sW_eq, sV_ne, sW_ne, sV_2, sW_1, Nat.reduceEqDiff, ↓reduceIte]; exact hR.2.1.1, hR.2.1.2⟩
    have RC2 : RC c (sV (sV (atS m (xsK x + 1)) 6 (5 + (xsA x).length) (iI (c.length : Int))) 0 18 (iI (((xsA x).length + 1 : Nat) : Int))) := RC_0 ⟨by unfold atS; simp (disch := decide) only [sV_eq, sW_eq, sV_ne, sW_ne, sV_2, sW_1, Nat.reduceEqDiff, ↓reduceIte]; exact h22, fun i hi => by rw [sV_ne _ _ _ _ (by decide), sV_ne _ _ _ _ (by decide)]; unfold atS; rw [sV_ne _ _ _ _ (by decide), sV_ne _ _ _ _ (by decide)]; exact hC.2 i hi⟩ _ (by decide)
    obtain ⟨m3, e3, O3, y8, y9, y0⟩ := m_whole H ht x2 (ic := false) hk1 (by omega) Q2 RN2 RC2
    replace e3 : M_Md_readWhole (A 0) (iI 1) (ov 40 A (sV (sV (sV m 0 7 (iI ((xsK x + 1 : Nat) : Int))) 6 (5 + (xsA x).length) (iI (c.length : Int))) 0 18 (iI (((xsA x).length + 1 : Nat) : Int))) σ) = some ((), (ov 40 A m3 σ)) := e3
    have run : mw (ov 40 A m σ) (L_Md_readLine_0 (A 0) (ov 40 A m σ)) = some ((), (ov 40 A m3 σ)) := by
      have s1 : (sV m 0 7 (iI ((xsK x + 1 : Nat) : Int))).1 0 18 = iI ((xsA x).length : Int) := by simp (disch := decide) only [sV_eq, sW_eq, sV_ne, sW_ne, sV_2, sW_1, Nat.reduceEqDiff, ↓reduceIte]; exact h18
      have s2 : (sV m 0 7 (iI ((xsK x + 1 : Nat) : Int))).1 0 22 = iI (c.length : Int) := by simp (disch := decide) only [sV_eq, sW_eq, sV_ne, sW_ne, sV_2, sW_1, Nat.reduceEqDiff, ↓reduceIte]; exact h22
      have s3 : (sV (sV m 0 7 (iI ((xsK x + 1 : Nat) : Int))) 6 (5 + (xsA x).length) (iI (c.length : Int))).1 0 18 = iI ((xsA x).length : Int) := by simp (disch := decide) only [sV_eq, sW_eq, sV_ne, sW_ne, sV_2, sW_1, Nat.reduceEqDiff, ↓reduceIte]; exact h18
      have s5 : (5 : Int) + ((xsA x).length : Int) = ((5 + (xsA x).length : Nat) : Int) := by omega
      rw [E_Md_readLine_0]
      simp (disch := omega) only [E_Md_readLine_1, mK_0 H, mR_14 H, mK_6 H, mN_6 H, okO_ov, aR_ov, aN_ov, gd_true, gd_in, iI_cl, Int.toNat_natCast, aI_ov H.1, sI_ov H.1, letT_eq, q0, q1, q2, q3, h18, h7, s1, s2, s3, s5, e3, bnd_some, bZ_0, l_0, l_1, l_2, l_3, l_4, l_5, iI_eq, iI_add, iI_s, reduceCtorEq, ↓reduceIte]
      rw [if_neg (by omega), mw_ov]
    refine ⟨m3, run, ?_⟩
    have OA := OnL_t O2 (OnL_W O3)
    have hF3 : RF m3 := by
      obtain ⟨n, n1, n2⟩ := hF
      exact ⟨n, n1, by rw [O3.2.1 15 (by decide)]; unfold atS; simp (disch := decide) only [sV_eq, sW_eq, sV_ne, sW_ne, sV_2, sW_1, Nat.reduceEqDiff, ↓reduceIte]; exact n2⟩
    by_cases z : (fmS t (xsN x) false (xsK x + 1)).1 = 0
    · rw [if_pos z]
      obtain ⟨Q3, C3⟩ := y0 z
      obtain ⟨f1, f2, f3⟩ := fm_gd (t := t) (ns := xsN x) (ic := false) (xsK x + 1) hk1 z
      refine QL_fin H ht f1 OA Q3 (c := c ++ ((fmS t (xsN x) false (xsK x + 1)).2.2 ++ [9])) ⟨RT0_W O3 ?_, C3⟩ rfl ?_ hnl
      · obtain ⟨⟨a1, a2, a3⟩, a4, a5, a6, a7⟩ := RT0_c hR ((fmS t (xsN x) false (xsK x + 1)).2.2 ++ [9])
        refine ⟨⟨by unfold atS; simp (disch := decide) only [sV_eq, sW_eq, sV_ne, sW_ne, sV_2, sW_1, Nat.reduceEqDiff, ↓reduceIte]; exact a1, by unfold atS; simp (disch := decide) only [sV_eq, sW_eq, sV_ne, sW_ne, sV_2, sW_1, Nat.reduceEqDiff, ↓reduceIte]; exact a2, ?_⟩, RN2, ?_, ?_, ?_⟩
        · show _ = iI (((xsA x ++ [(fmS t (xsN x) false (xsK x + 1)).2.2]).length : Nat) : Int)
          rw [List.length_append, List.length_singleton]; simp (disch := decide) only [sV_eq, sW_eq, sV_ne, sW_ne, sV_2, sW_1, Nat.reduceEqDiff, ↓reduceIte]
        · intro i hi
          replace hi : i < (xsA x ++ [(fmS t (xsN x) false (xsK x + 1)).2.2]).length := hi
          rw [List.length_append, List.length_singleton] at hi
          show ∃ s : Nat, _ ∧ slc _ s ((xsA x ++ [(fmS t (xsN x) false (xsK x + 1)).2.2]).getD i [] ++ [9])
          rw [sV_ne _ _ _ _ (by decide), sV_eq]
          by_cases e : i = (xsA x).length
          · rw [if_pos (by omega), e, getD_app2]
            exact ⟨_, rfl, slc_new _ _⟩
          · rw [if_neg (by omega), getD_app1 _ _ _ (by omega)]
            obtain ⟨s, s1, s2⟩ := a5 i (by omega)
            exact ⟨s, by unfold atS; rw [sV_ne _ _ _ _ (by decide)]; exact s1, s2⟩
        · intro h
          rw [sV_ne _ _ _ _ (by decide), sV_eq, if_neg (by omega)]
          unfold atS; rw [sV_ne _ _ _ _ (by decide)]; exact a6 h
        · intro l h
          rw [sV_ne _ _ _ _ (by decide), sV_eq, if_neg (by omega)]
          unfold atS; rw [sV_ne _ _ _ _ (by decide)]; exact a7 l h
      · show (c ++ ((fmS t (xsN x) false (xsK x + 1)).2.2 ++ [9])).length ≤ (fmS t (xsN x) false (xsK x + 1)).2.1 + cF (_, _, _, _, xsA x ++ [(fmS t (xsN x) false (xsK x + 1)).2.2], xsC x)
        unfold cF at hc ⊢
        show _ ≤ _ + ((xsA x ++ [(fmS t (xsN x) false (xsK x + 1)).2.2]).length + if (xsC x).isSome = true then 1 else 0)
        simp only [List.length_append, List.length_singleton]
        omega
    · rw [if_neg z]
      exact QL_bad H OA y8 z y9 hF3
  · rw [if_neg c4]
    have qf := p_mfail H ht x1 hQ 5
    replace qf : M_Md_faulty (A 0) (iI 5) (ov 40 A m σ) = some (_, _) := qf
    refine ⟨_, ?_, QL_fa H ht x (OnL_r m) (by omega) (by omega) hF⟩
    rw [E_Md_readLine_0]
    simp (disch := omega) only [mK_0 H, okO_ov, gd_true, aI_ov H.1, q0, q1, q2, q3, qf, h18, bnd_some, bZ_0, l_0, l_1, l_2, l_3, l_4, l_5, iI_eq, reduceCtorEq, ↓reduceIte]
    rw [if_pos (by omega), mw_ov]
theorem l_cost {t : PD} {A : Nat → Nat} {σ : AM} (H : LM A σ) (ht : wfT t) {x : XS} (hx : xOk t x) {c : List Nat} {m : VM} (hL : QL t x c m) (hk8 : kdT t (xsK x) = 8) : ∃ m1 : VM, M_Md_readLine (A 0) (ov 40 A m σ) = some ((), (ov 40 A m1 σ)) ∧ LnZ A σ t (coL t x) m m1 := by
  obtain ⟨hQ, ⟨hR, hC⟩, hc⟩ := hL
  obtain ⟨x1, x2, x3, x4, x5⟩ := hx
  have hk1 := kOk_s x1 (show ¬ kdT t (xsK x) = 0 by omega)
  have hl1 := kOk_le ht hk1
  have hnl := x2.1
  have hF : RF m := ⟨_, hnl, hR.2.1.1⟩
  have q0 : M_Md_isWord (A 0) (iI 0) (ov 40 A m σ) = some (bZ (decide (kdT t (xsK x) = 4)), (ov 40 A m σ)) := q_isWord H ht x1 hQ (w := 0) (by omega)
  rw [decide_eq_false (by omega)] at q0
  have q1 : M_Md_isWord (A 0) (iI 1) (ov 40 A m σ) = some (bZ (decide (kdT t (xsK x) = 5)), (ov 40 A m σ)) := q_isWord H ht x1 hQ (w := 1) (by omega)
  rw [decide_eq_false (by omega)] at q1
  have q2 : M_Md_isWord (A 0) (iI 2) (ov 40 A m σ) = some (bZ (decide (kdT t (xsK x) = 6)), (ov 40 A m σ)) := q_isWord H ht x1 hQ (w := 2) (by omega)
  rw [decide_eq_false (by omega)] at q2
  have q3 : M_Md_isWord (A 0) (iI 3) (ov 40 A m σ) = some (bZ (decide (kdT t (xsK x) = 7)), (ov 40 A m σ)) := q_isWord H ht x1 hQ (w := 3) (by omega)
  rw [decide_eq_false (by omega)] at q3
  have q4 : M_Md_isWord (A 0) (iI 4) (ov 40 A m σ) = some (bZ (decide (kdT t (xsK x) = 8)), (ov 40 A m σ)) := q_isWord H ht x1 hQ (w := 4) (by omega)
  rw [decide_eq_true hk8] at q4
  have h22 := hC.1
  have h7 := hQ.2.2.1
  unfold M_Md_readLine coL
  by_cases cS : (xsC x).isSome = true
  · rw [if_pos cS]
    obtain ⟨l, hl⟩ := Option.isSome_iff_exists.mp cS
    obtain ⟨s, s1, s2⟩ := hR.2.2.2.2 l hl
    have s3 := s2.1
    have hcl : c.length ≤ 1005 := by
      have := kOk_le ht x1
      have : cF x ≤ 5 := by unfold cF; split <;> omega
      omega
    have qf := p_mfail H ht x1 hQ 3
    replace qf : M_Md_faulty (A 0) (iI 3) (ov 40 A m σ) = some (_, _) := qf
    refine ⟨_, ?_, QL_fa H ht x (OnL_r m) (by omega) (by omega) hF⟩
    rw [E_Md_readLine_0]
    simp (disch := omega) only [mK_0 H, mR_14 H, mK_6 H, mN_6 H, okO_ov, aR_ov, aN_ov, gd_true, gd_in, iI_cl, Int.reduceToNat, aI_ov H.1, q0, q1, q2, q3, q4, qf, s1, bnd_some, bZ_0, l_0, l_1, l_2, l_3, l_4, l_9, iI_lt, reduceCtorEq, ↓reduceIte]
    rw [if_neg (by omega), mw_ov]
  · rw [if_neg cS]
    have cS0 : (xsC x).isSome = false := by cases q : (xsC x).isSome; rfl; exact absurd q cS
    have cN : xsC x = none := by cases q : xsC x; rfl; rw [q] at cS0; cases cS0
    have h9 := hR.2.2.2.1 cN
    have hcF : cF x ≤ 4 := by unfold cF; rw [if_neg cS]; omega
    have O2 : OnL m (sV (atS m (xsK x + 1)) 6 9 (iI (c.length : Int))) := OnL_t (OnL_W (OnLw_Q (OnPq_at m _))) (OnL_6 _ _ _)
    have Q2 := QK_L O2 hQ (k' := xsK x + 1) (by unfold atS; simp (disch := decide) only [sV_eq, sW_eq, sV_ne, sW_ne, sV_2, sW_1, Nat.reduceEqDiff, ↓reduceIte]) (by unfold atS; simp (disch := decide) only [sV_eq, sW_eq, sV_ne, sW_ne, sV_2, sW_1, Nat.reduceEqDiff, ↓reduceIte]; exact hQ.2.2.2)
    have RN2 : RN (xsN x) (sV (atS m (xsK x + 1)) 6 9 (iI (c.length : Int))) := ⟨by unfold atS; simp (disch := decide) only [sV_eq, sW_eq, sV_ne, sW_ne, sV_2, sW_1, Nat.reduceEqDiff, ↓reduceIte]; exact hR.2.1.1, hR.2.1.2⟩
    have RC2 : RC c (sV (atS m (xsK x + 1)) 6 9 (iI (c.length : Int))) := ⟨by unfold atS; simp (disch := decide) only [sV_eq, sW_eq, sV_ne, sW_ne, sV_2, sW_1, Nat.reduceEqDiff, ↓reduceIte]; exact h22, fun i hi => by rw [sV_ne _ _ _ _ (by decide), sV_ne _ _ _ _ (by decide)]; unfold atS; rw [sV_ne _ _ _ _ (by decide), sV_ne _ _ _ _ (by decide)]; exact hC.2 i hi⟩
    obtain ⟨m3, e3, O3, y8, y9, y0⟩ := m_whole H ht x2 (ic := true) hk1 (by omega) Q2 RN2 RC2
    replace e3 : M_Md_readWhole (A 0) (iI 0) (ov 40 A (sV (sV m 0 7 (iI ((xsK x + 1 : Nat) : Int))) 6 9 (iI (c.length : Int))) σ) = some ((), (ov 40 A m3 σ)) := e3
    have run : mw (ov 40 A m σ) (L_Md_readLine_0 (A 0) (ov 40 A m σ)) = some ((), (ov 40 A m3 σ)) := by
      have s2 : (sV m 0 7 (iI ((xsK x + 1 : Nat) : Int))).1 0 22 = iI (c.length : Int) := by simp (disch := decide) only [sV_eq, sW_eq, sV_ne, sW_ne, sV_2, sW_1, Nat.reduceEqDiff, ↓reduceIte]; exact h22
      rw [E_Md_readLine_0]
      simp (disch := omega) only [E_Md_readLine_1, mK_0 H, mR_14 H, mK_6 H, mN_6 H, okO_ov, aR_ov, aN_ov, gd_true, gd_in, iI_cl, Int.reduceToNat, aI_ov H.1, sI_ov H.1, letT_eq, q0, q1, q2, q3, q4, h9, h7, s2, e3, bnd_some, bZ_0, l_0, l_1, l_2, l_3, l_4, l_9, iI_lt, iI_add, iI_s, reduceCtorEq, Int.reduceLT, Int.reduceNeg, ↓reduceIte, mw_ov]
    refine ⟨m3, run, ?_⟩
    have OA := OnL_t O2 (OnL_W O3)
    have hF3 : RF m3 := by
      obtain ⟨n, n1, n2⟩ := hF
      exact ⟨n, n1, by rw [O3.2.1 15 (by decide)]; unfold atS; simp (disch := decide) only [sV_eq, sW_eq, sV_ne, sW_ne, sV_2, sW_1, Nat.reduceEqDiff, ↓reduceIte]; exact n2⟩
    by_cases z : (fmS t (xsN x) true (xsK x + 1)).1 = 0
    · rw [if_pos z]
      obtain ⟨Q3, C3⟩ := y0 z
      obtain ⟨f1, f2, f3⟩ := fm_gd (t := t) (ns := xsN x) (ic := true) (xsK x + 1) hk1 z
      refine QL_fin H ht f1 OA Q3 (c := c ++ ((fmS t (xsN x) true (xsK x + 1)).2.2 ++ [9])) ⟨RT0_W O3 ?_, C3⟩ rfl ?_ hnl
      · obtain ⟨⟨a1, a2, a3⟩, a4, a5, a6, a7⟩ := RT0_c hR ((fmS t (xsN x) true (xsK x + 1)).2.2 ++ [9])
        refine ⟨⟨by unfold atS; simp (disch := decide) only [sV_eq, sW_eq, sV_ne, sW_ne, sV_2, sW_1, Nat.reduceEqDiff, ↓reduceIte]; exact a1, by unfold atS; simp (disch := decide) only [sV_eq, sW_eq, sV_ne, sW_ne, sV_2, sW_1, Nat.reduceEqDiff, ↓reduceIte]; exact a2, by unfold atS; simp (disch := decide) only [sV_eq, sW_eq, sV_ne, sW_ne, sV_2, sW_1, Nat.reduceEqDiff, ↓reduceIte]; exact a3⟩, RN2, ?_, ?_, ?_⟩
        · intro i hi
          replace hi : i < (xsA x).length := hi
          obtain ⟨s, s1, s2⟩ := a5 i hi
          refine ⟨s, ?_, s2⟩
          rw [sV_eq, if_neg (by omega)]
          unfold atS; rw [sV_ne _ _ _ _ (by decide)]; exact s1
        · intro h
          replace h : some (fmS t (xsN x) true (xsK x + 1)).2.2 = none := h
          cases h
        · intro l h
          replace h : some (fmS t (xsN x) true (xsK x + 1)).2.2 = some l := h
          rw [← Option.some.inj h]
          refine ⟨c.length, ?_, slc_new _ _⟩
          rw [sV_eq, if_pos rfl]
      · show (c ++ ((fmS t (xsN x) true (xsK x + 1)).2.2 ++ [9])).length ≤ (fmS t (xsN x) true (xsK x + 1)).2.1 + ((xsA x).length + 1)
        unfold cF at hc
        rw [if_neg cS] at hc
        simp only [List.length_append, List.length_singleton]
        omega
    · rw [if_neg z]
      exact QL_bad H OA y8 z y9 hF3
