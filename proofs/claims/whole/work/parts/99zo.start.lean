/-! ===== where the two begin ===== -/
def tvC (k j : Nat) : Int32 := fdL (ent tC163 k).2.2.2.1 j 0
def tvM (k j : Nat) : Int32 := fdL (ent tM96 k).2.2.2.1 j 0
def twM (k j : Nat) : Int64 := fdL (ent tM96 k).2.2.2.2 j 0
def s00 : SD := (twD x0S, (0, fun _ => 0, fun _ => false, 0, fun _ => 0, fun _ => 0), (0, fun _ => 0, fun _ => 0, fun _ => 0), (0, fun _ => 0), (0, fun _ => 0))
theorem len_C : tC163.length = 68 := by decide +kernel
theorem len_M : tM96.length = 40 := by decide +kernel
theorem rdT (σ : AM) (T : TBx) {k : Nat} (hk : k < T.length) (j : Nat) : (rd (fun k => aZ σ + k) (hpx σ T)).1 k j = fdL (ent T k).2.2.2.1 j 0 := hx_I σ T hk j
theorem rdU (σ : AM) (T : TBx) {k : Nat} (hk : k < T.length) (j : Nat) : (rd (fun k => aZ σ + k) (hpx σ T)).2 k j = fdL (ent T k).2.2.2.2 j 0 := hx_L σ T hk j
theorem rdC (σ : AM) {k : Nat} (hk : k < 68) (j : Nat) : (rd (fun k => aZ σ + k) (hpx σ tC163)).1 k j = tvC k j := rdT σ tC163 (k := k) (by rw [len_C]; exact hk) j
theorem rdM (σ : AM) {k : Nat} (hk : k < 40) (j : Nat) : (rd (fun k => aZ σ + k) (hpx σ tM96)).1 k j = tvM k j := rdT σ tM96 (k := k) (by rw [len_M]; exact hk) j
theorem rdN (σ : AM) {k : Nat} (hk : k < 40) (j : Nat) : (rd (fun k => aZ σ + k) (hpx σ tM96)).2 k j = twM k j := rdU σ tM96 (k := k) (by rw [len_M]; exact hk) j
theorem LC_0 (σ : AM) : LC (fun k => aZ σ + k) (hpx σ tC163) := by
  have n1 : ∀ k, k < 68 → aN (hpx σ tC163) (aZ σ + k) = (ent tC163 k).2.1 := fun k hk => hx_N σ tC163 (by rw [len_C]; exact hk)
  have r1 : ∀ q ∈ tCR, q.1 < 68 ∧ fdL (ent tC163 q.1).2.2.1 q.2.1 0 = q.2.2 + 1 := by decide +kernel
  have k1 : ∀ q ∈ tCK, q.1 < 68 ∧ (ent tC163 q.1).1 = q.2 := by decide +kernel
  have k2 : ∀ q ∈ tCN, q.1 < 68 ∧ (ent tC163 q.1).2.1 = q.2 := by decide +kernel
  refine ⟨fun i j _ _ h => Nat.add_left_cancel h, fun q hq => hx_R σ tC163 (by rw [len_C]; exact (r1 q hq).1) (r1 q hq).2, fun q hq => (hx_K σ tC163 (by rw [len_C]; exact (k1 q hq).1)).trans (k1 q hq).2, fun q hq => (n1 _ (k2 q hq).1).trans (k2 q hq).2, ?_, ?_, ?_, ?_, fun k hk => ?_⟩
  · exact (n1 22 (by decide)).trans (Eq.trans (by decide +kernel) (n1 21 (by decide)).symm)
  · exact (n1 23 (by decide)).trans (Eq.trans (by decide +kernel) (n1 21 (by decide)).symm)
  · exact (n1 24 (by decide)).trans (Eq.trans (by decide +kernel) (n1 21 (by decide)).symm)
  · exact (n1 37 (by decide)).trans (Eq.trans (by decide +kernel) (n1 38 (by decide)).symm)
  · show aZ σ + k < aZ σ + tC163.length
    rw [len_C]; omega
theorem LM_0 (σ : AM) : LM (fun k => aZ σ + k) (hpx σ tM96) := by
  have r1 : ∀ q ∈ tMR, fdL (ent tM96 0).2.2.1 q.1 0 = q.2 + 1 := by decide +kernel
  have k1 : ∀ q ∈ tMK, q.1 < 40 ∧ (ent tM96 q.1).1 = q.2.1 ∧ (ent tM96 q.1).2.1 = q.2.2 := by decide +kernel
  refine ⟨fun i j _ _ h => Nat.add_left_cancel h, fun q hq => hx_R σ tM96 (by rw [len_M]; decide) (r1 q hq), fun q hq => ⟨(hx_K σ tM96 (by rw [len_M]; exact (k1 q hq).1)).trans (k1 q hq).2.1, (hx_N σ tM96 (by rw [len_M]; exact (k1 q hq).1)).trans (k1 q hq).2.2⟩, fun k hk => ?_⟩
  show aZ σ + k < aZ σ + tM96.length
  rw [len_M]; omega
theorem xOk_0 : xOk (0, fun _ => 0) x0S := ⟨fun j hj => absurd hj (Nat.not_lt_zero j), ⟨Nat.zero_le _, fun n hn => absurd hn List.not_mem_nil⟩, fun v hv => (by cases hv), fun v hv => (by cases hv), Nat.zero_le _⟩
theorem fOk_0 : fOk x0S := ⟨fun l hl => absurd hl List.not_mem_nil, fun l hl => (by cases hl)⟩
theorem pw_0 : (mxS x0S + 1) ^ (xsN x0S).length ≤ 16384 := by decide
theorem wfB_0 : wfB (sD s00) (sB s00) := ⟨by decide, by decide, fun j hj => (by show (0 : Nat) < 64; decide), fun j hj => absurd hj (Nat.not_lt_zero j), fun j hj => ⟨Nat.zero_le _, Nat.zero_le _⟩⟩
theorem WF_0 : WF s00 0 := ⟨⟨fun j hj => Nat.zero_le _, fun j hj h => absurd rfl h⟩, ⟨Nat.zero_le _, fun j hj => absurd hj (Nat.not_lt_zero j)⟩, ⟨Nat.zero_le _, fun j hj => absurd hj (Nat.not_lt_zero j), fun i j hi hj => absurd hj (Nat.not_lt_zero j)⟩, Nat.zero_le _⟩
theorem RmI_0 (σ : AM) : RmI (aZ σ + 68) (aU σ + suN tC163) (fun k => aZ σ + k) (hpx σ tC163) := by
  have n1 : ∀ k, k < 68 → aN (hpx σ tC163) (aZ σ + k) = (ent tC163 k).2.1 := fun k hk => hx_N σ tC163 (by rw [len_C]; exact hk)
  have n21 : aN (hpx σ tC163) (aZ σ + 21) = 1 := (n1 21 (by decide)).trans (by decide +kernel)
  have n25 : aN (hpx σ tC163) (aZ σ + 25) = 2 := (n1 25 (by decide)).trans (by decide +kernel)
  have n26 : aN (hpx σ tC163) (aZ σ + 26) ≤ 15616 := by rw [n1 26 (by decide)]; decide +kernel
  have n38 : aN (hpx σ tC163) (aZ σ + 38) = 1 := (n1 38 (by decide)).trans (by decide +kernel)
  have z1 : aZ (hpx σ tC163) = aZ σ + tC163.length := rfl
  have u1 : aU (hpx σ tC163) = aU σ + suN tC163 := rfl
  rw [len_C] at z1
  unfold RmI
  rw [n21, n25, n38, z1, u1]
  exact ⟨Nat.le_refl _, by omega, by omega, by omega, n26, by omega, by omega, 1, by omega, rfl⟩
theorem iC_0 (σ : AM) : ∃ (A : Nat → Nat) (σ' : AM) (m : VM), M_Bp_init (aZ σ) (hpx σ tC1) = some ((), ov 68 A m σ') ∧ A 0 = aZ σ ∧ CI s00 0 0 (aZ σ + 75) (aU σ + suN tC163 + 6) A σ' m := by
  have H := LC_0 σ
  obtain ⟨A, hA⟩ : ∃ A : Nat → Nat, (fun k => aZ σ + k) = A := ⟨_, rfl⟩
  have g0 : ∀ k j, k < 68 → (rd A (hpx σ tC163)).1 k j = tvC k j := fun k j hk => by rw [← hA]; exact rdC σ hk j
  have R0 := RmI_0 σ
  have ei := tC_init σ
  have A0 : aZ σ + 0 = A 0 := congrFun hA 0
  have A10 : aZ σ + 10 = A 10 := congrFun hA 10
  rw [A10] at ei
  rw [hA] at H R0
  obtain ⟨m, hm⟩ : ∃ m : VM, rd A (hpx σ tC163) = m := ⟨_, rfl⟩
  rw [hm] at g0
  have eo : ov 68 A m (hpx σ tC163) = hpx σ tC163 := by rw [← hm]; exact ov_rd _ _ _
  have hC : CTx x0S m := by
    refine ⟨⟨?_, ?_, ?_, ?_⟩, fun i hi => absurd hi (Nat.not_lt_zero i), ⟨0, ?_, ?_, fun j hj => absurd hj (Nat.not_lt_zero j), (by decide)⟩, fun h => (by cases h)⟩
    · rw [g0 10 7 (by decide)]; decide +kernel
    · rw [g0 10 8 (by decide)]; decide +kernel
    · rw [g0 10 9 (by decide)]; decide +kernel
    · rw [g0 10 10 (by decide)]; decide +kernel
    · rw [g0 13 4 (by decide)]; decide +kernel
    · rw [g0 14 4 (by decide)]; decide +kernel
  obtain ⟨σ2, m2, e2, H2, g1, g2, g3, z2, u2, x2⟩ := p_price H xOk_0 fOk_0 hC
  have hM2 : RmI (aZ σ + 68 + 1) (aU σ + suN tC163 + 6) A σ2 := by
    obtain ⟨R1, R2, R3, R4, R5, R6, R7, R8⟩ := R0
    refine ⟨by omega, ?_, by rw [(g2 21 (by decide)).2]; exact R3, by rw [(g2 25 (by decide)).2]; exact R4, by rw [(g2 26 (by decide)).2]; exact R5, by rw [(g2 38 (by decide)).2, (g2 21 (by decide)).2]; exact R6, by rw [(g2 38 (by decide)).2, (g2 21 (by decide)).2]; exact R7, by rw [(g2 25 (by decide)).2]; exact R8⟩
    rw [(g2 21 (by decide)).2, (g2 25 (by decide)).2, (g2 26 (by decide)).2, (g2 38 (by decide)).2, u2]; omega
  have hC3 : CTx x0S m2 := CTx_e (g1 10 (by decide) (by decide) (by decide)) (g1 12 (by decide) (by decide) (by decide)) (g1 13 (by decide) (by decide) (by decide)) (g1 14 (by decide) (by decide) (by decide)) hC
  obtain ⟨A3, σ3, m3, e3, H3, hD3, hM3, x3, a3, k1, k2, k3, k4, k5, k6, k7⟩ := p_build H2 xOk_0 fOk_0 pw_0 hC3 hM2
  have x23 := Ext_t x2 x3
  have st : ∀ q, q < 68 → q ∉ [15, 16, 17, 18, 19, 20, 21, 22, 23, 24, 25, 26] → ∀ j, m3.1 q j = tvC q j := fun q h1 h2 j => by
    simp only [List.mem_cons, List.not_mem_nil, or_false, not_or] at h2
    rw [k1 q h1 (by simp only [List.mem_cons, List.not_mem_nil, or_false, not_or]; omega), g1 q h1 (by omega) (by omega), g0 q j h1]
  have b0 : A3 0 = A 0 := a3 0 (by decide)
  have z0 : ∀ k n, k < 68 → k ∉ [15, 16, 17, 18, 19, 20, 21, 22, 23, 24, 25, 26] → (∀ j, j < n → tvC k j = iI 0) → ∀ j, j < n → m3.1 k j = iI 0 := fun k n h1 h2 h3 j hj => by rw [st k h1 h2 j]; exact h3 j hj
  refine ⟨A3, σ3, m3, ?_, by rw [b0, ← A0]; rfl, ⟨H3, wf_tw xOk_0 pw_0, hD3, hM3, ?_, wfB_0, ?_, ?_, by decide, -1, ?_, by decide, by decide, fun y => absurd y (by decide)⟩, ?_, ?_, ?_, ?_, ?_, ?_, ?_⟩
  · have e2' : M_Tw_priceSets (A 10) (hpx σ tC163) = some ((), ov 68 A m2 σ2) := by rw [← eo]; exact e2
    show M_Bp_init (aZ σ + 0) (hpx σ tC1) = _
    rw [ei, e2', bnd_some, A0, okO_ov, cK_0 H2, gd_true, aR_ov, cR_0_2 H2, cK_17 H2, gd_true, e3, bnd_some]
    refine mw_of (Nat.le_trans (Nat.add_le_add_left (show tC1.length ≤ tC163.length by decide +kernel) _) x23.2.1) (Nat.le_trans (Nat.add_le_add_left (show suN tC1 ≤ suN tC163 by decide +kernel) _) x23.2.2.1)
  · refine ⟨⟨?_, ?_, ?_, ?_, k3, k4⟩, k5, k6, k7, fun s hs => ?_⟩
    · rw [k1 10 (by decide) (by decide)]; exact hC3.1.1
    · rw [k1 10 (by decide) (by decide)]; exact hC3.1.2.1
    · rw [k1 10 (by decide) (by decide)]; exact hC3.1.2.2.1
    · rw [k1 10 (by decide) (by decide)]; exact hC3.1.2.2.2
    · rw [k1 15 (by decide) (by decide)]; exact g3 s hs
  · refine ⟨⟨?_, ?_⟩, z0 28 60 (by decide) (by decide) (by decide +kernel), z0 29 60 (by decide) (by decide) (by decide +kernel), z0 30 8 (by decide) (by decide) (by decide +kernel), z0 31 8 (by decide) (by decide) (by decide +kernel)⟩
    · rw [st 27 (by decide) (by decide)]; decide +kernel
    · rw [st 27 (by decide) (by decide)]; decide +kernel
  · rw [st 27 (by decide) (by decide)]; decide +kernel
  · rw [st 35 (by decide) (by decide)]; decide +kernel
  · refine ⟨0, Nat.le_refl _, ?_, z0 34 4 (by decide) (by decide) (by decide +kernel), z0 32 4 (by decide) (by decide) (by decide +kernel), z0 33 4 (by decide) (by decide) (by decide +kernel)⟩
    rw [st 27 (by decide) (by decide)]; decide +kernel
  · exact ⟨by rw [st 1 (by decide) (by decide)]; decide +kernel, fun j hj => absurd hj (Nat.not_lt_zero j)⟩
  · exact ⟨by rw [st 0 (by decide) (by decide)]; decide +kernel, fun j hj => absurd hj (Nat.not_lt_zero j)⟩
  · exact ⟨-1, by rw [st 39 (by decide) (by decide)]; decide +kernel, by decide, by decide, fun y => absurd y (by decide)⟩
  · have h46 : ∀ way, way < 3 → tvC 46 way = iI (-1) := by decide +kernel
    exact fun way hw => ⟨-1, by rw [st 46 (by decide) (by decide)]; exact h46 way (by omega), by decide, by decide, fun y => absurd y (by decide)⟩
  · exact ⟨-1, by rw [st 61 (by decide) (by decide)]; decide +kernel, by decide, by decide, fun y => absurd y (by decide)⟩
  · exact ⟨-1, by rw [st 61 (by decide) (by decide)]; decide +kernel, by decide, by decide, fun y => absurd y (by decide)⟩
theorem iM_0 (σ : AM) : ∃ (B : Nat → Nat) (n : VM), M_Md_init (aZ σ) (hpx σ tM1) = some ((), ov 40 B n (hpx σ tM96)) ∧ (∀ k, B k = aZ σ + k) ∧ MJ s00 B (hpx σ tM96) n := by
  have H := LM_0 σ
  obtain ⟨B, hB⟩ : ∃ B : Nat → Nat, (fun k => aZ σ + k) = B := ⟨_, rfl⟩
  have g0 : ∀ k j, k < 40 → (rd B (hpx σ tM96)).1 k j = tvM k j := fun k j hk => by rw [← hB]; exact rdM σ hk j
  have g5 : ∀ j, (rd B (hpx σ tM96)).2 5 j = twM 5 j := fun j => by rw [← hB]; exact rdN σ (by decide) j
  have ei := (tM_init σ).trans (congrArg (mw (hpx σ tM1)) (tM_init1 σ))
  have B0 : aZ σ + 0 = B 0 := congrFun hB 0
  have Bk : ∀ k, B k = aZ σ + k := fun k => by rw [← hB]
  rw [hB] at H
  obtain ⟨m, hm⟩ : ∃ m : VM, rd B (hpx σ tM96) = m := ⟨_, rfl⟩
  rw [hm] at g0 g5
  have eo : ov 40 B m (hpx σ tM96) = hpx σ tM96 := by rw [← hm]; exact ov_rd _ _ _
  have hC : TCx x0S m := by
    refine ⟨fun i hi => absurd hi (Nat.not_lt_zero i), fun _ => ?_, fun l hl => (by cases hl)⟩
    rw [g0 6 4 (by decide)]; decide +kernel
  obtain ⟨n, e1, ⟨o1, o2, o3⟩, T⟩ := p_laysAll H xOk_0 fOk_0 pw_0 hC (by rw [g0 0 10 (by decide)]; decide +kernel) (by rw [g0 0 11 (by decide)]; decide +kernel) (by rw [g0 0 12 (by decide)]; decide +kernel) (by rw [g0 0 13 (by decide)]; decide +kernel)
  rw [eo] at e1
  have z0 : ∀ k c, k < 40 → k ∉ [0, 10, 11, 13, 15, 16, 17, 18, 19, 20] → (∀ j, j < c → tvM k j = iI 0) → ∀ j, j < c → n.1 k j = iI 0 := fun k c h1 h2 h3 j hj => by rw [o1 k h2, g0 k j h1]; exact h3 j hj
  have zf : ∀ j, j ≠ 26 → j ≠ 29 → tvM 0 j = iI 0 → n.1 0 j = iI 0 := fun j h1 h2 h3 => by rw [o2 j h1 h2, g0 0 j (by decide)]; exact h3
  refine ⟨B, n, ?_, Bk, ⟨H, wf_tw xOk_0 pw_0, T, wfB_0, ⟨zf 37 (by decide) (by decide) (by decide +kernel), zf 42 (by decide) (by decide) (by decide +kernel)⟩, z0 21 60 (by decide) (by decide) (by decide +kernel), z0 22 60 (by decide) (by decide) (by decide +kernel), z0 23 8 (by decide) (by decide) (by decide +kernel), z0 24 8 (by decide) (by decide) (by decide +kernel)⟩, ⟨zf 72 (by decide) (by decide) (by decide +kernel), z0 37 4 (by decide) (by decide) (by decide +kernel), z0 38 4 (by decide) (by decide) (by decide +kernel), z0 39 4 (by decide) (by decide) (by decide +kernel)⟩, ⟨zf 2 (by decide) (by decide) (by decide +kernel), fun j hj => absurd hj (Nat.not_lt_zero j)⟩, ⟨zf 70 (by decide) (by decide) (by decide +kernel), fun j hj => absurd hj (Nat.not_lt_zero j)⟩, ?_⟩
  · show M_Md_init (aZ σ + 0) (hpx σ tM1) = _
    rw [ei, B0, e1, bnd_some]
    exact mw_of (Nat.add_le_add_left (show tM1.length ≤ tM96.length by decide +kernel) _) (Nat.add_le_add_left (show suN tM1 ≤ suN tM96 by decide +kernel) _)
  · have h5 : ∀ j, j < 10 → twM 5 j = words.getD j 0 := by decide +kernel
    exact fun j hj => by rw [o3 5 (by decide), g5 j]; exact h5 j hj
