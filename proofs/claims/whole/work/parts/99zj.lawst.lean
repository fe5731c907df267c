/-! ===== the law: states go on; a run ===== -/
theorem WI_wf {s : SD} {c z u a b0 q : Nat} {τ : AM} (W : WI s c z u a b0 q τ) : wfD (sD s) ∧ wfB (sD s) (sB s) := by
  obtain ⟨A, B, σ, m, n, g, e, ha, hb, hd, hq1, hq2, hq3, hq4, hq5, hg, hC, hM⟩ := W
  exact ⟨hM.1.2.1, hM.1.2.2.2.1⟩
theorem WF_s {s : SD} {c : Nat} (F : WF s c) : WF s (c + 1) := ⟨F.1, F.2.1, F.2.2.1, Nat.le_succ_of_le F.2.2.2⟩
theorem WF_feed {s : SD} {c : Nat} (F : WF s c) (x y w : Int64) : WF (sD s, sB s, sK s, feedT (sT s) x y w, sP s) (c + 1) := ⟨F.1, putK_wf (putK_wf (putK_wf F.2.1 x 8) y 8) w 8, F.2.2.1, Nat.le_succ_of_le F.2.2.2⟩
theorem WF_lay {s : SD} {c : Nat} (hd : wfD (sD s)) (F : WF s c) (a : Int) : WF (sD s, sB s, sK s, sT s, layP (sD s) (sP s) a) (c + 1) := ⟨F.1, F.2.1, layP_wf hd F.2.2.1 a, Nat.le_succ_of_le F.2.2.2⟩
theorem wfP_0 (d : TD) (f : Nat → Nat) : wfP d (0, f) := ⟨Nat.zero_le _, fun j hj => absurd hj (Nat.not_lt_zero j), fun i j _ hj => absurd hj (Nat.not_lt_zero j)⟩
theorem wfT_0 (f : Nat → Nat) : wfT (0, f) := ⟨Nat.zero_le _, fun j hj => absurd hj (Nat.not_lt_zero j)⟩
theorem WF_clear {s : SD} {c : Nat} (F : WF s c) : WF (sD s, sB s, sK s, sT s, (0, (sP s).2)) (c + 1) := ⟨F.1, F.2.1, wfP_0 _ _, Nat.le_succ_of_le F.2.2.2⟩
theorem WF_trial {s : SD} {c : Nat} (F : WF s c) (a : Int) (rg : Bool) : WF (sD s, trB (sD s) (sB s) a rg, sK s, sT s, sP s) (c + 1) := by
  refine ⟨⟨F.1.1, fun j hj h0 => ?_⟩, F.2.1, F.2.2.1, Nat.le_succ_of_le F.2.2.2⟩
  obtain ⟨h1, h2, h3⟩ := F.1.2 j hj h0
  refine ⟨h1, h2, fun i hi => ?_⟩
  show tS (trB (sD s) (sB s) a rg) i < sN (sD s)
  unfold trB
  split
  · rename_i h
    show up1 (tS (sB s)) (nT (sB s)) a.toNat i < sN (sD s)
    unfold up1
    split
    · have := h.1; omega
    · exact h3 i hi
  · exact h3 i hi
theorem WF_hint {s : SD} {c : Nat} (F : WF s c) (a e : Int) : WF (sD s, hiB (sD s) (sB s) a e, sK s, sT s, sP s) (c + 1) := by
  refine ⟨⟨F.1.1, fun j hj h0 => ?_⟩, F.2.1, F.2.2.1, Nat.le_succ_of_le F.2.2.2⟩
  obtain ⟨h1, h2, h3⟩ := F.1.2 j hj h0
  refine ⟨h1, h2, fun i hi => ?_⟩
  show tS (hiB (sD s) (sB s) a e) i < sN (sD s)
  unfold hiB
  split
  · exact h3 i hi
  · exact h3 i hi
theorem WF_tower {s : SD} {c : Nat} (F : WF s c) : WF (towS s) (c + 1) := by
  unfold towS
  by_cases z : (twS (sT s)).1 = 0
  · rw [if_pos z]
    exact ⟨⟨fun _ _ => Nat.le_refl _, fun _ _ h => absurd rfl h⟩, wfT_0 _, wfP_0 _ _, Nat.zero_le _⟩
  · rw [if_neg z]
    exact ⟨F.1, wfT_0 _, F.2.2.1, Nat.le_succ_of_le F.2.2.2⟩
theorem WF_mark {s : SD} {c : Nat} (hb : wfB (sD s) (sB s)) (F : WF s c) (a : Int) (bk : Bool) : WF (mrkS s a bk) (c + 1) := by
  unfold mrkS
  by_cases hv : 0 ≤ a ∧ a ≤ 3
  · rw [if_pos hv]
    cases bk
    · rw [if_neg (by decide)]
      refine ⟨⟨fun j hj => ?_, fun j hj h0 => ?_⟩, F.2.1, F.2.2.1, ?_⟩
      · show up1 (kO (sK s)) a.toNat (kL (sK s) + 1) j ≤ kL (sK s) + 1
        unfold up1
        split
        · exact Nat.le_refl _
        · exact Nat.le_succ_of_le (F.1.1 j hj)
      · show up1 (kT (sK s)) a.toNat (nT (sB s)) j ≤ 60 ∧ up1 (kH (sK s)) a.toNat (nH (sB s)) j ≤ 8 ∧ ∀ i, i < up1 (kT (sK s)) a.toNat (nT (sB s)) j → tS (sB s) i < sN (sD s)
        unfold up1
        by_cases e : j = a.toNat
        · rw [if_pos e, if_pos e]
          exact ⟨hb.1, hb.2.1, hb.2.2.2.1⟩
        · rw [if_neg e, if_neg e]
          refine F.1.2 j hj ?_
          have h0 : up1 (kO (sK s)) a.toNat (kL (sK s) + 1) j ≠ 0 := h0
          unfold up1 at h0
          rw [if_neg e] at h0
          exact h0
      · show kL (sK s) + 1 ≤ c + 1
        have := F.2.2.2
        omega
    · rw [if_pos rfl]
      by_cases h0 : kO (sK s) a.toNat = 0
      · rw [if_pos h0]; exact WF_s F
      · rw [if_neg h0]
        refine ⟨⟨fun j hj => ?_, fun j hj h1 => ?_⟩, F.2.1, F.2.2.1, Nat.le_succ_of_le F.2.2.2⟩
        · show (if kO (sK s) a.toNat < kO (sK s) j then 0 else kO (sK s) j) ≤ kL (sK s)
          split
          · exact Nat.zero_le _
          · exact F.1.1 j hj
        · have h1 : (if kO (sK s) a.toNat < kO (sK s) j then 0 else kO (sK s) j) ≠ 0 := h1
          refine F.1.2 j hj (fun z => h1 ?_)
          split
          · rfl
          · exact z
  · rw [if_neg hv]; exact WF_s F
theorem runX_u {d : TD} {b : BD} {w way c : Int} {r r' : Option Int32} (h : runX d b w way c r) (h' : runX d b w way c r') : r = r' := by
  rcases h with ⟨h1, v, h2, n, h3, h4⟩ | ⟨h1, h2⟩
  · rcases h' with ⟨k1, v', k2, n', k3, k4⟩ | ⟨k1, k2⟩
    · have := isStop_u h3 k3
      subst this
      rw [h2, k2, h4, k4]
    · exact absurd h1 k1
  · rcases h' with ⟨k1, k2⟩ | ⟨k1, k2⟩
    · exact absurd k1 h1
    · rw [h2, k2]
theorem rset_u {d : TD} {b : BD} {w way c r r' : Int} (h : rsetX d b w way c r) (h' : rsetX d b w way c r') : r = r' := by
  rcases h with ⟨h1, n, h3, h4⟩ | ⟨h1, h2⟩
  · rcases h' with ⟨k1, n', k3, k4⟩ | ⟨k1, k2⟩
    · have := isStop_u h3 k3
      subst this
      rw [h4, k4]
    · exact absurd h1 k1
  · rcases h' with ⟨k1, k2⟩ | ⟨k1, k2⟩
    · exact absurd k1 h1
    · rw [h2, k2]
theorem gdT_true {S R : Type} (t : S ⊕ Option R) : gdT true t = t := rfl
theorem bndT_some {S R A : Type} (a : A) (σ : AM) (f : A → AM → S ⊕ Option R) : bndT (some (a, σ)) f = f a σ := rfl
theorem run_step {s : SD} {c z u a b0 q : Nat} {τ : AM} (W : WI s c z u a b0 q τ) (v1 v2 v3 : Int32) : ∃ (k r : Int32) (τ1 τ2 : AM), M_Lw_run a v1 v2 v3 q τ = some (k, τ1) ∧ okO τ1 b0 12 = true ∧ M_Md_run b0 v1 v2 v3 τ1 = some (r, τ2) ∧ okO τ2 b0 12 = true ∧ M_Md_thrown b0 τ2 = some (k, τ2) ∧ (k = 0 → aL τ2 q 0 = r.toInt64) ∧ WI s (c + 1) (z + 7) (u + 6) a b0 q τ2 := by
  obtain ⟨A, B, σ, m, n, g, e, ha, hb, hd, hq1, hq2, hq3, hq4, hq5, hg, hC, hM⟩ := W
  subst e ha hb
  have hBz := hM.1.1.2.2.2
  have hBi := hM.1.1.1
  have C0 : CS0 (sD s) (sB s) g z u A (ov 40 B n σ) m := hC.1
  obtain ⟨A', σ', m', r, e1, C1, x, ks, hA, hr⟩ := c_runX C0 hC.2.2.2.2.1 (w := v1.toInt) (way := v2.toInt) (c := v3.toInt) (iI_lo v1) (iI_hi v1) (iI_lo v2) (iI_hi v2) (iI_lo v3) (iI_hi v3)
  simp only [i_of] at e1
  obtain ⟨x1, x2, x3, x4⟩ := x
  obtain ⟨w1, w2, w3, w4, w5, w6⟩ := x4 q hq3 hq1
  have I1 : CI s (c + 1) g (z + 7) (u + 6) A' σ' m' := CI_g hC C1 (by omega) (by omega) (ks 0 (by decide)) hA (TA_K (ks 3 (by decide)) hC.2.2.2.2.2.1) (DA_K (ks 4 (by decide)) hC.2.2.2.2.2.2.1) (GA_K (ks 5 (by decide)) hC.2.2.2.2.2.2.2)
  -- what the reference finds
  have ref : ∀ σ2 : AM, aR σ2 = aR σ' → aK σ2 = aK σ' → aN σ2 = aN σ' → aZ σ2 = aZ σ' → aU σ2 = aU σ' → (∀ j, j < 40 → aI σ2 (B j) = aI σ' (B j) ∧ aL σ2 (B j) = aL σ' (B j)) → CI s (c + 1) g (z + 7) (u + 6) A' σ2 m' → ∃ (v : Int32) (τ2 : AM), M_Md_run (B 0) v1 v2 v3 (ov 68 A' m' σ2) = some (v, τ2) ∧ okO (ov 68 A' m' σ2) (B 0) 12 = true ∧ okO τ2 (B 0) 12 = true ∧ M_Md_thrown (B 0) τ2 = some (iI (if r.isSome = true then 0 else 1), τ2) ∧ (∀ y, r = some y → v = y) ∧ aL τ2 q = aL σ2 q ∧ WI s (c + 1) (z + 7) (u + 6) (A 0) (B 0) q τ2 := by
    intro σ2 hR hK hN hZ hU hI2 I2
    have hB4 : ∀ j, j < 40 → (∀ k, k < 68 → A' k ≠ B j) ∧ aI σ2 (B j) = n.1 j ∧ aL σ2 (B j) = n.2 j ∧ aR σ2 (B j) = aR σ (B j) ∧ aK σ2 (B j) = aK σ (B j) ∧ aN σ2 (B j) = aN σ (B j) := fun j hj => by
      obtain ⟨y1, y2, y3, y4, y5, y6⟩ := x4 (B j) (hBz j hj) (fun k hk => hd k j hk hj)
      refine ⟨y1, ?_, ?_, by rw [hR]; exact y4, by rw [hK]; exact y5, by rw [hN]; exact y6⟩
      · rw [(hI2 j hj).1, y2]; funext i; exact aI_ov hBi n σ hj i
      · rw [(hI2 j hj).2, y3]; funext i; exact aL_ov hBi n σ hj i
    have hd' : ∀ i j, i < 68 → j < 40 → A' i ≠ B j := fun i j hi hj => (hB4 j hj).1 i hi
    have es : σ2 = ov 40 B n σ2 := (ov_same fun j hj => ⟨(hB4 j hj).2.1, (hB4 j hj).2.2.1⟩).symm
    have M' : MJ s B σ2 n := by
      obtain ⟨⟨⟨l1, l2, l3, l4⟩, m2, m3, m4, m5⟩, k1⟩ := hM
      have h0 : ∀ q ∈ tMK, q.1 < 40 := by decide
      refine ⟨⟨⟨l1, fun q hq => ?_, fun q hq => ?_, fun k hk => ?_⟩, m2, m3, m4, m5⟩, k1⟩
      · rw [(hB4 0 (by omega)).2.2.2.1]; exact l2 q hq
      · rw [(hB4 q.1 (h0 q hq)).2.2.2.2.1, (hB4 q.1 (h0 q hq)).2.2.2.2.2]; exact l3 q hq
      · rw [hZ]; exact Nat.lt_of_lt_of_le (l4 k hk) x2
    have M2 : MJ s B (ov 68 A' m' σ2) n := M'
    obtain ⟨n', v, r', e2, k2, t2, hv, hr'⟩ := m_runX M2.1 (w := v1.toInt) (way := v2.toInt) (c := v3.toInt) (iI_lo v1) (iI_hi v1) (iI_lo v2) (iI_hi v2) (iI_lo v3) (iI_hi v3)
    simp only [i_of] at e2
    have er := runX_u hr hr'
    subst er
    have et : ov 68 A' m' σ2 = ov 40 B n (ov 68 A' m' σ2) := by
      rw [← ov_comm hd', ← es]
    have hth := q_Md_thrown M2.1.1 n'
    rw [t2] at hth
    refine ⟨v, ov 40 B n' (ov 68 A' m' σ2), by rw [← e2, ← et], mK_0 M'.1.1, mK_0 M'.1.1, hth, hv, ?_, A', B, σ2, m', n', g, (ov_comm hd').symm, x1, rfl, hd', w1, hq2, by rw [hZ]; exact Nat.lt_of_lt_of_le hq3 x2, by rw [hK, w5]; exact hq4, by rw [hN, w6]; exact hq5, by omega, I2, MJ_K k2 M'⟩
    rw [aL_out hq2, aL_out w1]
  cases hro : r with
  | some y =>
    have cq : ∀ j, j < 40 → aL (sL σ' q 0 y.toInt64) (B j) = aL σ' (B j) := fun j hj => by
      funext i
      show (if B j = q ∧ i = 0 then y.toInt64 else σ'.2.1 (B j) i) = σ'.2.1 (B j) i
      rw [if_neg (fun h => hq2 j hj h.1)]
    obtain ⟨v, τ2, f1, f2, f3, f4, f5, f6, f7⟩ := ref (sL σ' q 0 y.toInt64) rfl rfl rfl rfl rfl (fun j hj => ⟨rfl, cq j hj⟩) I1
    rw [hro] at f4 f5
    refine ⟨0, v, ov 68 A' m' (sL σ' q 0 y.toInt64), τ2, ?_, f2, f1, f3, f4, fun _ => ?_, f7⟩
    · rw [hro] at e1
      have z0 : (0 : Int32).toNatClampNeg = 0 := by decide
      have o1 : okO (ov 68 A m (ov 40 B n σ)) (A 0) 11 = true := cK_0 hC.1.1
      have o2 : okO (ov 68 A' m' σ') q 102 = true := okO_of (by show aK σ' q = 102; rw [w5]; exact hq4)
      have o3 : inB 0 (aN (ov 68 A' m' σ') q) = true := by
        show inB (iI ((0 : Nat) : Int)) (aN σ' q) = true
        rw [w6]
        show inB (iI ((0 : Nat) : Int)) (aN σ q) = true
        rw [hq5]; decide
      unfold M_Lw_run T_Lw_run
      rw [o1, gdT_true, e1, bndT_some]
      show mw _ (lpK (fun _ => none) (gdT (okO (ov 68 A' m' σ') q 102) <| gdT (inB 0 (aN (ov 68 A' m' σ') q)) <| letT (sL (ov 68 A' m' σ') q (0 : Int32).toNatClampNeg y.toInt64) fun σ2 => (.inr (some ((0 : Int32), σ2)) : Unit ⊕ Option (Int32 × AM)))) = _
      rw [o2, gdT_true, o3, gdT_true, letT_eq, z0, sL_out w1]
      exact mw_of x2 x3
    · rw [f6, f5 y rfl]
      show (if q = q ∧ 0 = 0 then y.toInt64 else σ'.2.1 q 0) = y.toInt64
      rw [if_pos ⟨rfl, rfl⟩]
  | none =>
    obtain ⟨v, τ2, f1, f2, f3, f4, f5, f6, f7⟩ := ref σ' rfl rfl rfl rfl rfl (fun j hj => ⟨rfl, rfl⟩) I1
    rw [hro] at f4
    refine ⟨1, v, ov 68 A' m' σ', τ2, ?_, f2, f1, f3, f4, fun h => absurd h (by decide), f7⟩
    · rw [hro] at e1
      have o1 : okO (ov 68 A m (ov 40 B n σ)) (A 0) 11 = true := cK_0 hC.1.1
      unfold M_Lw_run T_Lw_run
      rw [o1, gdT_true, e1, bndT_some]
      unfold B_Lw_run
      exact mw_of x2 x3
