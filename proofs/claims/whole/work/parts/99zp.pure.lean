/-! ===== the law, without the machine ===== -/
theorem nw_hx (σ : AM) (kd n : Nat) : nw σ kd n = hpx σ [(kd, n, [], [], [])] := by
  have h := hx_nw σ [] kd n
  rw [hx_0] at h
  exact h
theorem hx_old (σ : AM) (T : TBx) {b : Nat} (hb : b < aZ σ) : aI (hpx σ T) b = aI σ b ∧ aL (hpx σ T) b = aL σ b ∧ aR (hpx σ T) b = aR σ b ∧ aK (hpx σ T) b = aK σ b ∧ aN (hpx σ T) b = aN σ b := by
  have hn : ¬ (aZ σ ≤ b ∧ b < aZ σ + T.length) := fun h => by omega
  exact ⟨funext fun j => if_neg hn, funext fun j => if_neg hn, funext fun j => if_neg hn, if_neg hn, if_neg hn⟩
theorem nw_old (σ : AM) (kd n : Nat) {b : Nat} (hb : b < aZ σ) : aI (nw σ kd n) b = aI σ b ∧ aL (nw σ kd n) b = aL σ b ∧ aR (nw σ kd n) b = aR σ b ∧ aK (nw σ kd n) b = aK σ b ∧ aN (nw σ kd n) b = aN σ b := by
  have hn : ¬ b = aZ σ := by omega
  exact ⟨funext fun j => if_neg hn, funext fun j => if_neg hn, funext fun j => if_neg hn, if_neg hn, if_neg hn⟩
theorem CI_mv {s : SD} {c g z u z' e : Nat} {A : Nat → Nat} {σ τ : AM} {m : VM} (C : CI s c g z u A σ m) (h : ∀ k, k < 68 → aR τ (A k) = aR σ (A k) ∧ aK τ (A k) = aK σ (A k) ∧ aN τ (A k) = aN σ (A k)) (hz : aZ σ ≤ aZ τ) (hz' : aZ τ ≤ z') (hu : aU τ = aU σ + e) : CI s c g z' (u + e) A τ m := by
  obtain ⟨⟨⟨l1, l2, l3, l4, l5, l6, l7, l8, l9⟩, c2, ⟨d1, d2⟩, ⟨r1, r2, r3, r4, r5, r6, r7, r8⟩, c5, c6, c7, c8, c9, a, a1, a2, a3, a4⟩, rest⟩ := C
  have q1 : ∀ q ∈ tCR, q.1 < 68 := by decide +kernel
  have q2 : ∀ q ∈ tCK, q.1 < 68 := by decide +kernel
  have q3 : ∀ q ∈ tCN, q.1 < 68 := by decide +kernel
  have N : ∀ k, k < 68 → aN τ (A k) = aN σ (A k) := fun k hk => (h k hk).2.2
  have n21 := N 21 (by decide)
  have n25 := N 25 (by decide)
  have n26 := N 26 (by decide)
  have n38 := N 38 (by decide)
  refine ⟨⟨⟨l1, fun q hq => ?_, fun q hq => ?_, fun q hq => ?_, ?_, ?_, ?_, ?_, fun k hk => Nat.lt_of_lt_of_le (l9 k hk) hz⟩, c2, ⟨by rw [n21]; exact d1, by rw [n21]; exact d2⟩, ⟨hz', ?_, ?_, ?_, ?_, ?_, ?_, ?_⟩, c5, c6, c7, c8, c9, a, a1, a2, a3, fun y => ?_⟩, rest⟩
  · rw [(h _ (q1 q hq)).1]; exact l2 q hq
  · rw [(h _ (q2 q hq)).2.1]; exact l3 q hq
  · rw [(h _ (q3 q hq)).2.2]; exact l4 q hq
  · rw [N 22 (by decide), n21]; exact l5
  · rw [N 23 (by decide), n21]; exact l6
  · rw [N 24 (by decide), n21]; exact l7
  · rw [N 37 (by decide), n38]; exact l8
  · rw [n21, n25, n26, n38, hu]; omega
  · rw [n21]; exact r3
  · rw [n25]; exact r4
  · rw [n26]; exact r5
  · rw [n38, n21]; exact r6
  · rw [n38, n21]; exact r7
  · rw [n25]; exact r8
  · rw [n38]; exact a4 y
theorem WI_0 {σ0 σ1 : AM} {A B : Nat → Nat} {m n : VM} {z u : Nat} {T : TBx} (hT : T.length = 40) (a0 : A 0 = aZ σ0) (C : CI s00 0 0 z u A σ1 m) (Bk : ∀ k, B k = aZ σ1 + k) (M : MJ s00 B (hpx (ov 68 A m σ1) T) n) : WI s00 0 (z + 41) (u + (suN T + 1)) (aZ σ0) (aZ σ1) (aZ σ1 + 40) (nw (ov 40 B n (hpx (ov 68 A m σ1) T)) 102 1) := by
  obtain ⟨ρ, hρ⟩ : ∃ ρ : AM, ov 40 B n (hpx (ov 68 A m σ1) T) = ρ := ⟨_, rfl⟩
  have zρ : aZ ρ = aZ σ1 + 40 := by rw [← hρ]; exact congrArg (aZ σ1 + ·) hT
  have uρ : aU ρ = aU σ1 + suN T := by rw [← hρ]; rfl
  have Az : ∀ k, k < 68 → A k < aZ σ1 := C.1.1.2.2.2.2.2.2.2.2
  have Ai := C.1.1.1
  have Bi := M.1.1.1
  have dAB : ∀ i j, i < 68 → j < 40 → A i ≠ B j := fun i j hi hj => by have := Az i hi; rw [Bk j]; omega
  have oldA : ∀ k, k < 68 → aI ρ (A k) = m.1 k ∧ aL ρ (A k) = m.2 k ∧ aR ρ (A k) = aR σ1 (A k) ∧ aK ρ (A k) = aK σ1 (A k) ∧ aN ρ (A k) = aN σ1 (A k) := fun k hk => by
    obtain ⟨h1, h2, h3, h4, h5⟩ := hx_old (ov 68 A m σ1) T (b := A k) (Az k hk)
    rw [← hρ]
    refine ⟨?_, ?_, h3, h4, h5⟩
    · rw [aI_out (fun j hj y => dAB k j hk hj y.symm), h1]; funext i; exact aI_ov Ai m σ1 hk i
    · rw [aL_out (fun j hj y => dAB k j hk hj y.symm), h2]; funext i; exact aL_ov Ai m σ1 hk i
  have oldB : ∀ k, k < 40 → aI ρ (B k) = n.1 k ∧ aL ρ (B k) = n.2 k := fun k hk => by
    rw [← hρ]
    exact ⟨funext fun i => aI_ov Bi n _ hk i, funext fun i => aL_ov Bi n _ hk i⟩
  rw [hρ]
  have nA : ∀ k, k < 68 → _ := fun k hk => nw_old ρ 102 1 (b := A k) (by have := Az k hk; omega)
  have nB : ∀ k, k < 40 → _ := fun k hk => nw_old ρ 102 1 (b := B k) (by rw [Bk k]; omega)
  have e40 : ov 40 B n (nw ρ 102 1) = nw ρ 102 1 := ov_same fun j hj => ⟨(nB j hj).1.trans (oldB j hj).1, (nB j hj).2.1.trans (oldB j hj).2⟩
  have e68 : ov 68 A m (nw ρ 102 1) = nw ρ 102 1 := ov_same fun j hj => ⟨(nA j hj).1.trans (oldA j hj).1, (nA j hj).2.1.trans (oldA j hj).2.1⟩
  have zτ : aZ (nw ρ 102 1) = aZ σ1 + 41 := by show aZ ρ + 1 = _; omega
  have z1 := C.1.2.2.2.1.1
  refine ⟨A, B, nw ρ 102 1, m, n, 0, by rw [e40, e68], a0, by rw [Bk 0]; rfl, dAB, fun i hi => by have := Az i hi; omega, fun j hj => by rw [Bk j]; omega, by omega, ?_, ?_, Nat.le_refl _, ?_, ?_⟩
  · rw [← zρ]; exact if_pos rfl
  · rw [← zρ]; exact if_pos rfl
  · refine CI_mv C (fun k hk => ?_) (by omega) (by omega) (by show aU ρ + 1 = _; omega)
    exact ⟨(nA k hk).2.2.1.trans (oldA k hk).2.2.1, (nA k hk).2.2.2.1.trans (oldA k hk).2.2.2.1, (nA k hk).2.2.2.2.trans (oldA k hk).2.2.2.2⟩
  · obtain ⟨⟨⟨l1, l2, l3, l4⟩, m2, m3, m4, m5⟩, k1⟩ := M
    have h0 : ∀ q ∈ tMK, q.1 < 40 := by decide +kernel
    have eR : aR ρ = aR (hpx (ov 68 A m σ1) T) := by rw [← hρ]; rfl
    have eK : aK ρ = aK (hpx (ov 68 A m σ1) T) := by rw [← hρ]; rfl
    have eN : aN ρ = aN (hpx (ov 68 A m σ1) T) := by rw [← hρ]; rfl
    refine ⟨⟨⟨l1, fun q hq => ?_, fun q hq => ?_, fun k hk => ?_⟩, m2, m3, m4, m5⟩, k1⟩
    · rw [(nB 0 (by decide)).2.2.1, eR]; exact l2 q hq
    · rw [(nB q.1 (h0 q hq)).2.2.2.1, (nB q.1 (h0 q hq)).2.2.2.2, eK, eN]; exact l3 q hq
    · rw [Bk k, zτ]; omega
theorem lawPure : LawPure := fun L xs z hL hz => by
  obtain ⟨σ0, h0⟩ : ∃ σ0 : AM, am0 z = σ0 := ⟨_, rfl⟩
  have z0 : aZ σ0 = z := by rw [← h0]; rfl
  have u0 : aU σ0 = 0 := by rw [← h0]; rfl
  obtain ⟨A, σ1, m, e1, a0, C⟩ := iC_0 σ0
  obtain ⟨B, n, e2, Bk, M⟩ := iM_0 (ov 68 A m σ1)
  obtain ⟨T, hT⟩ : ∃ T : TBx, tM96 = T := ⟨_, rfl⟩
  have lT := len_M
  have su : suN tC163 + suN tM96 ≤ 6000000 := by decide +kernel
  rw [hT] at e2 M lT su
  have W := WI_0 lT a0 C Bk M
  obtain ⟨sa, hsa⟩ : ∃ sa, suN tC163 = sa := ⟨_, rfl⟩
  obtain ⟨sb, hsb⟩ : ∃ sb, suN T = sb := ⟨_, rfl⟩
  rw [hsa, hsb] at W su
  obtain ⟨τ', e3, h1, h2⟩ := law_loop hL xs 513 0 s00 _ (Nat.zero_add _) (z0 := aZ σ0 + 75 + 41) (u0 := aU σ0 + sa + 6 + (sb + 1)) W WF_0
  refine ⟨τ', ?_, by omega, by omega⟩
  have n1 : nw σ0 11 12 = hpx σ0 tC1 := nw_hx σ0 11 12
  have n2 : nw (ov 68 A m σ1) 12 76 = hpx (ov 68 A m σ1) tM1 := nw_hx _ 12 76
  have c1 : okO (hpx σ0 tC1) (aZ σ0) 11 = true := hx_ok σ0 tC1 (i := 0) (by decide) (by decide)
  have c2 : okO (hpx (ov 68 A m σ1) tM1) (aZ (ov 68 A m σ1)) 12 = true := hx_ok (ov 68 A m σ1) tM1 (i := 0) (by decide) (by decide)
  have zz : (1 : Int32).toNatClampNeg = 1 := by decide
  have q1 : aZ (ov 40 B n (hpx (ov 68 A m σ1) T)) = aZ σ1 + 40 := congrArg (aZ σ1 + ·) lT
  rw [h0, E_Lw_law_0, letT_eq, letT_eq, n1, c1, gd_true, e1, bnd_some, letT_eq, letT_eq, n2, c2, gd_true, e2, bnd_some, letT_eq, letT_eq, zz, q1]
  exact e3
