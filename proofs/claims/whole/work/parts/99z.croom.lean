/-! ===== the class makes room for lists ===== -/
theorem re_step {A : Nat → Nat} {σ : AM} (H : LCx A σ) (m : VM) (n : Nat) {f c kd : Nat} (hq : (17, f, c, kd) ∈ dynT) : ∃ (A' : Nat → Nat) (σ' : AM) (m' : VM), (∀ {B : Type} (K : AM → Option B), (letT (nw (ov 68 A m σ) kd n) fun σ4 => gd (okO σ4 (A 17) 3) <| letT (sR σ4 (A 17) f (aZ (ov 68 A m σ))) fun σ8 => K σ8) = K (ov 68 A' m' σ')) ∧ LCx A' σ' ∧ (∀ k, k ≠ c → A' k = A k) ∧ (∀ k, k < 68 → k ≠ c → m'.1 k = m.1 k ∧ m'.2 k = m.2 k ∧ aN σ' (A' k) = aN σ (A k)) ∧ aN σ' (A' c) = n ∧ aZ σ' = aZ σ + 1 ∧ aU σ' = aU σ + n ∧ Ext A σ A' σ' := by
  obtain ⟨σ1, m1, e1, L1, k1, _, _, n1, z1, u1, x1⟩ := realloc H m n hq
  have a1 : ∀ k, k ≠ c → upA A c (aZ σ) k = A k := fun k hk => if_neg hk
  have ac : upA A c (aZ σ) c = aZ σ := if_pos rfl
  refine ⟨upA A c (aZ σ), σ1, m1, fun K => ?_, L1, a1, fun k hk hc => ⟨(k1 k hk hc).1, (k1 k hk hc).2.1, by rw [a1 k hc]; exact (k1 k hk hc).2.2⟩, by rw [ac]; exact n1, z1, u1, x1⟩
  rw [letT_eq, okO_nw H.2.2.2.2 m kd n (o := 17) (by decide), okO_of (H.2.2.1 (17, 3) (by decide)), gd_true, aZ_ov, e1, letT_eq]
theorem n1_iI {a n : Nat} (ha : a ≤ 16384) (hn : n ≤ 16384) : mnI (mxI (iI (a : Int)) ((2 : Int32) * iI (n : Int))) (16384 : Int32) = iI ((min (max a (2 * n)) 16384 : Nat) : Int) := by
  have e2 : (2 : Int32) * iI (n : Int) = iI ((2 * n : Nat) : Int) := by rw [l_2, iI_mul]; exact congrArg iI (by omega)
  rw [e2, mxI_iI (by omega) (by omega) (by omega) (by omega), l_16384]
  have e3 : (if (a : Int) < ((2 * n : Nat) : Int) then ((2 * n : Nat) : Int) else (a : Int)) = ((max a (2 * n) : Nat) : Int) := by split <;> omega
  rw [e3, mnI_iI (by omega) (by omega) (by omega) (by omega)]
  exact congrArg iI (by split <;> omega)
/-- lists long enough -/
theorem room_a {A : Nat → Nat} {σ : AM} (H : LC A σ) (m : VM) {z u : Nat} (hM : RmI z u A σ) {a : Nat} (ha1 : 1 ≤ a) (ha : a ≤ 16384) : ∃ (A' : Nat → Nat) (σ' : AM) (m' : VM), L_Ls_makeRoom_0 (A 17) (iI (a : Int)) (ov 68 A m σ) = L_Ls_makeRoom_1 (A' 17) (iI (a : Int)) (ov 68 A' m' σ') ∧ LC A' σ' ∧ (∀ k, k ∉ [21, 22, 23, 24] → A' k = A k) ∧ (∀ k, k < 68 → k ∉ [21, 22, 23, 24] → m'.1 k = m.1 k ∧ m'.2 k = m.2 k) ∧ RmI (z + 4) u A' σ' ∧ a ≤ aN σ' (A' 21) ∧ Ext A σ A' σ' := by
  obtain ⟨M1, M2, M3, M4, M5, M6, M7, M8⟩ := hM
  by_cases hlt : aN σ (A 21) < a
  · have hn1 := n1_iI ha M3
    obtain ⟨n1, hn⟩ : ∃ n1, min (max a (2 * aN σ (A 21))) 16384 = n1 := ⟨_, rfl⟩
    rw [hn] at hn1
    have b1 : a ≤ n1 ∧ n1 ≤ 16384 ∧ (2 * aN σ (A 21) ≤ n1 ∨ n1 = 16384) := by omega
    obtain ⟨A1, σ1, m1, e1, L1, a1, k1, c1, z1, u1, x1⟩ := re_step (LC_x H) m n1 (f := 4) (c := 21) (kd := 102) (by decide)
    obtain ⟨A2, σ2, m2, e2, L2, a2, k2, c2, z2, u2, x2⟩ := re_step L1 m1 n1 (f := 5) (c := 22) (kd := 101) (by decide)
    obtain ⟨A3, σ3, m3, e3, L3, a3, k3, c3, z3, u3, x3⟩ := re_step L2 m2 n1 (f := 6) (c := 23) (kd := 101) (by decide)
    obtain ⟨A4, σ4, m4, e4, L4, a4, k4, c4, z4, u4, x4⟩ := re_step L3 m3 n1 (f := 7) (c := 24) (kd := 101) (by decide)
    have p1 : A1 17 = A 17 := a1 17 (by decide)
    have p2 : A2 17 = A 17 := (a2 17 (by decide)).trans p1
    have p3 : A3 17 = A 17 := (a3 17 (by decide)).trans p2
    have p4 : A4 17 = A 17 := (a4 17 (by decide)).trans p3
    have aA : ∀ k, k ∉ [21, 22, 23, 24] → A4 k = A k := fun k hk => by
      simp only [List.mem_cons, List.not_mem_nil, or_false, not_or] at hk
      rw [a4 k hk.2.2.2, a3 k hk.2.2.1, a2 k hk.2.1, a1 k hk.1]
    have nO : ∀ k, k < 68 → k ∉ [21, 22, 23, 24] → aN σ4 (A4 k) = aN σ (A k) := fun k h1 hk => by
      simp only [List.mem_cons, List.not_mem_nil, or_false, not_or] at hk
      rw [(k4 k h1 hk.2.2.2).2.2, (k3 k h1 hk.2.2.1).2.2, (k2 k h1 hk.2.1).2.2, (k1 k h1 hk.1).2.2]
    have n21 : aN σ4 (A4 21) = n1 := by rw [(k4 21 (by decide) (by decide)).2.2, (k3 21 (by decide) (by decide)).2.2, (k2 21 (by decide) (by decide)).2.2, c1]
    have n22 : aN σ4 (A4 22) = n1 := by rw [(k4 22 (by decide) (by decide)).2.2, (k3 22 (by decide) (by decide)).2.2, c2]
    have n23 : aN σ4 (A4 23) = n1 := by rw [(k4 23 (by decide) (by decide)).2.2, c3]
    refine ⟨A4, σ4, m4, ?_, LC_of L4 (by rw [n22, n21]) (by rw [n23, n21]) (by rw [c4, n21]) ?_, aA, fun k h1 hk => ?_, ?_, by rw [n21]; omega, Ext_t (Ext_t (Ext_t x1 x2) x3) x4⟩
    · have q1 : iI (aN σ (A 21) : Int) < iI (a : Int) := by rw [iI_lt (by omega) (by omega) (by omega) (by omega)]; omega
      rw [E_Ls_makeRoom_0, okO_ov, aR_ov, aN_ov, cK_17 H, gd_true, cR_17_4 H, cK_21 H, gd_true, nI_iI, if_pos q1, letT_eq, hn1, gd_okN (by omega) (by omega), iI_cl (by omega) (by omega), Int.toNat_natCast, e1, gd_okN (by omega) (by omega)]
      rw [← p1, e2, gd_okN (by omega) (by omega), p1, ← p2, e3, gd_okN (by omega) (by omega), p2, ← p3, e4, p3, p4]
    · rw [nO 37 (by decide) (by decide), nO 38 (by decide) (by decide)]; exact H.2.2.2.2.2.2.2.1
    · simp only [List.mem_cons, List.not_mem_nil, or_false, not_or] at hk
      exact ⟨by rw [(k4 k h1 hk.2.2.2).1, (k3 k h1 hk.2.2.1).1, (k2 k h1 hk.2.1).1, (k1 k h1 hk.1).1], by rw [(k4 k h1 hk.2.2.2).2.1, (k3 k h1 hk.2.2.1).2.1, (k2 k h1 hk.2.1).2.1, (k1 k h1 hk.1).2.1]⟩
    · refine ⟨by omega, ?_, by rw [n21]; omega, by rw [nO 25 (by decide) (by decide)]; exact M4, by rw [nO 26 (by decide) (by decide)]; exact M5, by rw [nO 38 (by decide) (by decide), n21]; omega, ?_, by rw [nO 25 (by decide) (by decide)]; exact M8⟩
      · rw [n21, nO 25 (by decide) (by decide), nO 26 (by decide) (by decide), nO 38 (by decide) (by decide), u4, u3, u2, u1]
        have hpot : n1 + pot (aN σ (A 21)) ≤ pot n1 := by
          unfold pot
          have : ¬ aN σ (A 21) = 16384 := by omega
          rw [if_neg this]
          split <;> omega
        omega
      · rw [nO 38 (by decide) (by decide), n21]; intro _; omega
  · have q1 : ¬ iI (aN σ (A 21) : Int) < iI (a : Int) := by rw [iI_lt (by omega) (by omega) (by omega) (by omega)]; omega
    refine ⟨A, σ, m, ?_, H, fun _ _ => rfl, fun _ _ _ => ⟨rfl, rfl⟩, ⟨by omega, M2, M3, M4, M5, M6, M7, M8⟩, by omega, Ext_r _ _⟩
    rw [E_Ls_makeRoom_0, okO_ov, aR_ov, aN_ov, cK_17 H, gd_true, cR_17_4 H, cK_21 H, gd_true, nI_iI, if_neg q1]
theorem room_s {A : Nat → Nat} {σ : AM} (H : LC A σ) {a : Nat} (ha1 : 1 ≤ a) (ha : a ≤ 16384) : ∀ (n i : Nat) (m : VM), i + n = 14 → m.1 17 10 = iI ((2 ^ (i + 1) : Nat) : Int) → ∃ k, 1 ≤ k ∧ k ≤ 15 ∧ 2 * a ≤ 2 ^ k ∧ L_Ls_makeRoom_2 (A 17) (iI (a : Int)) (iI (i : Int)) (ov 68 A m σ) = L_Ls_makeRoom_3 (A 17) (ov 68 A (sV m 17 10 (iI ((2 ^ k : Nat) : Int))) σ) := by
  have l0 : ∀ k : Nat, iI (k : Int) + (1 : Int32) = iI ((k + 1 : Nat) : Int) := fun k => by rw [l_1, iI_add, iI_s]
  have e2 : (2 : Int32) * iI (a : Int) = iI ((2 * a : Nat) : Int) := by rw [l_2, iI_mul]; exact congrArg iI (by omega)
  have stop : ∀ (i : Nat) (m : VM), i ≤ 14 → m.1 17 10 = iI ((2 ^ (i + 1) : Nat) : Int) → 2 * a ≤ 2 ^ (i + 1) → ∃ k, 1 ≤ k ∧ k ≤ 15 ∧ 2 * a ≤ 2 ^ k ∧ L_Ls_makeRoom_2 (A 17) (iI (a : Int)) (iI (i : Int)) (ov 68 A m σ) = L_Ls_makeRoom_3 (A 17) (ov 68 A (sV m 17 10 (iI ((2 ^ k : Nat) : Int))) σ) := fun i m hi h10 h2 => by
    have hp : 2 ^ (i + 1) ≤ 32768 := Nat.le_trans (Nat.pow_le_pow_right (by omega) (show i + 1 ≤ 15 by omega)) (by decide)
    have c1 : iI (i : Int) < (16 : Int32) := by rw [l_16, iI_lt (by omega) (by omega) (by omega) (by omega)]; omega
    have c2 : ¬ iI ((2 ^ (i + 1) : Nat) : Int) < iI ((2 * a : Nat) : Int) := by rw [iI_lt (by omega) (by omega) (by omega) (by omega)]; omega
    refine ⟨i + 1, by omega, by omega, h2, ?_⟩
    rw [E_Ls_makeRoom_2, if_pos c1, okO_ov, cK_17 H, gd_true, aI_ov H.1 _ _ (by omega), h10, e2, if_neg c2, ← h10, sV_self]
  intro n
  induction n with
  | zero =>
    intro i m hi h10
    refine stop i m (by omega) h10 ?_
    rw [show i + 1 = 15 by omega]
    have : (2 : Nat) ^ 15 = 32768 := by decide
    omega
  | succ n ih =>
    intro i m hi h10
    by_cases h2 : 2 * a ≤ 2 ^ (i + 1)
    · exact stop i m (by omega) h10 h2
    · have hp : 2 ^ (i + 1) ≤ 32768 := Nat.le_trans (Nat.pow_le_pow_right (by omega) (show i + 1 ≤ 15 by omega)) (by decide)
      have c1 : iI (i : Int) < (16 : Int32) := by rw [l_16, iI_lt (by omega) (by omega) (by omega) (by omega)]; omega
      have c2 : iI ((2 ^ (i + 1) : Nat) : Int) < iI ((2 * a : Nat) : Int) := by
        clear ih h10
        generalize 2 ^ (i + 1) = P at *
        rw [iI_lt (by omega) (by omega) (by omega) (by omega)]; omega
      have e3 : iI ((2 ^ (i + 1) : Nat) : Int) * (2 : Int32) = iI ((2 ^ (i + 1 + 1) : Nat) : Int) := by rw [l_2, iI_mul, Nat.pow_succ 2 (i + 1)]; exact congrArg iI (by omega)
      obtain ⟨k, k1, k2, k3, k4⟩ := ih (i + 1) (sV m 17 10 (iI ((2 ^ (i + 1 + 1) : Nat) : Int))) (by omega) (by simp (disch := decide) only [sV_eq, sW_eq, sV_ne, sW_ne, sV_2, sW_1, Nat.reduceEqDiff, ↓reduceIte])
      refine ⟨k, k1, k2, k3, ?_⟩
      rw [E_Ls_makeRoom_2, if_pos c1, okO_ov, cK_17 H, gd_true, aI_ov H.1 _ _ (by omega), h10, e2, if_pos c2, e3, sI_ov H.1 _ _ (by omega), letT_eq, l0, k4]
      have : ∀ v w : Int32, sV (sV m 17 10 v) 17 10 w = sV m 17 10 w := fun v w => by
        refine Prod.ext ?_ rfl
        funext c j
        by_cases hc : c = 17
        · subst hc
          rw [sV_eq, sV_eq, sV_eq]
          by_cases hj : j = 10
          · rw [if_pos hj, if_pos hj]
          · rw [if_neg hj, if_neg hj, if_neg hj]
        · rw [sV_ne _ _ _ _ hc, sV_ne _ _ _ _ hc, sV_ne _ _ _ _ hc]
      rw [this]
theorem pow_lt2 {a b : Nat} (h : 2 ^ a < 2 ^ b) : 2 * 2 ^ a ≤ 2 ^ b := by
  have : a < b := by
    rcases Nat.lt_or_ge a b with z | z
    · exact z
    · exact absurd (Nat.pow_le_pow_right (show 0 < 2 by omega) z) (by omega)
  have := Nat.pow_le_pow_right (show 0 < 2 by omega) (show a + 1 ≤ b by omega)
  rw [Nat.pow_succ] at this
  omega
theorem p_room {A : Nat → Nat} {σ : AM} (H : LC A σ) (m : VM) {z u : Nat} (hM : RmI z u A σ) {a : Nat} (ha1 : 1 ≤ a) (ha : a ≤ 16384) : ∃ (A' : Nat → Nat) (σ' : AM) (m' : VM) (k : Nat), M_Ls_makeRoom (A 17) (iI (a : Int)) (ov 68 A m σ) = some ((), ov 68 A' m' σ') ∧ LC A' σ' ∧ (∀ k, k ∉ [21, 22, 23, 24, 25] → A' k = A k) ∧ (∀ k, k < 68 → k ∉ [17, 21, 22, 23, 24, 25] → m'.1 k = m.1 k) ∧ (∀ k, k < 68 → k ∉ [21, 22, 23, 24, 25] → m'.2 k = m.2 k) ∧ (∀ j, j ≠ 10 → m'.1 17 j = m.1 17 j) ∧ RmI (z + 5) u A' σ' ∧ a ≤ aN σ' (A' 21) ∧ Ext A σ A' σ' ∧ 1 ≤ k ∧ k ≤ 15 ∧ 2 * a ≤ 2 ^ k ∧ m'.1 17 10 = iI ((2 ^ k : Nat) : Int) ∧ 2 ^ k ≤ aN σ' (A' 25) ∧ ∀ j, j < aN σ' (A' 25) → m'.1 25 j = iI (-1) := by
  obtain ⟨A1, σ1, m1, e1, H1, a1, k1, M1, n1, x1⟩ := room_a H m hM ha1 ha
  obtain ⟨k, b1, b2, b3, e2⟩ := room_s H1 ha1 ha 14 0 (sV m1 17 10 (iI 2)) rfl (by simp (disch := decide) only [sV_eq, sW_eq, sV_ne, sW_ne, sV_2, sW_1, Nat.reduceEqDiff, ↓reduceIte]; rfl)
  replace e2 : L_Ls_makeRoom_2 (A1 17) (iI (a : Int)) (iI 0) _ = _ := e2
  have hp : 2 ^ k ≤ 32768 := Nat.le_trans (Nat.pow_le_pow_right (by omega) b2) (by decide)
  obtain ⟨R1, R2, R3, R4, R5, R6, R7, k0, R8, R9⟩ := M1
  have l2 : (2 : Int32) = iI 2 := by decide
  have ln : ((-1) : Int32) = iI (-1) := by decide
  have s0 : (sV (sV m1 17 10 (iI 2)) 17 10 (iI ((2 ^ k : Nat) : Int))).1 17 10 = iI ((2 ^ k : Nat) : Int) := by simp (disch := decide) only [sV_eq, sW_eq, sV_ne, sW_ne, sV_2, sW_1, Nat.reduceEqDiff, ↓reduceIte]
  have c17 : ∀ j, j ≠ 10 → (sV (sV m1 17 10 (iI 2)) 17 10 (iI ((2 ^ k : Nat) : Int))).1 17 j = m.1 17 j := fun j hj => by rw [sV_eq, if_neg hj, sV_eq, if_neg hj, (k1 17 (by decide) (by decide)).1]
  have cO : ∀ q, q < 68 → q ∉ [17, 21, 22, 23, 24, 25] → (sV (sV m1 17 10 (iI 2)) 17 10 (iI ((2 ^ k : Nat) : Int))).1 q = m.1 q := fun q h1 h2 => by
    simp only [List.mem_cons, List.not_mem_nil, or_false, not_or] at h2
    rw [sV_ne _ _ _ _ h2.1, sV_ne _ _ _ _ h2.1, (k1 q h1 (by simp only [List.mem_cons, List.not_mem_nil, or_false, not_or]; exact ⟨h2.2.1, h2.2.2.1, h2.2.2.2.1, h2.2.2.2.2.1⟩)).1]
  have cL : ∀ q, q < 68 → q ∉ [21, 22, 23, 24, 25] → (sV (sV m1 17 10 (iI 2)) 17 10 (iI ((2 ^ k : Nat) : Int))).2 q = m.2 q := fun q h1 h2 => by
    simp only [List.mem_cons, List.not_mem_nil, or_false, not_or] at h2
    rw [sV_2, sV_2, (k1 q h1 (by simp only [List.mem_cons, List.not_mem_nil, or_false, not_or]; exact ⟨h2.1, h2.2.1, h2.2.2.1, h2.2.2.2.1⟩)).2]
  have aA : ∀ q, q ∉ [21, 22, 23, 24, 25] → A1 q = A q := fun q h2 => a1 q (by
    simp only [List.mem_cons, List.not_mem_nil, or_false, not_or] at h2 ⊢
    exact ⟨h2.1, h2.2.1, h2.2.2.1, h2.2.2.2.1⟩)
  have st : M_Ls_makeRoom (A 17) (iI (a : Int)) (ov 68 A m σ) = mw (ov 68 A m σ) (L_Ls_makeRoom_3 (A1 17) (ov 68 A1 (sV (sV m1 17 10 (iI 2)) 17 10 (iI ((2 ^ k : Nat) : Int))) σ1)) := by
    unfold M_Ls_makeRoom
    rw [e1, E_Ls_makeRoom_1, okO_ov, cK_17 H1, gd_true, l2, sI_ov H1.1 _ _ (by omega), letT_eq, l_0, e2]
  rw [st]
  by_cases hlt : aN σ1 (A1 25) < 2 ^ k
  · obtain ⟨A2, σ2, m2, e3, L2, a2, k2, c2, z2, u2, x2⟩ := re_step (LC_x H1) (sV (sV m1 17 10 (iI 2)) 17 10 (iI ((2 ^ k : Nat) : Int))) (2 ^ k) (f := 8) (c := 25) (kd := 101) (by decide)
    have p2 : A2 17 = A1 17 := a2 17 (by decide)
    have nO : ∀ q, q < 68 → q ≠ 25 → aN σ2 (A2 q) = aN σ1 (A1 q) := fun q h1 h2 => (k2 q h1 h2).2.2
    have H2 : LC A2 σ2 := LC_of L2 (by rw [nO 22 (by decide) (by decide), nO 21 (by decide) (by decide)]; exact H1.2.2.2.2.1) (by rw [nO 23 (by decide) (by decide), nO 21 (by decide) (by decide)]; exact H1.2.2.2.2.2.1) (by rw [nO 24 (by decide) (by decide), nO 21 (by decide) (by decide)]; exact H1.2.2.2.2.2.2.1) (by rw [nO 37 (by decide) (by decide), nO 38 (by decide) (by decide)]; exact H1.2.2.2.2.2.2.2.1)
    have hf := q_fill2 H2.1 m2 (c := 25) (by decide) (H2.2.2.1 (25, 101) (by decide)) (by rw [c2]; omega) (iI (-1))
    have x12 := Ext_t x1 x2
    refine ⟨A2, σ2, fillV m2 25 (aN σ2 (A2 25)) (iI (-1)), k, ?_, H2, fun q hq => ?_, fun q h1 h2 => ?_, fun q h1 h2 => ?_, fun j hj => ?_, ?_, by rw [nO 21 (by decide) (by decide)]; exact n1, x12, b1, b2, b3, ?_, by rw [c2]; exact Nat.le_refl _, fun j hj => if_pos ⟨rfl, hj⟩⟩
    · have q1 : iI (aN σ1 (A1 25) : Int) < iI ((2 ^ k : Nat) : Int) := by rw [iI_lt (by omega) (by omega) (by omega) (by omega)]; omega
      rw [E_Ls_makeRoom_3, okO_ov, aR_ov, aN_ov, cK_17 H1, gd_true, cR_17_8 H1, cK_25 H1, gd_true, nI_iI, aI_ov H1.1 _ _ (by omega), s0, if_pos q1, gd_okN (by omega) (by omega), iI_cl (by omega) (by omega), Int.toNat_natCast, e3, ← p2, E_Ls_makeRoom_4, okO_ov, aR_ov, cK_17 H2, gd_true, cR_17_8 H2, cK_25 H2, gd_true, ln, hf, bnd_some]
      exact mw_of (by have := x12.2.1; exact this) (by have := x12.2.2.1; exact this)
    · have h2 := hq
      simp only [List.mem_cons, List.not_mem_nil, or_false, not_or] at h2
      rw [a2 q h2.2.2.2.2]; exact aA q hq
    · have h3 := h2
      simp only [List.mem_cons, List.not_mem_nil, or_false, not_or] at h3
      rw [fillV_ne _ _ _ _ h3.2.2.2.2.2, (k2 q h1 h3.2.2.2.2.2).1]; exact cO q h1 h2
    · have h3 := h2
      simp only [List.mem_cons, List.not_mem_nil, or_false, not_or] at h3
      rw [fillV_2, (k2 q h1 h3.2.2.2.2).2.1]; exact cL q h1 h2
    · rw [fillV_ne _ _ _ _ (by decide), (k2 17 (by decide) (by decide)).1]; exact c17 j hj
    · refine ⟨by omega, ?_, by rw [nO 21 (by decide) (by decide)]; exact R3, by rw [c2]; exact hp, by rw [nO 26 (by decide) (by decide)]; exact R5, by rw [nO 38 (by decide) (by decide), nO 21 (by decide) (by decide)]; exact R6, by rw [nO 38 (by decide) (by decide), nO 21 (by decide) (by decide)]; exact R7, k, b2, c2⟩
      rw [nO 21 (by decide) (by decide), c2, nO 26 (by decide) (by decide), nO 38 (by decide) (by decide), u2]
      rw [R9] at hlt
      have := pow_lt2 hlt
      omega
    · rw [fillV_ne _ _ _ _ (by decide), (k2 17 (by decide) (by decide)).1]; exact s0
  · have hf := q_fill2 H1.1 (sV (sV m1 17 10 (iI 2)) 17 10 (iI ((2 ^ k : Nat) : Int))) (c := 25) (by decide) (H1.2.2.1 (25, 101) (by decide)) (by omega) (iI (-1))
    refine ⟨A1, σ1, fillV (sV (sV m1 17 10 (iI 2)) 17 10 (iI ((2 ^ k : Nat) : Int))) 25 (aN σ1 (A1 25)) (iI (-1)), k, ?_, H1, aA, fun q h1 h2 => ?_, fun q h1 h2 => ?_, fun j hj => ?_, ⟨by omega, R2, R3, R4, R5, R6, R7, k0, R8, R9⟩, n1, x1, b1, b2, b3, ?_, by omega, fun j hj => if_pos ⟨rfl, hj⟩⟩
    · have q1 : ¬ iI (aN σ1 (A1 25) : Int) < iI ((2 ^ k : Nat) : Int) := by rw [iI_lt (by omega) (by omega) (by omega) (by omega)]; omega
      rw [E_Ls_makeRoom_3, okO_ov, aR_ov, aN_ov, cK_17 H1, gd_true, cR_17_8 H1, cK_25 H1, gd_true, nI_iI, aI_ov H1.1 _ _ (by omega), s0, if_neg q1, E_Ls_makeRoom_4, okO_ov, aR_ov, cK_17 H1, gd_true, cR_17_8 H1, cK_25 H1, gd_true, ln, hf, bnd_some]
      exact mw_of (by have := x1.2.1; exact this) (by have := x1.2.2.1; exact this)
    · have h3 := h2
      simp only [List.mem_cons, List.not_mem_nil, or_false, not_or] at h3
      rw [fillV_ne _ _ _ _ h3.2.2.2.2.2]; exact cO q h1 h2
    · rw [fillV_2]; exact cL q h1 h2
    · rw [fillV_ne _ _ _ _ (by decide)]; exact c17 j hj
    · rw [fillV_ne _ _ _ _ (by decide)]; exact s0
