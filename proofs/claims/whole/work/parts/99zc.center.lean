/-! ===== the class enters a list ===== -/
def hsC (k : Nat) (x : Int64) : Nat := (tn (x * (-7046029254386353131)) / 2 ^ 40) % 2 ^ k
theorem hsC_lt (k : Nat) (x : Int64) : hsC k x < 2 ^ k := Nat.mod_lt _ (Nat.pow_pos (by omega))
theorem msk_C {a k : Nat} (ha : a < 2147483648) (hk : k ≤ 15) : iI (a : Int) &&& (iI ((2 ^ k : Nat) : Int) - (1 : Int32)) = iI ((a % 2 ^ k : Nat) : Int) := by
  have hp : 0 < 2 ^ k := Nat.pow_pos (by omega)
  have e : iI ((2 ^ k : Nat) : Int) - (1 : Int32) = iI ((2 ^ k - 1 : Nat) : Int) := by
    rw [l_1, iI_sub]
    refine congrArg iI ?_
    generalize 2 ^ k = P at *
    omega
  rw [e, and_mask ha (by omega)]
theorem en_step {A : Nat → Nat} {σ : AM} (H : LC A σ) {m : VM} {j k i q : Nat} (hk : k ≤ 15) (h10 : m.1 17 10 = iI ((2 ^ k : Nat) : Int)) (hj : j < 2 ^ k) (hn : 2 ^ k ≤ aN σ (A 25)) (hi : i < 2 ^ k) (hq : q < aN σ (A 21)) (hq2 : aN σ (A 21) ≤ 16384) (h25 : m.1 25 j = iI (q : Int)) {x : Int64} (hx : ¬ m.2 21 q = x) : L_Ls_enter_1 (A 17) x (iI (j : Int)) (iI (i : Int)) (ov 68 A m σ) = L_Ls_enter_1 (A 17) x (iI (((j + 1) % 2 ^ k : Nat) : Int)) (iI ((i + 1 : Nat) : Int)) (ov 68 A m σ) := by
  have hp : 2 ^ k ≤ 32768 := Nat.le_trans (Nat.pow_le_pow_right (by omega) hk) (by decide)
  have l0 : ∀ k : Nat, iI (k : Int) + (1 : Int32) = iI ((k + 1 : Nat) : Int) := fun k => by rw [l_1, iI_add, iI_s]
  have em := msk_C (a := j + 1) (k := k) (by omega) hk
  generalize 2 ^ k = P at *
  have c1 : iI (i : Int) < iI (P : Int) := by rw [iI_lt (by omega) (by omega) (by omega) (by omega)]; omega
  have c2 : ¬ iI (q : Int) < (0 : Int32) := by rw [l_0, iI_lt (by omega) (by omega) (by omega) (by omega)]; omega
  have c3 : ¬ lg_cmp (m.2 21 q) x = (0 : Int32) := by rw [l_0, lgc0]; exact hx
  rw [E_Ls_enter_1, okO_ov, aR_ov, aN_ov, cK_17 H, gd_true, aI_ov H.1 _ _ (by omega), h10, if_pos c1, cR_17_8 H, cK_25 H, gd_true, gd_in (by omega) (by omega) (by omega), letT_eq, iI_cl (by omega) (by omega), Int.toNat_natCast, aI_ov H.1 _ _ (by omega), h25, if_neg c2, cR_17_4 H, cK_21 H, gd_true, gd_in (by omega) (by omega) (by omega), iI_cl (by omega) (by omega), Int.toNat_natCast, aL_ov H.1 _ _ (by omega), if_neg c3, letT_eq, l0, em, l0]
theorem en_old {A : Nat → Nat} {σ : AM} (H : LC A σ) {m : VM} {j k i q : Nat} (hk : k ≤ 15) (h10 : m.1 17 10 = iI ((2 ^ k : Nat) : Int)) (hj : j < 2 ^ k) (hn : 2 ^ k ≤ aN σ (A 25)) (hi : i < 2 ^ k) (hq : q < aN σ (A 21)) (hq2 : aN σ (A 21) ≤ 16384) (h25 : m.1 25 j = iI (q : Int)) {x : Int64} (hx : m.2 21 q = x) : L_Ls_enter_1 (A 17) x (iI (j : Int)) (iI (i : Int)) (ov 68 A m σ) = some (iI (q : Int), (ov 68 A (sV m 22 q (m.1 22 q + iI 1)) σ)) := by
  have hp : 2 ^ k ≤ 32768 := Nat.le_trans (Nat.pow_le_pow_right (by omega) hk) (by decide)
  have h22 := H.2.2.2.2.1
  generalize 2 ^ k = P at *
  have c1 : iI (i : Int) < iI (P : Int) := by rw [iI_lt (by omega) (by omega) (by omega) (by omega)]; omega
  have c2 : ¬ iI (q : Int) < (0 : Int32) := by rw [l_0, iI_lt (by omega) (by omega) (by omega) (by omega)]; omega
  have c3 : lg_cmp (m.2 21 q) x = (0 : Int32) := by rw [l_0, lgc0]; exact hx
  rw [E_Ls_enter_1, okO_ov, aR_ov, aN_ov, cK_17 H, gd_true, aI_ov H.1 _ _ (by omega), h10, if_pos c1, cR_17_8 H, cK_25 H, gd_true, gd_in (by omega) (by omega) (by omega), letT_eq, iI_cl (by omega) (by omega), Int.toNat_natCast, aI_ov H.1 _ _ (by omega), h25, if_neg c2, cR_17_4 H, cK_21 H, gd_true, gd_in (by omega) (by omega) (by omega), iI_cl (by omega) (by omega), Int.toNat_natCast, aL_ov H.1 _ _ (by omega), if_pos c3, cR_17_5 H, cK_22 H, gd_true, gd_in (by omega) (by omega) (by omega), aI_ov H.1 _ _ (by omega), l_1, sI_ov H.1 _ _ (by omega), letT_eq]
def enM (m : VM) (j n : Nat) (x : Int64) : VM := sV (sV (sW (sV m 25 j (iI (n : Int))) 21 n x) 22 n (iI 1)) 17 11 (iI ((n + 1 : Nat) : Int))
theorem en_new {A : Nat → Nat} {σ : AM} (H : LC A σ) {m : VM} {j k i n : Nat} (hk : k ≤ 15) (h10 : m.1 17 10 = iI ((2 ^ k : Nat) : Int)) (h11 : m.1 17 11 = iI (n : Int)) (hj : j < 2 ^ k) (hn : 2 ^ k ≤ aN σ (A 25)) (hi : i < 2 ^ k) (hq : n < aN σ (A 21)) (hq2 : aN σ (A 21) ≤ 16384) (h25 : m.1 25 j = iI (-1)) (x : Int64) : L_Ls_enter_1 (A 17) x (iI (j : Int)) (iI (i : Int)) (ov 68 A m σ) = some (iI (n : Int), (ov 68 A (enM m j n x) σ)) := by
  have hp : 2 ^ k ≤ 32768 := Nat.le_trans (Nat.pow_le_pow_right (by omega) hk) (by decide)
  have h22 := H.2.2.2.2.1
  generalize 2 ^ k = P at *
  have c1 : iI (i : Int) < iI (P : Int) := by rw [iI_lt (by omega) (by omega) (by omega) (by omega)]; omega
  have c2 : iI (-1) < (0 : Int32) := by decide
  have s1 : (sV m 25 j (iI (n : Int))).1 17 11 = iI (n : Int) := by simp (disch := decide) only [sV_eq, sW_eq, sV_ne, sW_ne, sV_2, sW_1, Nat.reduceEqDiff, ↓reduceIte]; exact h11
  have s2 : (sW (sV m 25 j (iI (n : Int))) 21 n x).1 17 11 = iI (n : Int) := by simp (disch := decide) only [sV_eq, sW_eq, sV_ne, sW_ne, sV_2, sW_1, Nat.reduceEqDiff, ↓reduceIte]; exact h11
  have s3 : (sV (sW (sV m 25 j (iI (n : Int))) 21 n x) 22 n (iI 1)).1 17 11 = iI (n : Int) := by simp (disch := decide) only [sV_eq, sW_eq, sV_ne, sW_ne, sV_2, sW_1, Nat.reduceEqDiff, ↓reduceIte]; exact h11
  have s4 : (enM m j n x).1 17 11 = iI ((n + 1 : Nat) : Int) := by unfold enM; simp (disch := decide) only [sV_eq, sW_eq, sV_ne, sW_ne, sV_2, sW_1, Nat.reduceEqDiff, ↓reduceIte]
  have e1 : iI ((n + 1 : Nat) : Int) - iI 1 = iI (n : Int) := by rw [iI_sub]; exact congrArg iI (by omega)
  rw [E_Ls_enter_1, okO_ov, aR_ov, aN_ov, cK_17 H, gd_true, aI_ov H.1 _ _ (by omega), h10, if_pos c1, cR_17_8 H, cK_25 H, gd_true, gd_in (by omega) (by omega) (by omega), letT_eq, iI_cl (by omega) (by omega), Int.toNat_natCast, aI_ov H.1 _ _ (by omega), h25, if_pos c2, aI_ov H.1 _ _ (by omega), h11, sI_ov H.1 _ _ (by omega), letT_eq, okO_ov, aR_ov, aN_ov, cR_17_4 H, cK_21 H, gd_true, aI_ov H.1 _ _ (by omega), s1, gd_in (by omega) (by omega) (by omega), iI_cl (by omega) (by omega), Int.toNat_natCast, sL_ov H.1 _ _ (by omega), letT_eq, okO_ov, aR_ov, aN_ov, cR_17_5 H, cK_22 H, gd_true, aI_ov H.1 _ _ (by omega), s2, gd_in (by omega) (by omega) (by omega), iI_cl (by omega) (by omega), Int.toNat_natCast, l_1, sI_ov H.1 _ _ (by omega), letT_eq, aI_ov H.1 _ _ (by omega), s3, iI_add, iI_s, sI_ov H.1 _ _ (by omega), letT_eq]
  show some (aI (ov 68 A (enM m j n x) σ) (A 17) 11 - iI 1, (ov 68 A (enM m j n x) σ)) = _
  rw [aI_ov H.1 _ _ (by omega), s4, e1]
theorem p_enter {A : Nat → Nat} {σ : AM} (H : LC A σ) {m : VM} {k : Nat} {L : List Int64} (hk : k ≤ 15) (h10 : m.1 17 10 = iI ((2 ^ k : Nat) : Int)) (hn : 2 ^ k ≤ aN σ (A 25)) (hT : HT (2 ^ k) (hsC k) (m.1 25) L) (h11 : m.1 17 11 = iI (L.length : Int)) (h21 : ∀ q, q < L.length → m.2 21 q = L.getD q 0) (hnd : L.Nodup) (hl : L.length < 2 ^ k) (hq : L.length < aN σ (A 21)) (hq2 : aN σ (A 21) ≤ 16384) (x : Int64) : ∃ m' : VM, M_Ls_enter (A 17) x (ov 68 A m σ) = some (iI ((if x ∈ L then L.idxOf x else L.length : Nat) : Int), (ov 68 A (m') σ)) ∧ (x ∈ L → m' = sV m 22 (L.idxOf x) (m.1 22 (L.idxOf x) + iI 1)) ∧ (¬ x ∈ L → HT (2 ^ k) (hsC k) (m'.1 25) (L ++ [x]) ∧ m'.1 17 11 = iI ((L.length + 1 : Nat) : Int) ∧ (∀ c, c ≠ 17 → c ≠ 22 → c ≠ 25 → m'.1 c = m.1 c) ∧ (∀ j, j ≠ 11 → m'.1 17 j = m.1 17 j) ∧ (∀ i, m'.1 22 i = if i = L.length then iI 1 else m.1 22 i) ∧ (∀ c, c ≠ 21 → m'.2 c = m.2 c) ∧ ∀ i, m'.2 21 i = if i = L.length then x else m.2 21 i) := by
  have hp : 2 ^ k ≤ 32768 := Nat.le_trans (Nat.pow_le_pow_right (by omega) hk) (by decide)
  obtain ⟨e, he⟩ := HT_find hp (hsC_lt k) hT hl hnd x
  have hnew0 : ¬ x ∈ L → ∀ S' : Nat → Int32, (∀ i, S' i = if i = (hsC k x + e) % 2 ^ k then iI (L.length : Int) else m.1 25 i) → HT (2 ^ k) (hsC k) S' (L ++ [x]) := fun hx S' hS => HT_new hp (hsC_lt k) hT hl he hx hS
  obtain ⟨a1, a2, a3⟩ := he
  have hm : ∀ e', (hsC k x + e') % 2 ^ k < 2 ^ k := fun e' => Nat.mod_lt _ (Nat.pow_pos (by omega))
  have walk : ∀ n i, i + n = e → L_Ls_enter_1 (A 17) x (iI (((hsC k x + i) % 2 ^ k : Nat) : Int)) (iI (i : Int)) (ov 68 A m σ) = L_Ls_enter_1 (A 17) x (iI (((hsC k x + e) % 2 ^ k : Nat) : Int)) (iI (e : Int)) (ov 68 A m σ) := by
    intro n
    induction n with
    | zero => intro i hi; rw [show i = e by omega]
    | succ n ih =>
      intro i hi
      obtain ⟨q, q1, q2, q3⟩ := a2 i (by omega)
      rw [← ih (i + 1) (by omega), en_step H hk h10 (hm i) hn (by omega) (by omega) hq2 q2 (x := x) (by rw [h21 q q1]; exact q3), Nat.mod_add_mod, Nat.add_assoc]
  have start : L_Ls_enter_0 (A 17) x (ov 68 A m σ) = L_Ls_enter_1 (A 17) x (iI (((hsC k x + e) % 2 ^ k : Nat) : Int)) (iI (e : Int)) (ov 68 A m σ) := by
    have hb := hi_bits (x * (-7046029254386353131)) (c := 40) (by omega) (by omega)
    have l40 : (40 : Int32) = iI ((40 : Nat) : Int) := by decide
    have hlt : tn (x * (-7046029254386353131)) / 2 ^ 40 < 2147483648 := Nat.lt_trans hb.2 (by decide)
    rw [← walk e 0 (by omega), E_Ls_enter_0, okO_ov, cK_17 H, gd_true, letT_eq, l40, hb.1, aI_ov H.1 _ _ (by omega), h10, msk_C hlt hk, Nat.add_zero, Nat.mod_eq_of_lt (hsC_lt k x), l_0]
    rfl
  have hj := hm e
  unfold M_Ls_enter
  rw [start]
  generalize (hsC k x + e) % 2 ^ k = j at *
  by_cases hx : x ∈ L
  · have k2 : m.1 25 j = iI (L.idxOf x : Int) := by
      rcases a3 with q | q
      · exact absurd hx q.2
      · exact q.1
    have hi : L.idxOf x < L.length := List.idxOf_lt_length_iff.mpr hx
    have ex : L.getD (L.idxOf x) 0 = x := by
      rw [List.getD_eq_getElem?_getD, List.getElem?_eq_getElem hi]; exact List.getElem_idxOf hi
    refine ⟨_, ?_, fun _ => rfl, fun z => absurd hx z⟩
    rw [if_pos hx, en_old H hk h10 hj hn a1 (by omega) hq2 k2 (by rw [h21 _ hi]; exact ex), mw_ov]
  · have k2 : m.1 25 j = iI (-1) := by
      rcases a3 with q | q
      · exact q.1
      · exact absurd q.2 hx
    have hnew := hnew0 hx
    refine ⟨enM m j L.length x, ?_, fun z => absurd z hx, fun _ => ⟨hnew _ (fun i => ?_), by unfold enM; simp (disch := decide) only [sV_eq, sW_eq, sV_ne, sW_ne, sV_2, sW_1, Nat.reduceEqDiff, ↓reduceIte], fun c h0 h15 h17 => ?_, fun i hi => ?_, fun i => ?_, fun c hc => ?_, fun i => ?_⟩⟩
    · rw [if_neg hx, en_new H hk h10 h11 hj hn a1 hq hq2 k2, mw_ov]
    · unfold enM; rw [sV_ne _ _ _ _ (by decide), sV_ne _ _ _ _ (by decide), sW_1, sV_eq]
    · unfold enM; rw [sV_ne _ _ _ _ h0, sV_ne _ _ _ _ h15, sW_1, sV_ne _ _ _ _ h17]
    · unfold enM; rw [sV_eq, if_neg hi, sV_ne _ _ _ _ (by decide), sW_1, sV_ne _ _ _ _ (by decide)]
    · unfold enM; rw [sV_ne _ _ _ _ (by decide), sV_eq, sW_1, sV_ne _ _ _ _ (by decide)]
    · unfold enM; rw [sV_2, sV_2, sW_ne _ _ _ _ hc, sV_2]
    · unfold enM; rw [sV_2, sV_2, sW_eq, sV_2]
