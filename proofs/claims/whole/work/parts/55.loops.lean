/-! ===== loops, and the reference's small helpers ===== -/
theorem iI_na (a b : Nat) : iI ((a : Int) + (b : Int)) = iI ((a + b : Nat) : Int) := rfl
theorem iI_nm (a b : Nat) : iI ((a : Int) * (b : Int)) = iI ((a * b : Nat) : Int) := rfl
theorem up_loopI {α β : Type} (L : Nat → β → α) (I : Nat → β → Prop) (P : α → Prop) (N : Nat) (step : ∀ k m, k < N → I k m → (∀ m', I (k + 1) m' → P (L (k + 1) m')) → P (L k m)) (fin : ∀ m, I N m → P (L N m)) : ∀ k m, k ≤ N → I k m → P (L k m) := by
  have key : ∀ n k m, k + n = N → I k m → P (L k m) := by
    intro n
    induction n with
    | zero => intro k m hk hI; obtain rfl : k = N := hk; exact fin m hI
    | succ n ih => intro k m hk hI; exact step k m (by omega) hI fun m' h' => ih (k + 1) m' (by omega) h'
  exact fun k m hk hI => key (N - k) k m (by omega) hI
theorem up_loop {α : Type} (L : Nat → α) (N : Nat) (r : α) (step : ∀ k, k < N → L (k + 1) = r → L k = r) (fin : L N = r) : ∀ k, k ≤ N → L k = r := by
  intro k hk
  exact up_loopI (β := Unit) (fun k _ => L k) (fun _ _ => True) (fun x => x = r) N (fun k m hk _ h => step k hk (h () trivial)) (fun _ _ => fin) k () hk trivial
theorem bitI {s k : Nat} (hs : s < 64) (hk : k < 6) : (iI (s : Int) >>> (iI (k : Int) &&& iI 31)) &&& iI 1 = iI ((if s.testBit k = true then 1 else 0 : Nat) : Int) := by
  have : ∀ s : Fin 64, ∀ k : Fin 6, (iI (s.val : Int) >>> (iI (k.val : Int) &&& iI 31)) &&& iI 1 = iI ((if s.val.testBit k.val = true then 1 else 0 : Nat) : Int) := by decide +kernel
  exact this ⟨s, hs⟩ ⟨k, hk⟩
def pc6 (s : Nat) : Nat := cntN 6 (fun k => s.testBit k)
theorem pc6_le (s : Nat) : pc6 s ≤ 6 := cntN_le 6 _
theorem q_Md_bits {s : Nat} (hs : s < 64) (σ : AM) : M_Md_bits (iI (s : Int)) σ = some (iI (pc6 s : Int), σ) := by
  have h := up_loop (fun k => L_Md_bits_1 (iI (s : Int)) (iI (cntN k (fun k => s.testBit k) : Int)) (iI (k : Int)) σ) 6 (some (iI (pc6 s : Int), σ)) (fun k hk ih => by
    show L_Md_bits_1 _ _ _ _ = _
    rw [E_Md_bits_1]; simp (disch := omega) only [l_1, l_6, l_31, letT_eq, gd_true, bnd_some, iI_add, iI_sub, iI_mul, iI_neg, iI_lt, iI_eq, iI_cl, nI_iI, gd_in, bZ_0, bZ_1, bZ_eq, isB_bZ, isB_0, isB_1, nar_bZ, nar_0, nar_1, iI_s, iI_na, Int.toNat_natCast, Int.add_zero, Int.zero_add, Nat.reduceEqDiff, Nat.reduceAdd, Int.reduceAdd, Int.reduceNeg, Int.reduceSub, Int.reduceMul, Int.reduceLT, Int.reduceEq, Int.reduceToNat, reduceCtorEq, ↓reduceIte, bitI hs hk]
    rw [if_pos (by omega)]
    exact ih) (by
    show L_Md_bits_1 _ _ _ _ = _
    rw [E_Md_bits_1]; simp (disch := omega) only [l_1, l_6, l_31, letT_eq, gd_true, bnd_some, iI_add, iI_sub, iI_mul, iI_neg, iI_lt, iI_eq, iI_cl, nI_iI, gd_in, bZ_0, bZ_1, bZ_eq, isB_bZ, isB_0, isB_1, nar_bZ, nar_0, nar_1, iI_s, iI_na, Int.toNat_natCast, Int.add_zero, Int.zero_add, Nat.reduceEqDiff, Nat.reduceAdd, Int.reduceAdd, Int.reduceNeg, Int.reduceSub, Int.reduceMul, Int.reduceLT, Int.reduceEq, Int.reduceToNat, reduceCtorEq, ↓reduceIte]
    rfl) 0 (by omega)
  unfold M_Md_bits
  rw [E_Md_bits_0]
  exact (congrArg (mw σ) h).trans (mw_of (Nat.le_refl _) (Nat.le_refl _))
theorem q_Md_sets {A : Nat → Nat} {σ : AM} (H : LM A σ) {m : VM} {d : TD} (hd : wfD d) (hm : MT d m) : M_Md_sets (A 0) (ov 40 A m σ) = some (iI ((sN d : Nat) : Int), (ov 40 A m σ)) := by
  unfold M_Md_sets
  have := hd.1
  rw [E_Md_sets_0]; simp (disch := omega) only [l_1, l_31, mK_0 H, letT_eq, gd_true, bnd_some, aR_ov, aK_ov, aN_ov, okO_ov, aI_ov H.1, aL_ov H.1, sI_ov H.1, sL_ov H.1, sV_eq, sV_ne, sV_2, sW_eq, sW_ne, sW_1, iI_add, iI_sub, iI_mul, iI_neg, iI_lt, iI_eq, iI_cl, nI_iI, gd_in, bZ_0, bZ_1, bZ_eq, isB_bZ, isB_0, isB_1, nar_bZ, nar_0, nar_1, mw_ov, iI_s, iI_na, Int.toNat_natCast, Int.add_zero, Int.zero_add, Nat.reduceEqDiff, Nat.reduceAdd, Int.reduceAdd, Int.reduceNeg, Int.reduceSub, Int.reduceMul, Int.reduceLT, Int.reduceEq, Int.reduceToNat, reduceCtorEq, ↓reduceIte, hm.1.1]
  rw [iI_shl1 (by omega)]; rfl
theorem q_Md_isThing {A : Nat → Nat} {σ : AM} (H : LM A σ) {m : VM} {d : TD} (hd : wfD d) (hm : MT d m) {a : Int} (h1 : -2147483648 ≤ a) (h2 : a < 2147483648) : M_Md_isThing (A 0) (iI a) (ov 40 A m σ) = some (bZ (decide (0 ≤ a ∧ a < dT d)), (ov 40 A m σ)) := by
  unfold M_Md_isThing
  have := hd.1
  rw [E_Md_isThing_0]; simp (disch := omega) only [E_Md_isThing_1, E_Md_isThing_2, l_0, l_1, mK_0 H, letT_eq, gd_true, bnd_some, aR_ov, aK_ov, aN_ov, okO_ov, aI_ov H.1, aL_ov H.1, sI_ov H.1, sL_ov H.1, sV_eq, sV_ne, sV_2, sW_eq, sW_ne, sW_1, iI_add, iI_sub, iI_mul, iI_neg, iI_lt, iI_eq, iI_cl, nI_iI, gd_in, bZ_0, bZ_1, bZ_eq, isB_bZ, isB_0, isB_1, nar_bZ, nar_0, nar_1, mw_ov, iI_s, iI_na, Int.toNat_natCast, Int.add_zero, Int.zero_add, Nat.reduceEqDiff, Nat.reduceAdd, Int.reduceAdd, Int.reduceNeg, Int.reduceSub, Int.reduceMul, Int.reduceLT, Int.reduceEq, Int.reduceToNat, reduceCtorEq, ↓reduceIte, hm.1.1]
  by_cases q : a < 0
  · rw [if_pos q, mw_ov, decide_eq_false (by omega)]; rfl
  · rw [if_neg q]
    by_cases q2 : a < dT d
    · rw [if_pos q2, mw_ov, decide_eq_true (by omega)]; rfl
    · rw [if_neg q2, mw_ov, decide_eq_false (by omega)]; rfl
