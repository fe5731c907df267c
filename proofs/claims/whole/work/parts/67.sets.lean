/-! ===== sets without a thing, swung and swapped ===== -/
theorem bt_xor (x y : Int64) (s : Nat) : bt (x ^^^ y) s = (bt x s ^^ bt y s) := by unfold bt; rw [Int64.toBitVec_xor, BitVec.getLsbD_xor]
theorem bt_WO {t s : Nat} (ht : t < 6) (hs : s < 64) : bt (tbWITHOUT t) s = !s.testBit t := by
  have : ∀ t : Fin 6, ∀ s : Fin 64, bt (tbWITHOUT t.val) s.val = !s.val.testBit t.val := by decide +kernel
  exact this ⟨t, ht⟩ ⟨s, hs⟩
theorem or_add {t s : Nat} (ht : t < 6) (hs : s < 64) (h : s.testBit t = false) : 2 ^ t + s = s ||| 2 ^ t ∧ s ||| 2 ^ t < 64 := by
  have : ∀ t : Fin 6, ∀ s : Fin 64, s.val.testBit t.val = false → 2 ^ t.val + s.val = s.val ||| 2 ^ t.val ∧ s.val ||| 2 ^ t.val < 64 := by decide +kernel
  exact this ⟨t, ht⟩ ⟨s, hs⟩ h
theorem pw6 {t : Nat} (ht : t < 6) : 2 ^ t ≤ 32 := by
  have : ∀ t : Fin 6, 2 ^ t.val ≤ 32 := by decide
  exact this ⟨t, ht⟩
def swB (x : Int64) (t s : Nat) : Bool := !s.testBit t && (bt x (s ||| 2 ^ t) && !bt x s)
def swV (x : Int64) (t : Nat) : Int64 := mkB 64 (swB x t)
theorem bt_swV (x : Int64) (t : Nat) {s : Nat} (hs : s < 64) : bt (swV x t) s = swB x t s := by unfold swV; rw [bt_mkB (Nat.le_refl _), decide_eq_true hs]; rfl
theorem shl1N {t : Nat} (ht : t < 31) : (iI 1 : Int32) <<< (iI (t : Int) &&& iI 31) = iI ((2 ^ t : Nat) : Int) := iI_shl1 ht
theorem q_St_swung (x : Int64) {t : Nat} (ht : t < 6) (σ : AM) : M_St_swung x (iI (t : Int)) σ = some (swV x t, σ) := by
  have hp := pw6 ht
  have e : (((x.toUInt64 >>> ((iI ((2 ^ t : Nat) : Int)).toInt64.toUInt64 &&& Int64.toUInt64 63)).toInt64) &&& (x ^^^ ((-1) : Int64))) &&& (tbWITHOUT t) = swV x t := by
    apply bt_ext
    intro s hs
    rw [bt_and, bt_and, bt_ushr x (s := 2 ^ t) (by omega), bt_not x hs, bt_WO ht hs, bt_swV x t hs]
    unfold swB
    cases h : s.testBit t
    · rw [(or_add ht hs h).1]; cases bt x (s ||| 2 ^ t) <;> cases bt x s <;> rfl
    · simp
  unfold M_St_swung
  rw [E_St_swung_0]
  simp (disch := omega) only [l_0, l_1, l_6, l_31, iI_lt, gd_in, shl1N, iI_cl, Int.toNat_natCast]
  rw [if_neg (by omega), if_pos (by omega), e]
  exact mw_of (Nat.le_refl _) (Nat.le_refl _)
def mtr (x : Int64) (t : Nat) : Bool := anyN 64 (swB x t)
theorem swV_0 (x : Int64) (t : Nat) : swV x t = 0 ↔ mtr x t = false := by
  rw [bt_z]
  constructor
  · intro h
    cases q : mtr x t
    · rfl
    · obtain ⟨s, hs, hq⟩ := anyN_iff.mp q
      rw [← bt_swV x t hs, h s hs] at hq; cases hq
  · intro h s hs
    rw [bt_swV x t hs]
    cases q : swB x t s
    · rfl
    · have : mtr x t = true := anyN_iff.mpr ⟨s, hs, q⟩
      rw [h] at this; cases this
def swp (s a b : Nat) : Nat := s + 2 ^ b - 2 ^ a
def alB (x : Int64) (a b : Nat) : Bool := allN 64 (fun s => !(s.testBit a && !s.testBit b) || (bt x s == bt x (swp s a b)))
theorem swp_ok {s a b : Nat} (hs : s < 64) (ha : a < 6) (hb : b < 6) (h1 : s.testBit a = true) (h2 : s.testBit b = false) : swp s a b < 64 ∧ (swp s a b).testBit b = true ∧ (swp s a b).testBit a = false ∧ swp (swp s a b) b a = s ∧ swp s a b = ((s &&& (63 - 2 ^ a)) ||| 2 ^ b) := by
  have : ∀ a : Fin 6, ∀ b : Fin 6, ∀ s : Fin 64, s.val.testBit a.val = true → s.val.testBit b.val = false → swp s.val a.val b.val < 64 ∧ (swp s.val a.val b.val).testBit b.val = true ∧ (swp s.val a.val b.val).testBit a.val = false ∧ swp (swp s.val a.val b.val) b.val a.val = s.val ∧ swp s.val a.val b.val = ((s.val &&& (63 - 2 ^ a.val)) ||| 2 ^ b.val) := by decide +kernel
  exact this ⟨a, ha⟩ ⟨b, hb⟩ ⟨s, hs⟩ h1 h2
theorem swp_hi {s a b T : Nat} (hs : s < 64) (hT : T ≤ 6) (ha : a < T) (hb : b < T) (h1 : s.testBit a = true) (h2 : s.testBit b = false) (h : 2 ^ T ≤ s) : 2 ^ T ≤ swp s a b := by
  have : ∀ T : Fin 7, ∀ a : Fin 6, ∀ b : Fin 6, ∀ s : Fin 64, (a.val < T.val ∧ b.val < T.val ∧ s.val.testBit a.val = true ∧ s.val.testBit b.val = false ∧ 2 ^ T.val ≤ s.val) → 2 ^ T.val ≤ swp s.val a.val b.val := by decide +kernel
  exact this ⟨T, by omega⟩ ⟨a, by omega⟩ ⟨b, by omega⟩ ⟨s, hs⟩ ⟨ha, hb, h1, h2, h⟩
theorem alB_iff {x : Int64} {a b : Nat} : alB x a b = true ↔ ∀ s, s < 64 → s.testBit a = true → s.testBit b = false → bt x s = bt x (swp s a b) := by
  unfold alB
  rw [allN_iff]
  constructor
  · intro h s hs h1 h2
    have := h s hs
    rw [h1, h2] at this
    simpa using this
  · intro h s hs
    cases h1 : s.testBit a
    · rfl
    · cases h2 : s.testBit b
      · have := h s hs h1 h2
        simp [this]
      · rfl
theorem alB_sym {a b : Nat} (ha : a < 6) (hb : b < 6) (x : Int64) : alB x a b = alB x b a := by
  have one : ∀ a b, a < 6 → b < 6 → alB x a b = true → alB x b a = true := by
    intro a b ha hb h
    rw [alB_iff] at h ⊢
    intro s hs h1 h2
    obtain ⟨p1, p2, p3, p4, _⟩ := swp_ok hs hb ha h1 h2
    have := h (swp s b a) p1 p2 p3
    rw [p4] at this
    exact this.symm
  rw [Bool.eq_iff_iff]
  exact ⟨one a b ha hb, one b a hb ha⟩
theorem swappable_lt {lo hi : Nat} (hh : hi < 6) (hl : lo < hi) (x : Int64) : ((x ^^^ ((x.toUInt64 >>> ((iI ((2 ^ hi - 2 ^ lo : Nat) : Int)).toInt64.toUInt64 &&& Int64.toUInt64 63)).toInt64)) &&& (((tbWITHOUT lo) ^^^ ((-1) : Int64)) &&& (tbWITHOUT hi)) = 0) ↔ alB x lo hi = true := by
  have hp := pw6 hh
  have hp2 : 2 ^ lo < 2 ^ hi := Nat.pow_lt_pow_right (by omega) hl
  have hwd : ∀ s, s < 64 → s.testBit lo = true → s.testBit hi = false → 2 ^ hi - 2 ^ lo + s = swp s lo hi := by
    intro s hs h1 _
    have : 2 ^ lo ≤ s := Nat.ge_two_pow_of_testBit h1
    unfold swp
    omega
  rw [bt_z, alB_iff]
  have hb : ∀ s, s < 64 → bt ((x ^^^ ((x.toUInt64 >>> ((iI ((2 ^ hi - 2 ^ lo : Nat) : Int)).toInt64.toUInt64 &&& Int64.toUInt64 63)).toInt64)) &&& (((tbWITHOUT lo) ^^^ ((-1) : Int64)) &&& (tbWITHOUT hi))) s = ((bt x s ^^ bt x (2 ^ hi - 2 ^ lo + s)) && (s.testBit lo && !s.testBit hi)) := by
    intro s hs
    rw [bt_and, bt_xor, bt_ushr x (s := 2 ^ hi - 2 ^ lo) (Nat.lt_of_le_of_lt (Nat.sub_le _ _) (Nat.lt_of_le_of_lt hp (by decide))), bt_and, bt_not _ hs, bt_WO (by omega) hs, bt_WO hh hs, Bool.not_not]
  constructor
  · intro h s hs h1 h2
    have := h s hs
    rw [hb s hs, h1, h2, hwd s hs h1 h2] at this
    cases q : bt x s <;> cases r : bt x (swp s lo hi) <;> simp_all
  · intro h s hs
    rw [hb s hs]
    cases h1 : s.testBit lo
    · simp
    · cases h2 : s.testBit hi
      · rw [hwd s hs h1 h2, h s hs h1 h2]; simp
      · simp
theorem q_St_swappable (x : Int64) {a b : Nat} (ha : a < 6) (hb : b < 6) (hab : a ≠ b) (σ : AM) : M_St_swappable x (iI (a : Int)) (iI (b : Int)) σ = some (bZ (alB x a b), σ) := by
  have key : ∀ lo hi : Nat, lo < hi → hi < 6 → (if (iI (lo : Int)) < 0 then (L_St_swappable_1 σ) else (if (iI (hi : Int)) < (6 : Int32) then (gd (inB (iI (lo : Int)) 6) <| gd (inB (iI (hi : Int)) 6) <| letT (((tbWITHOUT (iI (lo : Int)).toNatClampNeg) ^^^ ((-1) : Int64)) &&& (tbWITHOUT (iI (hi : Int)).toNatClampNeg)) fun x5 => letT (((1 : Int32) <<< ((iI (hi : Int)) &&& 31)) - ((1 : Int32) <<< ((iI (lo : Int)) &&& 31))) fun x6 => if (lg_cmp ((x ^^^ ((x.toUInt64 >>> (x6.toInt64.toUInt64 &&& Int64.toUInt64 63)).toInt64)) &&& x5) (0 : Int64)) = 0 then (L_St_swappable_2 ((1 : Int32)) σ) else (L_St_swappable_2 ((0 : Int32)) σ)) else (L_St_swappable_1 σ))) = some (bZ (alB x lo hi), σ) := by
    intro lo hi h1 h2
    have hp2 : 2 ^ lo < 2 ^ hi := Nat.pow_lt_pow_right (by omega) h1
    have e : ((2 ^ hi : Nat) : Int) - ((2 ^ lo : Nat) : Int) = ((2 ^ hi - 2 ^ lo : Nat) : Int) := by omega
    simp (disch := omega) only [E_St_swappable_2, l_0, l_1, l_6, l_31, iI_lt, gd_in, shl1N, iI_cl, Int.toNat_natCast, letT_eq, iI_sub, e, lgc0, isB_0, isB_1, gd_true]
    rw [if_neg (by omega), if_pos (by omega)]
    by_cases q : alB x lo hi = true
    · rw [if_pos ((swappable_lt h2 h1 x).mpr q), q]; rfl
    · rw [if_neg (fun z => q ((swappable_lt h2 h1 x).mp z))]
      rw [Bool.not_eq_true] at q
      rw [q]; rfl
  unfold M_St_swappable
  rw [E_St_swappable_0]
  by_cases q : a < b
  · have e1 : mnI (iI (a : Int)) (iI (b : Int)) = iI (a : Int) := by rw [mnI_iI (by omega) (by omega) (by omega) (by omega), if_neg (by omega)]
    have e2 : mxI (iI (a : Int)) (iI (b : Int)) = iI (b : Int) := by rw [mxI_iI (by omega) (by omega) (by omega) (by omega), if_pos (by omega)]
    rw [e1, e2, letT_eq, letT_eq, key a b q hb]
    exact mw_of (Nat.le_refl _) (Nat.le_refl _)
  · have e1 : mnI (iI (a : Int)) (iI (b : Int)) = iI (b : Int) := by rw [mnI_iI (by omega) (by omega) (by omega) (by omega), if_pos (by omega)]
    have e2 : mxI (iI (a : Int)) (iI (b : Int)) = iI (a : Int) := by rw [mxI_iI (by omega) (by omega) (by omega) (by omega), if_neg (by omega)]
    rw [e1, e2, letT_eq, letT_eq, key b a (by omega) ha, alB_sym ha hb]
    exact mw_of (Nat.le_refl _) (Nat.le_refl _)
theorem bZ_add (n : Int) (p : Bool) : iI n + bZ p = iI (n + ((if p = true then 1 else 0 : Nat) : Int)) := by cases p <;> exact iI_add _ _
theorem bZ_if (p : Bool) (n : Nat) : iI (n : Int) + bZ p = iI ((n + if p = true then 1 else 0 : Nat) : Int) := by cases p <;> exact iI_add _ _
/-! a list's answers -/
theorem q_ans1 (x : Int64) {t : Nat} (ht : t < 6) (k : Int32) (σ : AM) : M_Pl_answer (iI 1) (iI (t : Int)) x k σ = some (bZ (mtr x t), σ) := by
  unfold M_Pl_answer
  rw [E_Pl_answer_0]
  simp (disch := omega) only [E_Pl_answer_1, l_0, l_1, l_2, l_3, iI_eq, q_St_swung x ht, bnd_some, lgc0, swV_0, Int.reduceEq, ↓reduceIte]
  cases mtr x t <;> exact mw_of (Nat.le_refl _) (Nat.le_refl _)
theorem q_ans2 (x : Int64) {a b : Nat} (ha : a < 6) (hb : b < 6) (hab : a ≠ b) (k : Int32) (σ : AM) : M_Pl_answer (iI 2) (iI ((6 * a + b : Nat) : Int)) x k σ = some (bZ (alB x a b), σ) := by
  have e1 : (6 * a + b) / 6 = a := by omega
  have e2 : (6 * a + b) % 6 = b := by omega
  have e3 : iI ((6 * a + b : Nat) : Int) / iI 6 = iI (a : Int) := (iI_div (a := 6 * a + b) (b := 6) (by omega) (by omega)).trans (by rw [e1])
  have e4 : iI ((6 * a + b : Nat) : Int) - iI (a : Int) * iI 6 = iI (b : Int) := by
    have := iI_mod (a := 6 * a + b) (b := 6) (by omega) (by omega)
    rw [e1, e2] at this
    exact this
  unfold M_Pl_answer
  rw [E_Pl_answer_0]
  simp (disch := omega) only [E_Pl_answer_2, l_0, l_1, l_2, l_3, l_6, iI_eq, e3, e4, q_St_swappable x ha hb hab, bnd_some, bZ_0, Int.reduceEq, ↓reduceIte]
  cases alB x a b <;> exact mw_of (Nat.le_refl _) (Nat.le_refl _)
theorem q_ans3 (x : Int64) {s : Nat} (hs : s < 64) (k : Int32) (σ : AM) : M_Pl_answer (iI 3) (iI (s : Int)) x k σ = some (bZ (bt x s), σ) := by
  unfold M_Pl_answer
  rw [E_Pl_answer_0]
  simp (disch := omega) only [E_Pl_answer_3, l_0, l_1, l_2, l_3, iI_eq, q_St_has x hs, bnd_some, bZ_0, Int.reduceEq, ↓reduceIte]
  cases bt x s <;> exact mw_of (Nat.le_refl _) (Nat.le_refl _)
theorem q_ans0 (x : Int64) (w k : Int32) (σ : AM) : M_Pl_answer (iI 0) w x k σ = some (k, σ) := by
  unfold M_Pl_answer
  rw [E_Pl_answer_0]
  simp only [l_0, ↓reduceIte]
  exact mw_of (Nat.le_refl _) (Nat.le_refl _)
theorem q_ans4 (x : Int64) (w k : Int32) (σ : AM) : M_Pl_answer (iI 4) w x k σ = some (iI (pcl x : Int), σ) := by
  unfold M_Pl_answer
  rw [E_Pl_answer_0]
  simp (disch := omega) only [l_0, l_1, l_2, l_3, iI_eq, q_JLong_bitCount, bnd_some, Int.reduceEq, ↓reduceIte]
  exact mw_of (Nat.le_refl _) (Nat.le_refl _)
theorem q_Pl_allOrNone {d : TD} {b : BD} {A : Nat → Nat} {σ : AM} {m : VM} (R : RQ d b A σ m) {q w : Int32} {f : Nat → Bool} (hf : ∀ i, i < nLf d b → M_Pl_answer q w (xL d b i) (iI (i : Int)) (ov 68 A m σ) = some (bZ (f i), (ov 68 A m σ))) (h0 : nLf d b ≠ 0) : M_Pl_allOrNone (A 48) q w (ov 68 A m σ) = some (iI (sur (cntN (nLf d b) f) (nLf d b)), (ov 68 A m σ)) := by
  have h5 := RQ_5 R
  have H := R.1
  have hc := cntN_le (nLf d b) f
  have h := up_loop (fun k => L_Pl_allOrNone_1 (A 48) q w (iI (cntN k f : Int)) (iI (k : Int)) (ov 68 A m σ)) (nLf d b) (some (iI (sur (cntN (nLf d b) f) (nLf d b)), (ov 68 A m σ))) (fun k hk ih => by
    show L_Pl_allOrNone_1 _ _ _ _ _ _ = _
    replace ih : L_Pl_allOrNone_1 _ _ _ _ _ _ = _ := ih
    rw [cntN_s] at ih
    rw [E_Pl_allOrNone_1]; simp (disch := omega) only [E_Pl_allOrNone_2, l_0, l_1, l_2, cK_48 H, cR_48_1 H, cK_35 H, q_Rs_size H, letT_eq, gd_true, bnd_some, aR_ov, aK_ov, aN_ov, okO_ov, aI_ov H.1, aL_ov H.1, sI_ov H.1, sL_ov H.1, sV_eq, sV_ne, sV_2, sW_eq, sW_ne, sW_1, iI_add, iI_sub, iI_mul, iI_neg, iI_lt, iI_eq, iI_cl, nI_iI, gd_in, bZ_0, bZ_1, bZ_eq, isB_bZ, isB_0, isB_1, nar_bZ, nar_0, nar_1, mw_ov, iI_s, iI_na, iI_nm, Int.toNat_natCast, Int.add_zero, Int.zero_add, Nat.reduceEqDiff, Nat.reduceAdd, Int.reduceAdd, Int.reduceNeg, Int.reduceSub, Int.reduceMul, Int.reduceLT, Int.reduceEq, Int.reduceToNat, reduceCtorEq, ↓reduceIte, h5.1, q_Rs_listAt R hk, hf k hk, bZ_if]
    rw [if_pos (by omega)]
    exact ih) (by
    show L_Pl_allOrNone_1 _ _ _ _ _ _ = _
    rw [E_Pl_allOrNone_1]; simp (disch := omega) only [E_Pl_allOrNone_2, l_0, l_1, l_2, cK_48 H, cR_48_1 H, cK_35 H, q_Rs_size H, letT_eq, gd_true, bnd_some, aR_ov, aK_ov, aN_ov, okO_ov, aI_ov H.1, aL_ov H.1, sI_ov H.1, sL_ov H.1, sV_eq, sV_ne, sV_2, sW_eq, sW_ne, sW_1, iI_add, iI_sub, iI_mul, iI_neg, iI_lt, iI_eq, iI_cl, nI_iI, gd_in, bZ_0, bZ_1, bZ_eq, isB_bZ, isB_0, isB_1, nar_bZ, nar_0, nar_1, mw_ov, iI_s, iI_na, iI_nm, Int.toNat_natCast, Int.add_zero, Int.zero_add, Nat.reduceEqDiff, Nat.reduceAdd, Int.reduceAdd, Int.reduceNeg, Int.reduceSub, Int.reduceMul, Int.reduceLT, Int.reduceEq, Int.reduceToNat, reduceCtorEq, ↓reduceIte, h5.1]
    rw [if_neg (by omega)]
    unfold sur
    rw [if_neg h0]
    by_cases e1 : cntN (nLf d b) f = nLf d b
    · rw [if_pos (by omega), if_pos e1]
    · rw [if_neg (by omega), if_neg e1]
      by_cases e2 : cntN (nLf d b) f = 0
      · rw [if_pos (by omega), if_pos e2]
      · rw [if_neg (by omega), if_neg e2]) 0 (Nat.zero_le _)
  unfold M_Pl_allOrNone
  rw [E_Pl_allOrNone_0]
  simp only [l_0]
  exact (congrArg (mw _) h).trans (mw_ov _ _ _ _ _ _)
