/-! ===== the tape ===== -/
def byt (v : Int64) (s : Nat) : Nat := tn v / 2 ^ s % 256
theorem byt_lt (v : Int64) (s : Nat) : byt v s < 256 := Nat.mod_lt _ (by decide)
theorem bt_tn (x : Int64) (j : Nat) : (tn x).testBit j = bt x j := rfl
theorem bt_sshr (x : Int64) {s : Nat} (h : s < 64) {j : Nat} (hj : s + j < 64) : bt (x >>> ((iI (s : Int)).toInt64 &&& 63)) j = bt x (s + j) := by
  unfold bt
  rw [Int64.toBitVec_shiftRight, BitVec.sshiftRight_eq', sh_amt h, BitVec.getLsbD_sshiftRight]
  simp [hj, show j < 64 by omega]
theorem mod_bits {a b : Nat} (h : ∀ j, j < 8 → a.testBit j = b.testBit j) : a % 256 = b % 256 := by
  apply Nat.eq_of_testBit_eq
  intro j
  rw [show (256 : Nat) = 2 ^ 8 by decide, Nat.testBit_mod_two_pow, Nat.testBit_mod_two_pow]
  by_cases c : j < 8
  · rw [h j c]
  · simp [c]
theorem md_byte (v : Int64) {s : Nat} (h : s ≤ 56) : (v >>> ((iI (s : Int)).toInt64 &&& 63)).toInt32 &&& iI 255 = iI (byt v s : Int) := by
  have e1 : ∀ x : Int64, x.toInt32 &&& 255 = iI ((tn x % 256 : Nat) : Int) := by
    intro x
    rw [pk_and _ 8 (by decide), nI_iI]
    have : x.toInt32.toBitVec.toNat % 2 ^ 8 = tn x % 256 := by
      rw [Int64.toBitVec_toInt32, BitVec.signExtend_eq_setWidth_of_le _ (by omega), BitVec.toNat_setWidth]
      unfold tn; omega
    rw [this]
  have e2 := e1 (v >>> ((iI (s : Int)).toInt64 &&& 63))
  refine e2.trans ?_
  unfold byt
  congr 2
  apply mod_bits
  intro j hj
  rw [bt_tn, bt_sshr v (by omega) (by omega), Nat.testBit_div_two_pow, ← bt_tn]
  rw [Nat.add_comm]
theorem tn_jI {n : Nat} (h : n < 9223372036854775808) : tn (jI (n : Int)) = n := by
  unfold tn jI
  rw [Int64.ofInt_eq_ofNat, Int64.toBitVec_ofNat', BitVec.toNat_ofNat]
  exact Nat.mod_eq_of_lt (by omega)
theorem tn_inj {x y : Int64} (h : tn x = tn y) : x = y := Int64.toBitVec_inj.mp (BitVec.eq_of_toNat_eq h)
theorem cl_byte (v : Int64) {s : Nat} (h : s ≤ 56) : (((((v.toUInt64 >>> ((iI (s : Int)).toInt64.toUInt64 &&& Int64.toUInt64 63)).toInt64) &&& (255 : Int64)).toInt32).toUInt32 % 65536).toInt32 = iI (byt v s : Int) := by
  have e1 : ((v.toUInt64 >>> ((iI (s : Int)).toInt64.toUInt64 &&& Int64.toUInt64 63)).toInt64) &&& (255 : Int64) = jI (byt v s : Int) := by
    apply tn_inj
    rw [tn_and, tn_shr v (by omega), tn_jI (by have := byt_lt v s; omega)]
    show tn v / 2 ^ s &&& 255 = _
    rw [show (255 : Nat) = 2 ^ 8 - 1 by decide, Nat.and_two_pow_sub_one_eq_mod]
    rfl
  rw [e1, jI_i]
  have : ∀ n : Fin 256, ((iI (n.val : Int)).toUInt32 % 65536).toInt32 = iI (n.val : Int) := by decide +kernel
  exact this ⟨byt v s, byt_lt v s⟩
theorem nar_ch {n : Nat} (h : n < 256) : vp_nar .char (iI (n : Int)) = iI (n : Int) := by
  have : ∀ n : Fin 256, vp_nar .char (iI (n.val : Int)) = iI (n.val : Int) := by decide +kernel
  exact this ⟨n, h⟩
def putB (t : PD) (c : Nat) : PD := if (c = 10 ∨ 32 ≤ c ∧ c ≤ 126) ∧ t.1 < 1000 then (t.1 + 1, up1 t.2 t.1 c) else t
def putK (t : PD) (v : Int64) : Nat → PD
  | 0 => t
  | k + 1 => putB (putK t v k) (byt v (56 - 8 * k))
def wfT (t : PD) : Prop := t.1 ≤ 1000 ∧ ∀ j, j < t.1 → t.2 j = 10 ∨ 32 ≤ t.2 j ∧ t.2 j ≤ 126
theorem putB_wf {t : PD} (h : wfT t) (c : Nat) : wfT (putB t c) := by
  unfold putB
  by_cases q : (c = 10 ∨ 32 ≤ c ∧ c ≤ 126) ∧ t.1 < 1000
  · rw [if_pos q]
    refine ⟨by show t.1 + 1 ≤ 1000; omega, fun j hj => ?_⟩
    show up1 t.2 t.1 c j = 10 ∨ 32 ≤ up1 t.2 t.1 c j ∧ up1 t.2 t.1 c j ≤ 126
    replace hj : j < t.1 + 1 := hj
    by_cases e : j = t.1
    · rw [e, up1_eq]; exact q.1
    · rw [up1_ne _ _ e]; exact h.2 j (by omega)
  · rw [if_neg q]; exact h
theorem putK_wf {t : PD} (h : wfT t) (v : Int64) (k : Nat) : wfT (putK t v k) := by
  induction k with
  | zero => exact h
  | succ k ih => exact putB_wf ih _
theorem Rd_put1 {A : Nat → Nat} {σ : AM} (H : LC A σ) {t : PD} (ht : wfT t) (v : Int64) {m : VM} (hT : CTp t m) (k : Nat) (hk : k < 8) : ∃ m' : VM, L_Rd_put_1 (A 1) v (iI (56 - 8 * (k : Int))) (ov 68 A m σ) = L_Rd_put_1 (A 1) v (iI (56 - 8 * ((k + 1 : Nat) : Int))) (ov 68 A (m') σ) ∧ CTp (putB t (byt v (56 - 8 * k))) m' ∧ Ks [1, 2, 3, 4, 5, 10, 11, 12, 14, 15] m m' := by
  have hb := cl_byte v (s := 56 - 8 * k) (by omega)
  have hl := byt_lt v (56 - 8 * k)
  have es : (56 - 8 * (k : Int)) = ((56 - 8 * k : Nat) : Int) := by omega
  have es2 : ((56 - 8 * k : Nat) : Int) + -8 = 56 - 8 * ((k + 1 : Nat) : Int) := by omega
  have hw := ht.1
  obtain ⟨t1, t2⟩ := hT
  rw [es]
  generalize byt v (56 - 8 * k) = c at *
  generalize 56 - 8 * k = s at *
  have hnar := nar_ch hl
  by_cases q : (c = 10 ∨ 32 ≤ c ∧ c ≤ 126) ∧ t.1 < 1000
  · have eP : putB t c = (t.1 + 1, up1 t.2 t.1 c) := if_pos q
    rw [eP]
    refine ⟨sV (sV m 2 t.1 (iI (c : Int))) 1 2 (iI ((t.1 + 1 : Nat) : Int)), ?_, ⟨?_, fun j hj => ?_⟩, Ks_V (Ks_A (Ks_r _ _) _ _ (by decide)) _ (by decide)⟩
    · obtain ⟨q1, q2⟩ := q
      rw [E_Rd_put_1]; simp (disch := omega) only [E_Rd_put_2, E_Rd_put_3, E_Rd_put_4, E_Rd_put_5, l_0, l_1, l_8, l_10, l_32, l_126, l_1000, cK_1 H, cR_1_0 H, cK_2 H, cN_2 H, letT_eq, gd_true, bnd_some, aR_ov, aK_ov, aN_ov, okO_ov, aI_ov H.1, aL_ov H.1, sI_ov H.1, sL_ov H.1, sV_eq, sV_ne, sV_2, sW_eq, sW_ne, sW_1, iI_add, iI_sub, iI_mul, iI_neg, iI_lt, iI_eq, iI_cl, nI_iI, gd_in, bZ_0, bZ_1, bZ_eq, isB_bZ, isB_0, isB_1, nar_bZ, nar_0, nar_1, mw_ov, iI_s, iI_na, iI_nm, Int.toNat_natCast, Int.add_zero, Int.zero_add, Nat.reduceEqDiff, Nat.reduceAdd, Int.reduceAdd, Int.reduceNeg, Int.reduceSub, Int.reduceMul, Int.reduceLT, Int.reduceEq, Int.reduceToNat, reduceCtorEq, ↓reduceIte, hb, t1, hnar, es2]
      rw [if_neg (show ¬ (s : Int) < 0 by omega)]
      by_cases z1 : c = 10
      · rw [if_pos (show (c : Int) = 10 by omega), if_pos (show (t.1 : Int) < 1000 by omega)]
      · rw [if_neg (show ¬ (c : Int) = 10 by omega), if_neg (show ¬ (c : Int) < 32 by omega), if_neg (show ¬ 126 < (c : Int) by omega), if_pos (show (t.1 : Int) < 1000 by omega)]
    · simp (disch := decide) only [sV_eq, sW_eq, sV_ne, sW_ne, sV_2, sW_1, Nat.reduceEqDiff, ↓reduceIte]
    · simp (disch := decide) only [sV_eq, sW_eq, sV_ne, sW_ne, sV_2, sW_1, Nat.reduceEqDiff, ↓reduceIte]
      show _ = iI ((up1 t.2 t.1 c j : Nat) : Int)
      replace hj : j < t.1 + 1 := hj
      by_cases e : j = t.1
      · rw [if_pos e, e, up1_eq]
      · rw [if_neg e, up1_ne _ _ e]; exact t2 j (by omega)
  · have eP : putB t c = t := if_neg q
    rw [eP]
    refine ⟨m, ?_, ⟨t1, t2⟩, Ks_r _ _⟩
    by_cases z0 : t.1 < 1000
    · have q1 : ¬ (c = 10 ∨ 32 ≤ c ∧ c ≤ 126) := fun z => q ⟨z, z0⟩
      rw [E_Rd_put_1]; simp (disch := omega) only [E_Rd_put_2, E_Rd_put_3, E_Rd_put_4, E_Rd_put_5, l_0, l_1, l_8, l_10, l_32, l_126, l_1000, cK_1 H, cR_1_0 H, cK_2 H, cN_2 H, letT_eq, gd_true, bnd_some, aR_ov, aK_ov, aN_ov, okO_ov, aI_ov H.1, aL_ov H.1, sI_ov H.1, sL_ov H.1, sV_eq, sV_ne, sV_2, sW_eq, sW_ne, sW_1, iI_add, iI_sub, iI_mul, iI_neg, iI_lt, iI_eq, iI_cl, nI_iI, gd_in, bZ_0, bZ_1, bZ_eq, isB_bZ, isB_0, isB_1, nar_bZ, nar_0, nar_1, mw_ov, iI_s, iI_na, iI_nm, Int.toNat_natCast, Int.add_zero, Int.zero_add, Nat.reduceEqDiff, Nat.reduceAdd, Int.reduceAdd, Int.reduceNeg, Int.reduceSub, Int.reduceMul, Int.reduceLT, Int.reduceEq, Int.reduceToNat, reduceCtorEq, ↓reduceIte, hb, t1, hnar, es2]
      rw [if_neg (show ¬ (s : Int) < 0 by omega), if_neg (show ¬ (c : Int) = 10 by omega)]
      by_cases z1 : c < 32
      · rw [if_pos (show (c : Int) < 32 by omega)]
      · rw [if_neg (show ¬ (c : Int) < 32 by omega), if_pos (show 126 < (c : Int) by omega)]
    · rw [E_Rd_put_1]
      simp (disch := omega) only [E_Rd_put_2, E_Rd_put_3, E_Rd_put_4, E_Rd_put_5, l_0, l_1, l_8, l_10, l_32, l_126, l_1000, iI_neg, iI_lt, hb, letT_eq, iI_eq, cK_1 H, okO_ov, gd_true, aI_ov H.1, t1, iI_add, es2, Int.reduceEq, ↓reduceIte]
      rw [if_neg (show ¬ (s : Int) < 0 by omega)]
      simp only [if_neg (show ¬ (t.1 : Int) < 1000 by omega), ite_self]
theorem p_Rd_put {A : Nat → Nat} {σ : AM} (H : LC A σ) {t : PD} (ht : wfT t) (v : Int64) {m : VM} (hT : CTp t m) : ∃ m' : VM, M_Rd_put (A 1) v (ov 68 A m σ) = some ((), (ov 68 A (m') σ)) ∧ CTp (putK t v 8) m' ∧ Ks [1, 2, 3, 4, 5, 10, 11, 12, 14, 15] m m' := by
  have h := up_loopI (fun k m1 => L_Rd_put_1 (A 1) v (iI (56 - 8 * (k : Int))) (ov 68 A m1 σ)) (fun k m1 => CTp (putK t v k) m1 ∧ Ks [1, 2, 3, 4, 5, 10, 11, 12, 14, 15] m m1) (fun x => ∃ m' : VM, x = some ((), (ov 68 A (m') σ)) ∧ CTp (putK t v 8) m' ∧ Ks [1, 2, 3, 4, 5, 10, 11, 12, 14, 15] m m') 8 (fun k m1 hk hI ih => by
    obtain ⟨m2, j1, j2, j3⟩ := Rd_put1 H (putK_wf ht v k) v hI.1 k hk
    show ∃ m' : VM, L_Rd_put_1 _ _ _ _ = _ ∧ _
    rw [j1]
    exact ih m2 ⟨j2, Ks_t hI.2 j3⟩) (fun m1 hI => by
    show ∃ m' : VM, L_Rd_put_1 _ _ _ _ = _ ∧ _
    refine ⟨m1, ?_, hI⟩
    rw [E_Rd_put_1]
    simp (disch := omega) only [l_0, iI_lt]
    rw [if_pos (by omega)]) 0 m (Nat.zero_le _) ⟨hT, Ks_r _ _⟩
  obtain ⟨m', e, q⟩ := h
  refine ⟨m', ?_, q⟩
  replace e : L_Rd_put_1 (A 1) v (iI 56) (ov 68 A m σ) = _ := e
  unfold M_Rd_put
  rw [E_Rd_put_0]
  simp only [l_56]
  exact (congrArg (mw _) e).trans (mw_ov _ _ _ _ _ _)
def feedT (t : PD) (x y z : Int64) : PD := putK (putK (putK t x 8) y 8) z 8
theorem c_feed {A : Nat → Nat} {σ : AM} (H : LC A σ) {t : PD} (ht : wfT t) (x y z : Int64) {m : VM} (hT : CTp t m) : ∃ m' : VM, M_Bp_feed (A 0) x y z (ov 68 A m σ) = some (iI ((feedT t x y z).1 : Int), (ov 68 A (m') σ)) ∧ CTp (feedT t x y z) m' ∧ Ks [1, 2, 3, 4, 5, 10, 11, 12, 14, 15] m m' := by
  obtain ⟨m1, a1, a2, a3⟩ := p_Rd_put H ht x hT
  obtain ⟨m2, b1, b2, b3⟩ := p_Rd_put H (putK_wf ht x 8) y a2
  obtain ⟨m3, c1, c2, c3⟩ := p_Rd_put H (putK_wf (putK_wf ht x 8) y 8) z b2
  refine ⟨m3, ?_, c2, Ks_t a3 (Ks_t b3 c3)⟩
  unfold M_Bp_feed
  rw [E_Bp_feed_0]; simp (disch := omega) only [cK_0 H, cR_0_0 H, cK_1 H, q_Rd_size H, letT_eq, gd_true, bnd_some, aR_ov, aK_ov, aN_ov, okO_ov, aI_ov H.1, aL_ov H.1, sI_ov H.1, sL_ov H.1, sV_eq, sV_ne, sV_2, sW_eq, sW_ne, sW_1, iI_add, iI_sub, iI_mul, iI_neg, iI_lt, iI_eq, iI_cl, nI_iI, gd_in, bZ_0, bZ_1, bZ_eq, isB_bZ, isB_0, isB_1, nar_bZ, nar_0, nar_1, mw_ov, iI_s, iI_na, iI_nm, Int.toNat_natCast, Int.add_zero, Int.zero_add, Nat.reduceEqDiff, Nat.reduceAdd, Int.reduceAdd, Int.reduceNeg, Int.reduceSub, Int.reduceMul, Int.reduceLT, Int.reduceEq, Int.reduceToNat, reduceCtorEq, ↓reduceIte, a1, b1, c1, c2.1]
  rfl
theorem Md_lays1 {A : Nat → Nat} {σ : AM} (H : LM A σ) {t : PD} (ht : wfT t) (v : Int64) {m : VM} (hT : MTp t m) (k : Nat) (hk : k < 8) : ∃ m' : VM, L_Md_lays_1 (A 0) v (iI (56 - 8 * (k : Int))) (ov 40 A m σ) = L_Md_lays_1 (A 0) v (iI (56 - 8 * ((k + 1 : Nat) : Int))) (ov 40 A (m') σ) ∧ MTp (putB t (byt v (56 - 8 * k))) m' ∧ Ks [20, 21, 22, 24, 25] m m' := by
  have hb := md_byte v (s := 56 - 8 * k) (by omega)
  have hl := byt_lt v (56 - 8 * k)
  have es : (56 - 8 * (k : Int)) = ((56 - 8 * k : Nat) : Int) := by omega
  have es2 : ((56 - 8 * k : Nat) : Int) + -8 = 56 - 8 * ((k + 1 : Nat) : Int) := by omega
  have hw := ht.1
  obtain ⟨t1, t2⟩ := hT
  rw [es]
  generalize byt v (56 - 8 * k) = c at *
  generalize 56 - 8 * k = s at *
  by_cases q : (c = 10 ∨ 32 ≤ c ∧ c ≤ 126) ∧ t.1 < 1000
  · have eP : putB t c = (t.1 + 1, up1 t.2 t.1 c) := if_pos q
    rw [eP]
    refine ⟨sV (sV m 1 t.1 (iI (c : Int))) 0 2 (iI ((t.1 + 1 : Nat) : Int)), ?_, ⟨?_, fun j hj => ?_⟩, Ks_V (Ks_A (Ks_r _ _) _ _ (by decide)) _ (by decide)⟩
    · obtain ⟨q1, q2⟩ := q
      rw [E_Md_lays_1]; simp (disch := omega) only [E_Md_lays_2, E_Md_lays_3, l_0, l_1, l_8, l_10, l_32, l_126, l_255, l_1000, mK_0 H, mR_1 H, mK_1 H, mN_1 H, letT_eq, gd_true, bnd_some, aR_ov, aK_ov, aN_ov, okO_ov, aI_ov H.1, aL_ov H.1, sI_ov H.1, sL_ov H.1, sV_eq, sV_ne, sV_2, sW_eq, sW_ne, sW_1, iI_add, iI_sub, iI_mul, iI_neg, iI_lt, iI_eq, iI_cl, nI_iI, gd_in, bZ_0, bZ_1, bZ_eq, isB_bZ, isB_0, isB_1, nar_bZ, nar_0, nar_1, mw_ov, iI_s, iI_na, iI_nm, Int.toNat_natCast, Int.add_zero, Int.zero_add, Nat.reduceEqDiff, Nat.reduceAdd, Int.reduceAdd, Int.reduceNeg, Int.reduceSub, Int.reduceMul, Int.reduceLT, Int.reduceEq, Int.reduceToNat, reduceCtorEq, ↓reduceIte, hb, t1, es2]
      rw [if_neg (show ¬ (s : Int) < 0 by omega)]
      by_cases z1 : c = 10
      · rw [if_pos (show (c : Int) = 10 by omega), if_pos (show (t.1 : Int) < 1000 by omega)]
      · rw [if_neg (show ¬ (c : Int) = 10 by omega), if_neg (show ¬ (c : Int) < 32 by omega), if_neg (show ¬ 126 < (c : Int) by omega), if_pos (show (t.1 : Int) < 1000 by omega)]
    · simp (disch := decide) only [sV_eq, sW_eq, sV_ne, sW_ne, sV_2, sW_1, Nat.reduceEqDiff, ↓reduceIte]
    · simp (disch := decide) only [sV_eq, sW_eq, sV_ne, sW_ne, sV_2, sW_1, Nat.reduceEqDiff, ↓reduceIte]
      show _ = iI ((up1 t.2 t.1 c j : Nat) : Int)
      replace hj : j < t.1 + 1 := hj
      by_cases e : j = t.1
      · rw [if_pos e, e, up1_eq]
      · rw [if_neg e, up1_ne _ _ e]; exact t2 j (by omega)
  · have eP : putB t c = t := if_neg q
    rw [eP]
    refine ⟨m, ?_, ⟨t1, t2⟩, Ks_r _ _⟩
    by_cases z0 : t.1 < 1000
    · have q1 : ¬ (c = 10 ∨ 32 ≤ c ∧ c ≤ 126) := fun z => q ⟨z, z0⟩
      rw [E_Md_lays_1]; simp (disch := omega) only [E_Md_lays_2, E_Md_lays_3, l_0, l_1, l_8, l_10, l_32, l_126, l_255, l_1000, mK_0 H, mR_1 H, mK_1 H, mN_1 H, letT_eq, gd_true, bnd_some, aR_ov, aK_ov, aN_ov, okO_ov, aI_ov H.1, aL_ov H.1, sI_ov H.1, sL_ov H.1, sV_eq, sV_ne, sV_2, sW_eq, sW_ne, sW_1, iI_add, iI_sub, iI_mul, iI_neg, iI_lt, iI_eq, iI_cl, nI_iI, gd_in, bZ_0, bZ_1, bZ_eq, isB_bZ, isB_0, isB_1, nar_bZ, nar_0, nar_1, mw_ov, iI_s, iI_na, iI_nm, Int.toNat_natCast, Int.add_zero, Int.zero_add, Nat.reduceEqDiff, Nat.reduceAdd, Int.reduceAdd, Int.reduceNeg, Int.reduceSub, Int.reduceMul, Int.reduceLT, Int.reduceEq, Int.reduceToNat, reduceCtorEq, ↓reduceIte, hb, t1, es2]
      rw [if_neg (show ¬ (s : Int) < 0 by omega), if_neg (show ¬ (c : Int) = 10 by omega)]
      by_cases z1 : c < 32
      · rw [if_pos (show (c : Int) < 32 by omega)]
      · rw [if_neg (show ¬ (c : Int) < 32 by omega), if_pos (show 126 < (c : Int) by omega)]
    · rw [E_Md_lays_1]
      simp (disch := omega) only [E_Md_lays_2, E_Md_lays_3, l_0, l_1, l_8, l_10, l_32, l_126, l_255, l_1000, iI_neg, iI_lt, hb, letT_eq, iI_eq, mK_0 H, okO_ov, gd_true, aI_ov H.1, t1, iI_add, es2]
      rw [if_neg (show ¬ (s : Int) < 0 by omega)]
      simp only [if_neg (show ¬ (t.1 : Int) < 1000 by omega), ite_self]
theorem p_Md_lays {A : Nat → Nat} {σ : AM} (H : LM A σ) {t : PD} (ht : wfT t) (v : Int64) {m : VM} (hT : MTp t m) : ∃ m' : VM, M_Md_lays (A 0) v (ov 40 A m σ) = some ((), (ov 40 A (m') σ)) ∧ MTp (putK t v 8) m' ∧ Ks [20, 21, 22, 24, 25] m m' := by
  have h := up_loopI (fun k m1 => L_Md_lays_1 (A 0) v (iI (56 - 8 * (k : Int))) (ov 40 A m1 σ)) (fun k m1 => MTp (putK t v k) m1 ∧ Ks [20, 21, 22, 24, 25] m m1) (fun x => ∃ m' : VM, x = some ((), (ov 40 A (m') σ)) ∧ MTp (putK t v 8) m' ∧ Ks [20, 21, 22, 24, 25] m m') 8 (fun k m1 hk hI ih => by
    obtain ⟨m2, j1, j2, j3⟩ := Md_lays1 H (putK_wf ht v k) v hI.1 k hk
    show ∃ m' : VM, L_Md_lays_1 _ _ _ _ = _ ∧ _
    rw [j1]
    exact ih m2 ⟨j2, Ks_t hI.2 j3⟩) (fun m1 hI => by
    show ∃ m' : VM, L_Md_lays_1 _ _ _ _ = _ ∧ _
    refine ⟨m1, ?_, hI⟩
    rw [E_Md_lays_1]
    simp (disch := omega) only [l_0, iI_lt]
    rw [if_pos (by omega)]) 0 m (Nat.zero_le _) ⟨hT, Ks_r _ _⟩
  obtain ⟨m', e, q⟩ := h
  refine ⟨m', ?_, q⟩
  replace e : L_Md_lays_1 (A 0) v (iI 56) (ov 40 A m σ) = _ := e
  unfold M_Md_lays
  rw [E_Md_lays_0]
  simp only [l_56]
  exact (congrArg (mw _) e).trans (mw_ov _ _ _ _ _ _)
theorem m_feed {A : Nat → Nat} {σ : AM} (H : LM A σ) {t : PD} (ht : wfT t) (x y z : Int64) {m : VM} (hT : MTp t m) : ∃ m' : VM, M_Md_feed (A 0) x y z (ov 40 A m σ) = some (iI ((feedT t x y z).1 : Int), (ov 40 A (m') σ)) ∧ MTp (feedT t x y z) m' ∧ Ks [20, 21, 22, 24, 25] m m' := by
  have hK0 : Ks [20, 21, 22, 24, 25] m (sV m 0 0 (iI 0)) := Ks_V (Ks_r _ _) _ (by decide)
  obtain ⟨m1, a1, a2, a3⟩ := p_Md_lays H ht x (MTp_K (KM_0 m) hT)
  obtain ⟨m2, b1, b2, b3⟩ := p_Md_lays H (putK_wf ht x 8) y a2
  obtain ⟨m3, c1, c2, c3⟩ := p_Md_lays H (putK_wf (putK_wf ht x 8) y 8) z b2
  refine ⟨m3, ?_, c2, Ks_t hK0 (Ks_t a3 (Ks_t b3 c3))⟩
  unfold M_Md_feed
  rw [E_Md_feed_0]; simp (disch := omega) only [l_0, mK_0 H, letT_eq, gd_true, bnd_some, aR_ov, aK_ov, aN_ov, okO_ov, aI_ov H.1, aL_ov H.1, sI_ov H.1, sL_ov H.1, sV_eq, sV_ne, sV_2, sW_eq, sW_ne, sW_1, iI_add, iI_sub, iI_mul, iI_neg, iI_lt, iI_eq, iI_cl, nI_iI, gd_in, bZ_0, bZ_1, bZ_eq, isB_bZ, isB_0, isB_1, nar_bZ, nar_0, nar_1, mw_ov, iI_s, iI_na, iI_nm, Int.toNat_natCast, Int.add_zero, Int.zero_add, Nat.reduceEqDiff, Nat.reduceAdd, Int.reduceAdd, Int.reduceNeg, Int.reduceSub, Int.reduceMul, Int.reduceLT, Int.reduceEq, Int.reduceToNat, reduceCtorEq, ↓reduceIte, a1, b1, c1, c2.1]
  rfl
