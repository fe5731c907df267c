/-! ===== marks ===== -/
def mkL (b : BD) (k : KD) (n : Nat) : KD := (kL k + 1, up1 (kO k) n (kL k + 1), up1 (kT k) n (nT b), up1 (kH k) n (nH b))
def bkB (b : BD) (k : KD) (n : Nat) : BD := (kT k n, tS b, tR b, kH k n, hS b, hN b)
def bkK (k : KD) (n : Nat) : KD := (kL k, fun i => if kO k n < kO k i then 0 else kO k i, kT k, kH k)
theorem c_markL {d : TD} {b : BD} {g z u : Nat} {A : Nat → Nat} {σ : AM} {m : VM} (C : CS0 d b g z u A σ m) {k : KD} {c : Nat} (hk : CKs k c m) (hc : c < 100000) {n : Nat} (hn : n < 4) : ∃ m' : VM, M_Bp_mark (A 0) (iI (n : Int)) (iI 0) (ov 68 A m σ) = some (iI 1, (ov 68 A (m') σ)) ∧ CKs (mkL b k n) (c + 1) m' ∧ Ks [1, 2, 3, 4, 5, 10, 11, 13, 14, 15] m m' := by
  have H := C.1
  have hB := C.2.2.2.2.2.2.1
  obtain ⟨e, e1, e2, e3, e4, e5⟩ := hk
  have hK : Ks [1, 2, 3, 4, 5, 10, 11, 13, 14, 15] m (sV (sV (sV (sV m 27 9 (iI ((kL k + e + 1 : Nat) : Int))) 34 n (iI ((kL k + e + 1 : Nat) : Int))) 32 n (iI (nT b : Int))) 33 n (iI (nH b : Int))) := Ks_A (Ks_A (Ks_A (Ks_V (Ks_r _ _) _ (by decide)) _ _ (by decide)) _ _ (by decide)) _ _ (by decide)
  refine ⟨_, ?_, ⟨e, by show kL k + 1 + e ≤ c + 1; omega, ?_, fun j hj => ?_, fun j hj => ?_, fun j hj => ?_⟩, hK⟩
  · have hl : M_Bk_layMark (A 27) (iI (n : Int)) (ov 68 A m σ) = some (iI 1, (ov 68 A (sV (sV (sV (sV m 27 9 (iI ((kL k + e + 1 : Nat) : Int))) 34 n (iI ((kL k + e + 1 : Nat) : Int))) 32 n (iI (nT b : Int))) 33 n (iI (nH b : Int))) σ)) := by
      unfold M_Bk_layMark
      rw [E_Bk_layMark_0]; simp (disch := omega) only [l_1, cK_27 H, cR_27_4 H, cK_32 H, cN_32 H, cR_27_5 H, cK_33 H, cN_33 H, cR_27_6 H, cK_34 H, cN_34 H, letT_eq, gd_true, bnd_some, aR_ov, aK_ov, aN_ov, okO_ov, aI_ov H.1, aL_ov H.1, sI_ov H.1, sL_ov H.1, sV_eq, sV_ne, sV_2, sW_eq, sW_ne, sW_1, iI_add, iI_sub, iI_mul, iI_neg, iI_lt, iI_eq, iI_cl, nI_iI, gd_in, bZ_0, bZ_1, bZ_eq, isB_bZ, isB_0, isB_1, nar_bZ, nar_0, nar_1, mw_ov, iI_s, iI_na, iI_nm, Int.toNat_natCast, Int.add_zero, Int.zero_add, Nat.reduceEqDiff, Nat.reduceAdd, Int.reduceAdd, Int.reduceNeg, Int.reduceSub, Int.reduceMul, Int.reduceLT, Int.reduceEq, Int.reduceToNat, reduceCtorEq, ↓reduceIte, e2, hB.1.1, hB.1.2]
    unfold M_Bp_mark
    rw [E_Bp_mark_0]; simp (disch := omega) only [E_Bp_mark_1, E_Bp_mark_2, l_0, l_4, cK_0 H, cR_0_3 H, cK_27 H, letT_eq, gd_true, bnd_some, aR_ov, aK_ov, aN_ov, okO_ov, aI_ov H.1, aL_ov H.1, sI_ov H.1, sL_ov H.1, sV_eq, sV_ne, sV_2, sW_eq, sW_ne, sW_1, iI_add, iI_sub, iI_mul, iI_neg, iI_lt, iI_eq, iI_cl, nI_iI, gd_in, bZ_0, bZ_1, bZ_eq, isB_bZ, isB_0, isB_1, nar_bZ, nar_0, nar_1, mw_ov, iI_s, iI_na, iI_nm, Int.toNat_natCast, Int.add_zero, Int.zero_add, Nat.reduceEqDiff, Nat.reduceAdd, Int.reduceAdd, Int.reduceNeg, Int.reduceSub, Int.reduceMul, Int.reduceLT, Int.reduceEq, Int.reduceToNat, reduceCtorEq, ↓reduceIte, hl]
    rw [if_neg (by omega), if_pos (by omega), mw_ov]
  · simp (disch := decide) only [sV_eq, sW_eq, sV_ne, sW_ne, sV_2, sW_1, Nat.reduceEqDiff, ↓reduceIte]
    show _ = iI ((kL k + 1 + e : Nat) : Int)
    rw [show kL k + 1 + e = kL k + e + 1 by omega]
  · simp (disch := decide) only [sV_eq, sW_eq, sV_ne, sW_ne, sV_2, sW_1, Nat.reduceEqDiff, ↓reduceIte]
    show _ = iI ((if up1 (kO k) n (kL k + 1) j = 0 then 0 else up1 (kO k) n (kL k + 1) j + e : Nat) : Int)
    by_cases q : j = n
    · rw [if_pos q, q, up1_eq, if_neg (by omega), show kL k + 1 + e = kL k + e + 1 by omega]
    · rw [if_neg q, up1_ne _ _ q]; exact e3 j hj
  · simp (disch := decide) only [sV_eq, sW_eq, sV_ne, sW_ne, sV_2, sW_1, Nat.reduceEqDiff, ↓reduceIte]
    show _ = iI ((up1 (kT k) n (nT b) j : Nat) : Int)
    by_cases q : j = n
    · rw [if_pos q, q, up1_eq]
    · rw [if_neg q, up1_ne _ _ q]; exact e4 j hj
  · simp (disch := decide) only [sV_eq, sW_eq, sV_ne, sW_ne, sV_2, sW_1, Nat.reduceEqDiff, ↓reduceIte]
    show _ = iI ((up1 (kH k) n (nH b) j : Nat) : Int)
    by_cases q : j = n
    · rw [if_pos q, q, up1_eq]
    · rw [if_neg q, up1_ne _ _ q]; exact e5 j hj
theorem c_mark0 {A : Nat → Nat} {σ : AM} (H : LC A σ) (m : VM) {a : Int} (h1 : -2147483648 ≤ a) (h2 : a < 2147483648) (h : ¬ (0 ≤ a ∧ a ≤ 3)) (bk : Int32) : M_Bp_mark (A 0) (iI a) bk (ov 68 A m σ) = some (iI 0, (ov 68 A m σ)) := by
  unfold M_Bp_mark
  rw [E_Bp_mark_0]
  simp (disch := omega) only [E_Bp_mark_1, l_0, l_4, iI_lt]
  by_cases q : a < 0
  · rw [if_pos q, mw_ov]
  · rw [if_neg q, if_neg (by omega), mw_ov]
theorem c_markN {A : Nat → Nat} {σ : AM} (H : LC A σ) {m : VM} {k : KD} {c : Nat} (hk : CKs k c m) (hc : c < 100000) {n : Nat} (hn : n < 4) (h0 : kO k n = 0) : M_Bp_mark (A 0) (iI (n : Int)) (iI 1) (ov 68 A m σ) = some (iI 0, (ov 68 A m σ)) := by
  obtain ⟨e, e1, e2, e3, e4, e5⟩ := hk
  have e3n := e3 n hn
  rw [if_pos h0] at e3n
  replace e3n : m.1 34 n = iI 0 := e3n
  have hl : M_Bk_goBack (A 27) (iI (n : Int)) (ov 68 A m σ) = some (iI 0, (ov 68 A m σ)) := by
    unfold M_Bk_goBack
    rw [E_Bk_goBack_0]; simp (disch := omega) only [l_0, cK_27 H, cR_27_4 H, cK_32 H, cN_32 H, cR_27_5 H, cK_33 H, cN_33 H, cR_27_6 H, cK_34 H, cN_34 H, letT_eq, gd_true, bnd_some, aR_ov, aK_ov, aN_ov, okO_ov, aI_ov H.1, aL_ov H.1, sI_ov H.1, sL_ov H.1, sV_eq, sV_ne, sV_2, sW_eq, sW_ne, sW_1, iI_add, iI_sub, iI_mul, iI_neg, iI_lt, iI_eq, iI_cl, nI_iI, gd_in, bZ_0, bZ_1, bZ_eq, isB_bZ, isB_0, isB_1, nar_bZ, nar_0, nar_1, mw_ov, iI_s, iI_na, iI_nm, Int.toNat_natCast, Int.add_zero, Int.zero_add, Nat.reduceEqDiff, Nat.reduceAdd, Int.reduceAdd, Int.reduceNeg, Int.reduceSub, Int.reduceMul, Int.reduceLT, Int.reduceEq, Int.reduceToNat, reduceCtorEq, ↓reduceIte, e3n]
  unfold M_Bp_mark
  rw [E_Bp_mark_0]; simp (disch := omega) only [E_Bp_mark_1, E_Bp_mark_2, l_0, l_4, cK_0 H, cR_0_3 H, cK_27 H, letT_eq, gd_true, bnd_some, aR_ov, aK_ov, aN_ov, okO_ov, aI_ov H.1, aL_ov H.1, sI_ov H.1, sL_ov H.1, sV_eq, sV_ne, sV_2, sW_eq, sW_ne, sW_1, iI_add, iI_sub, iI_mul, iI_neg, iI_lt, iI_eq, iI_cl, nI_iI, gd_in, bZ_0, bZ_1, bZ_eq, isB_bZ, isB_0, isB_1, nar_bZ, nar_0, nar_1, mw_ov, iI_s, iI_na, iI_nm, Int.toNat_natCast, Int.add_zero, Int.zero_add, Nat.reduceEqDiff, Nat.reduceAdd, Int.reduceAdd, Int.reduceNeg, Int.reduceSub, Int.reduceMul, Int.reduceLT, Int.reduceEq, Int.reduceToNat, reduceCtorEq, ↓reduceIte, hl]
  rw [if_neg (by omega), if_pos (by omega), mw_ov]
def mT (k : KD) (e j : Nat) : Nat := if kO k j = 0 then 0 else kO k j + e
theorem Bk_back1 {A : Nat → Nat} {σ : AM} (H : LC A σ) {m : VM} {f : Nat → Nat} (hf : ∀ j, j < 4 → f j < 200000) {n : Nat} (hn : n < 4) (i : Nat) (hi : i < 4) (h : ∀ j, j < 4 → m.1 34 j = iI ((if j < i ∧ f n < f j then 0 else f j : Nat) : Int)) : ∃ m' : VM, L_Bk_goBack_1 (A 27) (iI (n : Int)) (iI (i : Int)) (ov 68 A m σ) = L_Bk_goBack_1 (A 27) (iI (n : Int)) (iI ((i + 1 : Nat) : Int)) (ov 68 A (m') σ) ∧ (m' = m ∨ m' = sV m 34 i (iI 0)) ∧ ∀ j, j < 4 → m'.1 34 j = iI ((if j < i + 1 ∧ f n < f j then 0 else f j : Nat) : Int) := by
  have b1 := hf n hn
  have b2 := hf i hi
  have en := h n hn
  rw [if_neg (by omega)] at en
  have ei := h i hi
  rw [if_neg (by omega)] at ei
  by_cases q : f n < f i
  · refine ⟨sV m 34 i (iI 0), ?_, Or.inr rfl, fun j hj => ?_⟩
    · rw [E_Bk_goBack_1]; simp (disch := omega) only [E_Bk_goBack_2, l_0, l_1, l_4, cK_27 H, cR_27_6 H, cK_34 H, cN_34 H, letT_eq, gd_true, bnd_some, aR_ov, aK_ov, aN_ov, okO_ov, aI_ov H.1, aL_ov H.1, sI_ov H.1, sL_ov H.1, sV_eq, sV_ne, sV_2, sW_eq, sW_ne, sW_1, iI_add, iI_sub, iI_mul, iI_neg, iI_lt, iI_eq, iI_cl, nI_iI, gd_in, bZ_0, bZ_1, bZ_eq, isB_bZ, isB_0, isB_1, nar_bZ, nar_0, nar_1, mw_ov, iI_s, iI_na, iI_nm, Int.toNat_natCast, Int.add_zero, Int.zero_add, Nat.reduceEqDiff, Nat.reduceAdd, Int.reduceAdd, Int.reduceNeg, Int.reduceSub, Int.reduceMul, Int.reduceLT, Int.reduceEq, Int.reduceToNat, reduceCtorEq, ↓reduceIte, en, ei]
      rw [if_pos (by omega), if_pos (by omega)]
    · rw [sV_eq]
      by_cases e : j = i
      · rw [if_pos e, e, if_pos ⟨by omega, q⟩]; rfl
      · rw [if_neg e, h j hj]
        by_cases c : j < i ∧ f n < f j
        · rw [if_pos c, if_pos ⟨by omega, c.2⟩]
        · rw [if_neg c, if_neg (fun z => c ⟨by omega, z.2⟩)]
  · refine ⟨m, ?_, Or.inl rfl, fun j hj => ?_⟩
    · rw [E_Bk_goBack_1]; simp (disch := omega) only [E_Bk_goBack_2, l_0, l_1, l_4, cK_27 H, cR_27_6 H, cK_34 H, cN_34 H, letT_eq, gd_true, bnd_some, aR_ov, aK_ov, aN_ov, okO_ov, aI_ov H.1, aL_ov H.1, sI_ov H.1, sL_ov H.1, sV_eq, sV_ne, sV_2, sW_eq, sW_ne, sW_1, iI_add, iI_sub, iI_mul, iI_neg, iI_lt, iI_eq, iI_cl, nI_iI, gd_in, bZ_0, bZ_1, bZ_eq, isB_bZ, isB_0, isB_1, nar_bZ, nar_0, nar_1, mw_ov, iI_s, iI_na, iI_nm, Int.toNat_natCast, Int.add_zero, Int.zero_add, Nat.reduceEqDiff, Nat.reduceAdd, Int.reduceAdd, Int.reduceNeg, Int.reduceSub, Int.reduceMul, Int.reduceLT, Int.reduceEq, Int.reduceToNat, reduceCtorEq, ↓reduceIte, en, ei]
      rw [if_pos (by omega), if_neg (by omega)]
    · rw [h j hj]
      by_cases c : j < i ∧ f n < f j
      · rw [if_pos c, if_pos ⟨by omega, c.2⟩]
      · rw [if_neg c, if_neg (fun z => c ⟨by
          by_cases e : j = i
          · subst e; exact absurd z.2 q
          · omega, z.2⟩)]
theorem bkB_wf {d : TD} {b : BD} {k : KD} {n : Nat} (hb : wfB d b) (h : kT k n ≤ 60 ∧ kH k n ≤ 8 ∧ ∀ i, i < kT k n → tS b i < sN d) : wfB d (bkB b k n) := ⟨h.1, h.2.1, hb.2.2.1, h.2.2, hb.2.2.2.2⟩
theorem c_markB {d : TD} {b : BD} {g z u : Nat} {A : Nat → Nat} {σ : AM} {m : VM} (C : CS0 d b g z u A σ m) (hg : g + 1 < 100000) {k : KD} {c : Nat} (hk : CKs k c m) (hc : c < 100000) (hkO : ∀ j, j < 4 → kO k j ≤ kL k) {n : Nat} (hn : n < 4) (h0 : kO k n ≠ 0) (hw : kT k n ≤ 60 ∧ kH k n ≤ 8 ∧ ∀ i, i < kT k n → tS b i < sN d) : ∃ m' : VM, M_Bp_mark (A 0) (iI (n : Int)) (iI 1) (ov 68 A m σ) = some (iI 1, (ov 68 A (m') σ)) ∧ CS0 d (bkB b k n) (g + 1) z u A σ m' ∧ CKs (bkK k n) c m' ∧ Ks [1, 2, 3, 4, 5, 10, 13, 14] m m' := by
  have H := C.1
  have hB := C.2.2.2.2.2.2.1
  have h10 := C.2.2.2.2.2.2.2.1
  obtain ⟨e, e1, e2, e3, e4, e5⟩ := hk
  have e3n := e3 n hn
  rw [if_neg h0] at e3n
  have hOn := hkO n hn
  have hK0 : Ks [1, 2, 3, 4, 5, 10, 13, 14] m (sV (sV m 27 7 (iI (kT k n : Int))) 27 8 (iI (kH k n : Int))) := Ks_V (Ks_V (Ks_r _ _) _ (by decide)) _ (by decide)
  have h := up_loopI (fun i m1 => L_Bk_goBack_1 (A 27) (iI (n : Int)) (iI (i : Int)) (ov 68 A m1 σ)) (fun i m1 => Ks [1, 2, 3, 4, 5, 10, 13, 14] m m1 ∧ (∀ a, a ≠ 34 → m1.1 a = (sV (sV m 27 7 (iI (kT k n : Int))) 27 8 (iI (kH k n : Int))).1 a) ∧ ∀ j, j < 4 → m1.1 34 j = iI ((if j < i ∧ mT k e n < mT k e j then 0 else mT k e j : Nat) : Int)) (fun x => ∃ m' : VM, x = some (iI 1, (ov 68 A (m') σ)) ∧ Ks [1, 2, 3, 4, 5, 10, 13, 14] m m' ∧ (∀ a, a ≠ 34 → m'.1 a = (sV (sV (sV m 27 7 (iI (kT k n : Int))) 27 8 (iI (kH k n : Int))) 27 10 (iI ((g + 1 : Nat) : Int))).1 a) ∧ ∀ j, j < 4 → m'.1 34 j = iI ((if mT k e n < mT k e j then 0 else mT k e j : Nat) : Int)) 4 (fun i m1 hi hI ih => by
    obtain ⟨i1, i2, i3⟩ := hI
    obtain ⟨m2, j1, j2, j3⟩ := Bk_back1 H (f := mT k e) (fun j hj => by have := hkO j hj; unfold mT; split <;> omega) hn i hi i3
    show ∃ m' : VM, L_Bk_goBack_1 _ _ _ _ = _ ∧ _
    rw [j1]
    refine ih m2 ⟨?_, ?_, j3⟩
    · rcases j2 with rfl | rfl
      · exact i1
      · exact Ks_A i1 _ _ (by decide)
    · rcases j2 with rfl | rfl
      · exact i2
      · intro a ha; rw [sV_ne _ _ _ _ ha]; exact i2 a ha) (fun m1 hI => by
    obtain ⟨i1, i2, i3⟩ := hI
    have hg10 : m1.1 27 10 = iI (g : Int) := by rw [i2 27 (by decide)]; simp (disch := decide) only [sV_eq, sW_eq, sV_ne, sW_ne, sV_2, sW_1, Nat.reduceEqDiff, ↓reduceIte]; exact h10
    show ∃ m' : VM, L_Bk_goBack_1 _ _ _ _ = _ ∧ _
    refine ⟨sV m1 27 10 (iI ((g + 1 : Nat) : Int)), ?_, Ks_V i1 _ (by decide), fun a ha => ?_, fun j hj => ?_⟩
    · rw [E_Bk_goBack_1]
      simp (disch := omega) only [l_4, l_1, iI_lt, cK_27 H, okO_ov, gd_true, aI_ov H.1, hg10, iI_add, letT_eq, sI_ov H.1]
      rw [if_neg (by omega)]
      rfl
    · by_cases ea : a = 27
      · subst ea
        funext j
        rw [sV_eq, sV_eq, i2 27 (by decide)]
      · rw [sV_ne _ _ _ _ ea, sV_ne _ _ _ _ ea]; exact i2 a ha
    · rw [sV_ne _ _ _ _ (by decide), i3 j hj]
      by_cases c : mT k e n < mT k e j
      · rw [if_pos ⟨hj, c⟩, if_pos c]
      · rw [if_neg (fun z => c z.2), if_neg c]) 0 (sV (sV m 27 7 (iI (kT k n : Int))) 27 8 (iI (kH k n : Int))) (Nat.zero_le _) ⟨hK0, fun _ _ => rfl, fun j hj => by
      simp (disch := decide) only [sV_eq, sW_eq, sV_ne, sW_ne, sV_2, sW_1, Nat.reduceEqDiff, ↓reduceIte]
      rw [if_neg (fun z => Nat.not_lt_zero _ z.1)]
      exact e3 j hj⟩
  obtain ⟨m', ee, k1, k2, k3⟩ := h
  replace ee : L_Bk_goBack_1 (A 27) (iI (n : Int)) (iI 0) (ov 68 A (sV (sV m 27 7 (iI (kT k n : Int))) 27 8 (iI (kH k n : Int))) σ) = _ := ee
  have hl : M_Bk_goBack (A 27) (iI (n : Int)) (ov 68 A m σ) = some (iI 1, (ov 68 A (m') σ)) := by
    unfold M_Bk_goBack
    rw [E_Bk_goBack_0]; simp (disch := omega) only [l_0, cK_27 H, cR_27_4 H, cK_32 H, cN_32 H, cR_27_5 H, cK_33 H, cN_33 H, cR_27_6 H, cK_34 H, cN_34 H, letT_eq, gd_true, bnd_some, aR_ov, aK_ov, aN_ov, okO_ov, aI_ov H.1, aL_ov H.1, sI_ov H.1, sL_ov H.1, sV_eq, sV_ne, sV_2, sW_eq, sW_ne, sW_1, iI_add, iI_sub, iI_mul, iI_neg, iI_lt, iI_eq, iI_cl, nI_iI, gd_in, bZ_0, bZ_1, bZ_eq, isB_bZ, isB_0, isB_1, nar_bZ, nar_0, nar_1, mw_ov, iI_s, iI_na, iI_nm, Int.toNat_natCast, Int.add_zero, Int.zero_add, Nat.reduceEqDiff, Nat.reduceAdd, Int.reduceAdd, Int.reduceNeg, Int.reduceSub, Int.reduceMul, Int.reduceLT, Int.reduceEq, Int.reduceToNat, reduceCtorEq, ↓reduceIte, e3n, e4 n hn, e5 n hn, ee]
    rw [if_neg (by omega), mw_ov]
  refine ⟨m', ?_, CS0_upd C hg (Ks_sub k1 (by decide)) (bkB_wf C.2.2.2.2.2.1 hw) ⟨⟨?_, ?_⟩, ?_, ?_, ?_, ?_⟩ ?_, ⟨e, e1, ?_, fun j hj => ?_, ?_, ?_⟩, k1⟩
  · unfold M_Bp_mark
    rw [E_Bp_mark_0]; simp (disch := omega) only [E_Bp_mark_1, E_Bp_mark_2, l_0, l_4, cK_0 H, cR_0_3 H, cK_27 H, letT_eq, gd_true, bnd_some, aR_ov, aK_ov, aN_ov, okO_ov, aI_ov H.1, aL_ov H.1, sI_ov H.1, sL_ov H.1, sV_eq, sV_ne, sV_2, sW_eq, sW_ne, sW_1, iI_add, iI_sub, iI_mul, iI_neg, iI_lt, iI_eq, iI_cl, nI_iI, gd_in, bZ_0, bZ_1, bZ_eq, isB_bZ, isB_0, isB_1, nar_bZ, nar_0, nar_1, mw_ov, iI_s, iI_na, iI_nm, Int.toNat_natCast, Int.add_zero, Int.zero_add, Nat.reduceEqDiff, Nat.reduceAdd, Int.reduceAdd, Int.reduceNeg, Int.reduceSub, Int.reduceMul, Int.reduceLT, Int.reduceEq, Int.reduceToNat, reduceCtorEq, ↓reduceIte, hl]
    rw [if_neg (by omega), if_pos (by omega), mw_ov]
  · rw [k2 27 (by decide)]; simp (disch := decide) only [sV_eq, sW_eq, sV_ne, sW_ne, sV_2, sW_1, Nat.reduceEqDiff, ↓reduceIte]; rfl
  · rw [k2 27 (by decide)]; simp (disch := decide) only [sV_eq, sW_eq, sV_ne, sW_ne, sV_2, sW_1, Nat.reduceEqDiff, ↓reduceIte]; rfl
  · rw [k2 28 (by decide)]; simp (disch := decide) only [sV_eq, sW_eq, sV_ne, sW_ne, sV_2, sW_1, Nat.reduceEqDiff, ↓reduceIte]; exact hB.2.1
  · rw [k2 29 (by decide)]; simp (disch := decide) only [sV_eq, sW_eq, sV_ne, sW_ne, sV_2, sW_1, Nat.reduceEqDiff, ↓reduceIte]; exact hB.2.2.1
  · rw [k2 30 (by decide)]; simp (disch := decide) only [sV_eq, sW_eq, sV_ne, sW_ne, sV_2, sW_1, Nat.reduceEqDiff, ↓reduceIte]; exact hB.2.2.2.1
  · rw [k2 31 (by decide)]; simp (disch := decide) only [sV_eq, sW_eq, sV_ne, sW_ne, sV_2, sW_1, Nat.reduceEqDiff, ↓reduceIte]; exact hB.2.2.2.2
  · rw [k2 27 (by decide)]; simp (disch := decide) only [sV_eq, sW_eq, sV_ne, sW_ne, sV_2, sW_1, Nat.reduceEqDiff, ↓reduceIte]
  · rw [k2 27 (by decide)]; simp (disch := decide) only [sV_eq, sW_eq, sV_ne, sW_ne, sV_2, sW_1, Nat.reduceEqDiff, ↓reduceIte]; exact e2
  · rw [k3 j hj]
    show _ = iI ((if (if kO k n < kO k j then 0 else kO k j) = 0 then 0 else (if kO k n < kO k j then 0 else kO k j) + e : Nat) : Int)
    congr 2
    unfold mT
    rw [if_neg h0]
    by_cases c : kO k n < kO k j
    · rw [if_neg (show ¬ kO k j = 0 by omega), if_pos (by omega), if_pos c, if_pos rfl]
    · rw [if_neg c, if_neg (by split <;> omega)]
  · rw [k2 32 (by decide)]; simp (disch := decide) only [sV_eq, sW_eq, sV_ne, sW_ne, sV_2, sW_1, Nat.reduceEqDiff, ↓reduceIte]; exact e4
  · rw [k2 33 (by decide)]; simp (disch := decide) only [sV_eq, sW_eq, sV_ne, sW_ne, sV_2, sW_1, Nat.reduceEqDiff, ↓reduceIte]; exact e5
/-! the reference's -/
theorem m_markL {d : TD} {b : BD} {A : Nat → Nat} {σ : AM} {m : VM} (M : MS0 d b A σ m) {k : KD} (hk : MKs k m) {n : Nat} (hn : n < 4) : ∃ m' : VM, M_Md_mark (A 0) (iI (n : Int)) (iI 0) (ov 40 A m σ) = some (iI 1, (ov 40 A (m') σ)) ∧ MKs (mkL b k n) m' ∧ Ks [20, 21, 23, 24, 25] m m' := by
  obtain ⟨H, hd, hT, hb, hB⟩ := M
  obtain ⟨e1, e2, e3, e4⟩ := hk
  have hw := q_Md_within (a := (n : Int)) (l := 0) (h := 3) (ov 40 A (sV m 0 0 (iI 0)) σ) (by omega) (by omega) (by omega) (by omega) (by omega) (by omega)
  rw [decide_eq_true (by omega)] at hw
  have hK : Ks [20, 21, 23, 24, 25] m (sV (sV (sV (sV (sV m 0 0 (iI 0)) 0 72 (iI ((kL k + 1 : Nat) : Int))) 37 n (iI ((kL k + 1 : Nat) : Int))) 38 n (iI (nT b : Int))) 39 n (iI (nH b : Int))) := Ks_A (Ks_A (Ks_A (Ks_V (Ks_V (Ks_r _ _) _ (by decide)) _ (by decide)) _ _ (by decide)) _ _ (by decide)) _ _ (by decide)
  refine ⟨_, ?_, ⟨?_, fun j hj => ?_, fun j hj => ?_, fun j hj => ?_⟩, hK⟩
  · unfold M_Md_mark
    rw [E_Md_mark_0]; simp (disch := omega) only [E_Md_mark_1, E_Md_mark_2, l_0, l_1, l_3, mK_0 H, mR_73 H, mK_37 H, mN_37 H, mR_74 H, mK_38 H, mN_38 H, mR_75 H, mK_39 H, mN_39 H, letT_eq, gd_true, bnd_some, aR_ov, aK_ov, aN_ov, okO_ov, aI_ov H.1, aL_ov H.1, sI_ov H.1, sL_ov H.1, sV_eq, sV_ne, sV_2, sW_eq, sW_ne, sW_1, iI_add, iI_sub, iI_mul, iI_neg, iI_lt, iI_eq, iI_cl, nI_iI, gd_in, bZ_0, bZ_1, bZ_eq, isB_bZ, isB_0, isB_1, nar_bZ, nar_0, nar_1, mw_ov, iI_s, iI_na, iI_nm, Int.toNat_natCast, Int.add_zero, Int.zero_add, Nat.reduceEqDiff, Nat.reduceAdd, Int.reduceAdd, Int.reduceNeg, Int.reduceSub, Int.reduceMul, Int.reduceLT, Int.reduceEq, Int.reduceToNat, reduceCtorEq, ↓reduceIte, hw, e1, hB.1.1, hB.1.2]
  · simp (disch := decide) only [sV_eq, sW_eq, sV_ne, sW_ne, sV_2, sW_1, Nat.reduceEqDiff, ↓reduceIte]; rfl
  · simp (disch := decide) only [sV_eq, sW_eq, sV_ne, sW_ne, sV_2, sW_1, Nat.reduceEqDiff, ↓reduceIte]
    show _ = iI ((up1 (kO k) n (kL k + 1) j : Nat) : Int)
    by_cases q : j = n
    · rw [if_pos q, q, up1_eq]
    · rw [if_neg q, up1_ne _ _ q]; exact e2 j hj
  · simp (disch := decide) only [sV_eq, sW_eq, sV_ne, sW_ne, sV_2, sW_1, Nat.reduceEqDiff, ↓reduceIte]
    show _ = iI ((up1 (kT k) n (nT b) j : Nat) : Int)
    by_cases q : j = n
    · rw [if_pos q, q, up1_eq]
    · rw [if_neg q, up1_ne _ _ q]; exact e3 j hj
  · simp (disch := decide) only [sV_eq, sW_eq, sV_ne, sW_ne, sV_2, sW_1, Nat.reduceEqDiff, ↓reduceIte]
    show _ = iI ((up1 (kH k) n (nH b) j : Nat) : Int)
    by_cases q : j = n
    · rw [if_pos q, q, up1_eq]
    · rw [if_neg q, up1_ne _ _ q]; exact e4 j hj
theorem m_mark0 {A : Nat → Nat} {σ : AM} (H : LM A σ) (m : VM) {a : Int} (h1 : -2147483648 ≤ a) (h2 : a < 2147483648) (h : ¬ (0 ≤ a ∧ a ≤ 3)) (bk : Int32) : M_Md_mark (A 0) (iI a) bk (ov 40 A m σ) = some (iI 0, (ov 40 A (sV m 0 0 (iI 0)) σ)) := by
  have hw := q_Md_within (a := a) (l := 0) (h := 3) (ov 40 A (sV m 0 0 (iI 0)) σ) h1 h2 (by omega) (by omega) (by omega) (by omega)
  rw [decide_eq_false h] at hw
  unfold M_Md_mark
  rw [E_Md_mark_0]
  simp (disch := omega) only [E_Md_mark_1, mK_0 H, okO_ov, gd_true, letT_eq, sI_ov H.1, l_0, l_3, hw, bnd_some, bZ_0, mw_ov, ↓reduceIte]
theorem m_markN {A : Nat → Nat} {σ : AM} (H : LM A σ) {m : VM} {k : KD} (hk : MKs k m) {n : Nat} (hn : n < 4) (h0 : kO k n = 0) : M_Md_mark (A 0) (iI (n : Int)) (iI 1) (ov 40 A m σ) = some (iI 0, (ov 40 A (sV m 0 0 (iI 0)) σ)) := by
  have hw := q_Md_within (a := (n : Int)) (l := 0) (h := 3) (ov 40 A (sV m 0 0 (iI 0)) σ) (by omega) (by omega) (by omega) (by omega) (by omega) (by omega)
  rw [decide_eq_true (by omega)] at hw
  have e3n : m.1 37 n = iI 0 := by rw [hk.2.1 n hn, h0]; rfl
  unfold M_Md_mark
  rw [E_Md_mark_0]; simp (disch := omega) only [E_Md_mark_1, E_Md_mark_2, l_0, l_1, l_3, mK_0 H, mR_73 H, mK_37 H, mN_37 H, mR_74 H, mK_38 H, mN_38 H, mR_75 H, mK_39 H, mN_39 H, letT_eq, gd_true, bnd_some, aR_ov, aK_ov, aN_ov, okO_ov, aI_ov H.1, aL_ov H.1, sI_ov H.1, sL_ov H.1, sV_eq, sV_ne, sV_2, sW_eq, sW_ne, sW_1, iI_add, iI_sub, iI_mul, iI_neg, iI_lt, iI_eq, iI_cl, nI_iI, gd_in, bZ_0, bZ_1, bZ_eq, isB_bZ, isB_0, isB_1, nar_bZ, nar_0, nar_1, mw_ov, iI_s, iI_na, iI_nm, Int.toNat_natCast, Int.add_zero, Int.zero_add, Nat.reduceEqDiff, Nat.reduceAdd, Int.reduceAdd, Int.reduceNeg, Int.reduceSub, Int.reduceMul, Int.reduceLT, Int.reduceEq, Int.reduceToNat, reduceCtorEq, ↓reduceIte, hw, e3n]
theorem Md_mark3 {A : Nat → Nat} {σ : AM} (H : LM A σ) {m : VM} {f : Nat → Nat} (hf : ∀ j, j < 4 → f j < 200000) {n : Nat} (hn : n < 4) (i : Nat) (hi : i < 4) (h : ∀ j, j < 4 → m.1 37 j = iI ((if j < i ∧ f n < f j then 0 else f j : Nat) : Int)) : ∃ v : Int32, L_Md_mark_3 (A 0) (iI (n : Int)) (iI (i : Int)) (ov 40 A m σ) = L_Md_mark_3 (A 0) (iI (n : Int)) (iI ((i + 1 : Nat) : Int)) (ov 40 A (sV m 37 i v) σ) ∧ ∀ j, j < 4 → (sV m 37 i v).1 37 j = iI ((if j < i + 1 ∧ f n < f j then 0 else f j : Nat) : Int) := by
  have b1 := hf n hn
  have b2 := hf i hi
  have en := h n hn
  rw [if_neg (by omega)] at en
  have ei := h i hi
  rw [if_neg (by omega)] at ei
  have rest : ∀ v : Int32, v = iI ((if f n < f i then 0 else f i : Nat) : Int) → ∀ j, j < 4 → (sV m 37 i v).1 37 j = iI ((if j < i + 1 ∧ f n < f j then 0 else f j : Nat) : Int) := by
    intro v hv j hj
    rw [sV_eq]
    by_cases e : j = i
    · rw [if_pos e, e, hv]
      by_cases c : f n < f i
      · rw [if_pos c, if_pos ⟨by omega, c⟩]
      · rw [if_neg c, if_neg (fun z => c z.2)]
    · rw [if_neg e, h j hj]
      by_cases c : j < i ∧ f n < f j
      · rw [if_pos c, if_pos ⟨by omega, c.2⟩]
      · rw [if_neg c, if_neg (fun z => c ⟨by omega, z.2⟩)]
  by_cases q : f n < f i
  · refine ⟨iI 0, ?_, rest _ (by rw [if_pos q]; rfl)⟩
    rw [E_Md_mark_3]; simp (disch := omega) only [E_Md_mark_4, l_0, l_1, l_4, mK_0 H, mR_73 H, mK_37 H, mN_37 H, letT_eq, gd_true, bnd_some, aR_ov, aK_ov, aN_ov, okO_ov, aI_ov H.1, aL_ov H.1, sI_ov H.1, sL_ov H.1, sV_eq, sV_ne, sV_2, sW_eq, sW_ne, sW_1, iI_add, iI_sub, iI_mul, iI_neg, iI_lt, iI_eq, iI_cl, nI_iI, gd_in, bZ_0, bZ_1, bZ_eq, isB_bZ, isB_0, isB_1, nar_bZ, nar_0, nar_1, mw_ov, iI_s, iI_na, iI_nm, Int.toNat_natCast, Int.add_zero, Int.zero_add, Nat.reduceEqDiff, Nat.reduceAdd, Int.reduceAdd, Int.reduceNeg, Int.reduceSub, Int.reduceMul, Int.reduceLT, Int.reduceEq, Int.reduceToNat, reduceCtorEq, ↓reduceIte, en, ei]
    rw [if_pos (by omega), if_pos (by omega)]
  · refine ⟨iI (f i : Int), ?_, rest _ (by rw [if_neg q])⟩
    rw [E_Md_mark_3]; simp (disch := omega) only [E_Md_mark_4, l_0, l_1, l_4, mK_0 H, mR_73 H, mK_37 H, mN_37 H, letT_eq, gd_true, bnd_some, aR_ov, aK_ov, aN_ov, okO_ov, aI_ov H.1, aL_ov H.1, sI_ov H.1, sL_ov H.1, sV_eq, sV_ne, sV_2, sW_eq, sW_ne, sW_1, iI_add, iI_sub, iI_mul, iI_neg, iI_lt, iI_eq, iI_cl, nI_iI, gd_in, bZ_0, bZ_1, bZ_eq, isB_bZ, isB_0, isB_1, nar_bZ, nar_0, nar_1, mw_ov, iI_s, iI_na, iI_nm, Int.toNat_natCast, Int.add_zero, Int.zero_add, Nat.reduceEqDiff, Nat.reduceAdd, Int.reduceAdd, Int.reduceNeg, Int.reduceSub, Int.reduceMul, Int.reduceLT, Int.reduceEq, Int.reduceToNat, reduceCtorEq, ↓reduceIte, en, ei]
    rw [if_pos (by omega), if_neg (by omega)]
theorem m_markB {d : TD} {b : BD} {A : Nat → Nat} {σ : AM} {m : VM} (M : MS0 d b A σ m) {k : KD} (hk : MKs k m) {c : Nat} (hc : c < 100000) (hL : kL k ≤ c) (hkO : ∀ j, j < 4 → kO k j ≤ kL k) {n : Nat} (hn : n < 4) (h0 : kO k n ≠ 0) (hw : kT k n ≤ 60 ∧ kH k n ≤ 8 ∧ ∀ i, i < kT k n → tS b i < sN d) : ∃ m' : VM, M_Md_mark (A 0) (iI (n : Int)) (iI 1) (ov 40 A m σ) = some (iI 1, (ov 40 A (m') σ)) ∧ MS0 d (bkB b k n) A σ m' ∧ MKs (bkK k n) m' ∧ Ks [20, 23, 24, 25] m m' := by
  obtain ⟨H, hd, hT, hb, hB⟩ := M
  obtain ⟨e1, e2, e3, e4⟩ := hk
  have hwi := q_Md_within (a := (n : Int)) (l := 0) (h := 3) (ov 40 A (sV m 0 0 (iI 0)) σ) (by omega) (by omega) (by omega) (by omega) (by omega) (by omega)
  rw [decide_eq_true (by omega)] at hwi
  have e3n := e2 n hn
  have hOn := hkO n hn
  have hK0 : Ks [20, 23, 24, 25] m (sV (sV (sV m 0 0 (iI 0)) 0 37 (iI (kT k n : Int))) 0 42 (iI (kH k n : Int))) := Ks_V (Ks_V (Ks_V (Ks_r _ _) _ (by decide)) _ (by decide)) _ (by decide)
  have h := up_loopI (fun i m1 => L_Md_mark_3 (A 0) (iI (n : Int)) (iI (i : Int)) (ov 40 A m1 σ)) (fun i m1 => Ks [20, 23, 24, 25] m m1 ∧ (∀ a, a ≠ 37 → m1.1 a = (sV (sV (sV m 0 0 (iI 0)) 0 37 (iI (kT k n : Int))) 0 42 (iI (kH k n : Int))).1 a) ∧ ∀ j, j < 4 → m1.1 37 j = iI ((if j < i ∧ kO k n < kO k j then 0 else kO k j : Nat) : Int)) (fun x => ∃ m' : VM, x = some (iI 1, (ov 40 A (m') σ)) ∧ Ks [20, 23, 24, 25] m m' ∧ (∀ a, a ≠ 37 → m'.1 a = (sV (sV (sV m 0 0 (iI 0)) 0 37 (iI (kT k n : Int))) 0 42 (iI (kH k n : Int))).1 a) ∧ ∀ j, j < 4 → m'.1 37 j = iI ((if j < 4 ∧ kO k n < kO k j then 0 else kO k j : Nat) : Int)) 4 (fun i m1 hi hI ih => by
    obtain ⟨i1, i2, i3⟩ := hI
    obtain ⟨v, j1, j3⟩ := Md_mark3 H (f := kO k) (fun j hj => by have := hkO j hj; omega) hn i hi i3
    show ∃ m' : VM, L_Md_mark_3 _ _ _ _ = _ ∧ _
    rw [j1]
    exact ih _ ⟨Ks_A i1 _ _ (by decide), fun a ha => by rw [sV_ne _ _ _ _ ha]; exact i2 a ha, j3⟩) (fun m1 hI => by
    show ∃ m' : VM, L_Md_mark_3 _ _ _ _ = _ ∧ _
    refine ⟨m1, ?_, hI⟩
    rw [E_Md_mark_3]
    simp (disch := omega) only [l_4, l_1, iI_lt]
    rw [if_neg (by omega)]) 0 (sV (sV (sV m 0 0 (iI 0)) 0 37 (iI (kT k n : Int))) 0 42 (iI (kH k n : Int))) (Nat.zero_le _) ⟨hK0, fun _ _ => rfl, fun j hj => by
      simp (disch := decide) only [sV_eq, sW_eq, sV_ne, sW_ne, sV_2, sW_1, Nat.reduceEqDiff, ↓reduceIte]
      rw [if_neg (fun z => Nat.not_lt_zero _ z.1)]
      exact e2 j hj⟩
  obtain ⟨m', ee, k1, k2, k3⟩ := h
  replace ee : L_Md_mark_3 (A 0) (iI (n : Int)) (iI 0) (ov 40 A (sV (sV (sV m 0 0 (iI 0)) 0 37 (iI (kT k n : Int))) 0 42 (iI (kH k n : Int))) σ) = _ := ee
  refine ⟨m', ?_, ⟨H, hd, MT_k (k1 20 (by decide)) hT, bkB_wf hb hw, ⟨?_, ?_⟩, ?_, ?_, ?_, ?_⟩, ⟨?_, fun j hj => ?_, ?_, ?_⟩, k1⟩
  · unfold M_Md_mark
    rw [E_Md_mark_0]; simp (disch := omega) only [E_Md_mark_1, E_Md_mark_2, l_0, l_1, l_3, mK_0 H, mR_73 H, mK_37 H, mN_37 H, mR_74 H, mK_38 H, mN_38 H, mR_75 H, mK_39 H, mN_39 H, letT_eq, gd_true, bnd_some, aR_ov, aK_ov, aN_ov, okO_ov, aI_ov H.1, aL_ov H.1, sI_ov H.1, sL_ov H.1, sV_eq, sV_ne, sV_2, sW_eq, sW_ne, sW_1, iI_add, iI_sub, iI_mul, iI_neg, iI_lt, iI_eq, iI_cl, nI_iI, gd_in, bZ_0, bZ_1, bZ_eq, isB_bZ, isB_0, isB_1, nar_bZ, nar_0, nar_1, mw_ov, iI_s, iI_na, iI_nm, Int.toNat_natCast, Int.add_zero, Int.zero_add, Nat.reduceEqDiff, Nat.reduceAdd, Int.reduceAdd, Int.reduceNeg, Int.reduceSub, Int.reduceMul, Int.reduceLT, Int.reduceEq, Int.reduceToNat, reduceCtorEq, ↓reduceIte, hwi, e3n, e3 n hn, e4 n hn, ee]
    rw [if_neg (by omega), mw_ov]
  · rw [k2 0 (by decide)]; simp (disch := decide) only [sV_eq, sW_eq, sV_ne, sW_ne, sV_2, sW_1, Nat.reduceEqDiff, ↓reduceIte]; rfl
  · rw [k2 0 (by decide)]; simp (disch := decide) only [sV_eq, sW_eq, sV_ne, sW_ne, sV_2, sW_1, Nat.reduceEqDiff, ↓reduceIte]; rfl
  · rw [k2 21 (by decide)]; simp (disch := decide) only [sV_eq, sW_eq, sV_ne, sW_ne, sV_2, sW_1, Nat.reduceEqDiff, ↓reduceIte]; exact hB.2.1
  · rw [k2 22 (by decide)]; simp (disch := decide) only [sV_eq, sW_eq, sV_ne, sW_ne, sV_2, sW_1, Nat.reduceEqDiff, ↓reduceIte]; exact hB.2.2.1
  · rw [k2 23 (by decide)]; simp (disch := decide) only [sV_eq, sW_eq, sV_ne, sW_ne, sV_2, sW_1, Nat.reduceEqDiff, ↓reduceIte]; exact hB.2.2.2.1
  · rw [k2 24 (by decide)]; simp (disch := decide) only [sV_eq, sW_eq, sV_ne, sW_ne, sV_2, sW_1, Nat.reduceEqDiff, ↓reduceIte]; exact hB.2.2.2.2
  · rw [k2 0 (by decide)]; simp (disch := decide) only [sV_eq, sW_eq, sV_ne, sW_ne, sV_2, sW_1, Nat.reduceEqDiff, ↓reduceIte]; exact e1
  · rw [k3 j hj]
    show _ = iI ((if kO k n < kO k j then 0 else kO k j : Nat) : Int)
    by_cases c : kO k n < kO k j
    · rw [if_pos ⟨hj, c⟩, if_pos c]
    · rw [if_neg (fun z => c z.2), if_neg c]
  · rw [k2 38 (by decide)]; simp (disch := decide) only [sV_eq, sW_eq, sV_ne, sW_ne, sV_2, sW_1, Nat.reduceEqDiff, ↓reduceIte]; exact e3
  · rw [k2 39 (by decide)]; simp (disch := decide) only [sV_eq, sW_eq, sV_ne, sW_ne, sV_2, sW_1, Nat.reduceEqDiff, ↓reduceIte]; exact e4
