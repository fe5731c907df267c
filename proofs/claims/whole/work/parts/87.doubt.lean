/-! ===== trials told wrong, the class ===== -/
theorem q_Bk_hasTrial {A : Nat → Nat} {σ : AM} (H : LC A σ) {m : VM} {d : TD} {b : BD} (hb : wfB d b) (hB : CBk b m) {a : Int} (h1 : -2147483648 ≤ a) (h2 : a < 2147483648) : M_Bk_hasTrial (A 27) (iI a) (ov 68 A m σ) = some (bZ (decide (0 ≤ a ∧ a < (nT b : Int))), (ov 68 A m σ)) := by
  have hT := hb.1
  unfold M_Bk_hasTrial
  rw [E_Bk_hasTrial_0]; simp (disch := omega) only [E_Bk_hasTrial_1, E_Bk_hasTrial_2, l_0, l_1, cK_27 H, letT_eq, gd_true, bnd_some, aR_ov, aK_ov, aN_ov, okO_ov, aI_ov H.1, aL_ov H.1, sI_ov H.1, sL_ov H.1, sV_eq, sV_ne, sV_2, sW_eq, sW_ne, sW_1, iI_add, iI_sub, iI_mul, iI_neg, iI_lt, iI_eq, iI_cl, nI_iI, gd_in, bZ_0, bZ_1, bZ_eq, isB_bZ, isB_0, isB_1, nar_bZ, nar_0, nar_1, mw_ov, iI_s, iI_na, iI_nm, Int.toNat_natCast, Int.add_zero, Int.zero_add, Nat.reduceEqDiff, Nat.reduceAdd, Int.reduceAdd, Int.reduceNeg, Int.reduceSub, Int.reduceMul, Int.reduceLT, Int.reduceEq, Int.reduceToNat, reduceCtorEq, ↓reduceIte, hB.1.1]
  by_cases q : a < 0
  · rw [if_pos q, mw_ov, decide_eq_false (by omega)]; rfl
  · rw [if_neg q]
    by_cases q2 : a < (nT b : Int)
    · rw [if_pos q2, mw_ov, decide_eq_true (by omega)]; rfl
    · rw [if_neg q2, mw_ov, decide_eq_false (by omega)]; rfl
theorem q_Bk_setAt {A : Nat → Nat} {σ : AM} (H : LC A σ) {m : VM} {d : TD} {b : BD} (hb : wfB d b) (hB : CBk b m) {j : Nat} (hj : j < nT b) : M_Bk_setAt (A 27) (iI (j : Int)) (ov 68 A m σ) = some (iI (tS b j : Int), (ov 68 A m σ)) := by
  have hT := hb.1
  have h := q_Bk_hasTrial H hb hB (a := (j : Int)) (by omega) (by omega)
  rw [decide_eq_true (by omega)] at h
  unfold M_Bk_setAt
  rw [E_Bk_setAt_0]; simp (disch := omega) only [E_Bk_setAt_1, l_0, cK_27 H, cR_27_0 H, cK_28 H, cN_28 H, letT_eq, gd_true, bnd_some, aR_ov, aK_ov, aN_ov, okO_ov, aI_ov H.1, aL_ov H.1, sI_ov H.1, sL_ov H.1, sV_eq, sV_ne, sV_2, sW_eq, sW_ne, sW_1, iI_add, iI_sub, iI_mul, iI_neg, iI_lt, iI_eq, iI_cl, nI_iI, gd_in, bZ_0, bZ_1, bZ_eq, isB_bZ, isB_0, isB_1, nar_bZ, nar_0, nar_1, mw_ov, iI_s, iI_na, iI_nm, Int.toNat_natCast, Int.add_zero, Int.zero_add, Nat.reduceEqDiff, Nat.reduceAdd, Int.reduceAdd, Int.reduceNeg, Int.reduceSub, Int.reduceMul, Int.reduceLT, Int.reduceEq, Int.reduceToNat, reduceCtorEq, ↓reduceIte, h, hB.2.1 j (by omega)]
theorem q_Bk_rangAt {A : Nat → Nat} {σ : AM} (H : LC A σ) {m : VM} {d : TD} {b : BD} (hb : wfB d b) (hB : CBk b m) {j : Nat} (hj : j < nT b) : M_Bk_rangAt (A 27) (iI (j : Int)) (ov 68 A m σ) = some (bZ (tR b j), (ov 68 A m σ)) := by
  have hT := hb.1
  have h := q_Bk_hasTrial H hb hB (a := (j : Int)) (by omega) (by omega)
  rw [decide_eq_true (by omega)] at h
  unfold M_Bk_rangAt
  rw [E_Bk_rangAt_0]; simp (disch := omega) only [E_Bk_rangAt_1, E_Bk_rangAt_2, l_0, l_1, cK_27 H, cR_27_1 H, cK_29 H, cN_29 H, letT_eq, gd_true, bnd_some, aR_ov, aK_ov, aN_ov, okO_ov, aI_ov H.1, aL_ov H.1, sI_ov H.1, sL_ov H.1, sV_eq, sV_ne, sV_2, sW_eq, sW_ne, sW_1, iI_add, iI_sub, iI_mul, iI_neg, iI_lt, iI_eq, iI_cl, nI_iI, gd_in, bZ_0, bZ_1, bZ_eq, isB_bZ, isB_0, isB_1, nar_bZ, nar_0, nar_1, mw_ov, iI_s, iI_na, iI_nm, Int.toNat_natCast, Int.add_zero, Int.zero_add, Nat.reduceEqDiff, Nat.reduceAdd, Int.reduceAdd, Int.reduceNeg, Int.reduceSub, Int.reduceMul, Int.reduceLT, Int.reduceEq, Int.reduceToNat, reduceCtorEq, ↓reduceIte, h, hB.2.2.1 j (by omega)]
  cases tR b j <;> exact mw_ov _ _ _ _ _ _
def DV (d : TD) (b : BD) (m : VM) : Prop := m.1 61 7 = iI (fwN d b (NL d) : Int) ∧ m.2 61 8 = dSo d b (NL d) ∧ m.2 61 9 = dEv d b (NL d) ∧ ∀ v, v ≤ 60 → m.1 64 v = iI (wbN d b v (NL d) : Int)
theorem DV_K {d : TD} {b : BD} {m m' : VM} (h : Kg 4 m m') (k : DV d b m) : DV d b m' := by
  obtain ⟨a1, a2, a3, a4⟩ := k
  refine ⟨?_, ?_, ?_, ?_⟩
  · rw [h.1 (61, 7) (by decide)]; exact a1
  · rw [h.2.2.1 (61, 8) (by decide)]; exact a2
  · rw [h.2.2.1 (61, 9) (by decide)]; exact a3
  · rw [h.2.1 64 (by decide)]; exact a4
def DA (d : TD) (b : BD) (g : Nat) (m : VM) : Prop := ∃ a : Int, m.1 61 10 = iI a ∧ -1 ≤ a ∧ a ≤ g ∧ (a = g → DV d b m)
theorem Db_note1 {A : Nat → Nat} {σ : AM} (H : LC A σ) (m : VM) (x : Int64) (sh0 : Int32) (k : Nat) (hk : k < 6) : L_Db_note_1 (A 61) x sh0 (iI (plW (m.2 62) (m.2 63) x k : Int)) (iI (k : Int)) (ov 68 A m σ) = L_Db_note_1 (A 61) x sh0 (iI (plW (m.2 62) (m.2 63) x (k + 1) : Int)) (iI ((k + 1 : Nat) : Int)) (ov 68 A m σ) := by
  have p1 : pcl (m.2 62 k &&& (x ^^^ (-1))) ≤ 64 := cntN_le _ _
  have p2 : pcl (m.2 63 k &&& x) ≤ 64 := cntN_le _ _
  have es : plW (m.2 62) (m.2 63) x (k + 1) = plW (m.2 62) (m.2 63) x k + 2 ^ k * (pcl (m.2 62 k &&& (x ^^^ (-1))) + pcl (m.2 63 k &&& x)) := rfl
  have hsh := shl_iI (n := pcl (m.2 62 k &&& (x ^^^ (-1))) + pcl (m.2 63 k &&& x)) (by omega) hk
  rw [es, E_Db_note_1]
  simp (disch := omega) only [l_1, l_6, l_31, cK_61 H, cR_61_3 H, cK_62 H, cN_62 H, cR_61_4 H, cK_63 H, cN_63 H, okO_ov, aR_ov, aN_ov, gd_true, gd_in, iI_lt, iI_cl, Int.toNat_natCast, aL_ov H.1, q_JLong_bitCount, bnd_some, letT_eq, iI_add, iI_na, hsh, iI_s]
  rw [if_pos (by omega)]
theorem p_Db_note {A : Nat → Nat} {σ : AM} (H : LC A σ) (m : VM) (x : Int64) {s0 w f o : Nat} (hw : plW (m.2 62) (m.2 63) x 6 = w) (hw60 : w ≤ 60) (h7 : m.1 61 7 = iI (f : Int)) (hf : f ≤ 60) (h64 : m.1 64 w = iI (o : Int)) : ∃ m' : VM, M_Db_note (A 61) x (iI (s0 : Int)) (ov 68 A m σ) = some ((), (ov 68 A (m') σ)) ∧ Ks [0, 1, 2, 3, 5] m m' ∧ m'.2 62 = m.2 62 ∧ m'.2 63 = m.2 63 ∧ m'.1 61 10 = m.1 61 10 ∧ (∀ v, m'.1 64 v = if v = w then iI ((o + s0 : Nat) : Int) else m.1 64 v) ∧ m'.1 61 7 = iI ((if w < f then w else f : Nat) : Int) ∧ m'.2 61 8 = (if w < f then 0 ||| x else if w = f then m.2 61 8 ||| x else m.2 61 8) ∧ m'.2 61 9 = (if w < f then (-1) &&& x else if w = f then m.2 61 9 &&& x else m.2 61 9) := by
  have loop : ∀ r, L_Db_note_1 (A 61) x (iI (s0 : Int)) (iI (w : Int)) (iI 6) (ov 68 A m σ) = r → M_Db_note (A 61) x (iI (s0 : Int)) (ov 68 A m σ) = mw (ov 68 A m σ) r := by
    intro r hr
    have h := up_loop (fun k => L_Db_note_1 (A 61) x (iI (s0 : Int)) (iI (plW (m.2 62) (m.2 63) x k : Int)) (iI (k : Int)) (ov 68 A m σ)) 6 r (fun k hk ih => (Db_note1 H m x (iI (s0 : Int)) k hk).trans ih) (by
      show L_Db_note_1 _ _ _ (iI (plW (m.2 62) (m.2 63) x 6 : Int)) (iI 6) _ = r
      rw [hw]; exact hr) 0 (Nat.zero_le _)
    unfold M_Db_note
    rw [E_Db_note_0]
    simp only [l_0]
    exact congrArg (mw _) h
  have hK0 : Ks [0, 1, 2, 3, 5] m (sV m 64 w (iI ((o + s0 : Nat) : Int))) := Ks_A (Ks_r _ _) _ _ (by decide)
  by_cases c1 : w < f
  · refine ⟨sW (sW (sW (sW (sV (sV m 64 w (iI ((o + s0 : Nat) : Int))) 61 7 (iI (w : Int))) 61 8 0) 61 9 (-1)) 61 8 (0 ||| x)) 61 9 ((-1) &&& x), ?_, Ks_W (Ks_W (Ks_W (Ks_W (Ks_V hK0 _ (by decide)) _ (by decide)) _ (by decide)) _ (by decide)) _ (by decide), by simp (disch := decide) only [sV_eq, sW_eq, sV_ne, sW_ne, sV_2, sW_1, Nat.reduceEqDiff, ↓reduceIte], by simp (disch := decide) only [sV_eq, sW_eq, sV_ne, sW_ne, sV_2, sW_1, Nat.reduceEqDiff, ↓reduceIte], by simp (disch := decide) only [sV_eq, sW_eq, sV_ne, sW_ne, sV_2, sW_1, Nat.reduceEqDiff, ↓reduceIte], fun v => by simp (disch := decide) only [sV_eq, sW_eq, sV_ne, sW_ne, sV_2, sW_1, Nat.reduceEqDiff, ↓reduceIte], ?_, ?_, ?_⟩
    · rw [loop _ rfl, E_Db_note_1]
      simp (disch := omega) only [E_Db_note_2, E_Db_note_3, l_1, l_6, l_60, cK_61 H, cR_61_5 H, cK_64 H, cN_64 H, okO_ov, aR_ov, aN_ov, gd_true, gd_in, iI_lt, iI_eq, iI_cl, Int.toNat_natCast, aI_ov H.1, aL_ov H.1, sI_ov H.1, sL_ov H.1, sV_eq, sV_ne, sW_eq, sW_ne, sV_2, sW_1, letT_eq, iI_add, iI_na, h64, h7, Nat.reduceEqDiff, Int.reduceLT, ↓reduceIte]
      rw [if_neg (by omega), if_pos (by omega), mw_ov]
    · simp (disch := decide) only [sV_eq, sW_eq, sV_ne, sW_ne, sV_2, sW_1, Nat.reduceEqDiff, ↓reduceIte]; rw [if_pos c1]
    · simp (disch := decide) only [sV_eq, sW_eq, sV_ne, sW_ne, sV_2, sW_1, Nat.reduceEqDiff, ↓reduceIte]; rw [if_pos c1]
    · simp (disch := decide) only [sV_eq, sW_eq, sV_ne, sW_ne, sV_2, sW_1, Nat.reduceEqDiff, ↓reduceIte]; rw [if_pos c1]
  · by_cases c2 : w = f
    · refine ⟨sW (sW (sV m 64 w (iI ((o + s0 : Nat) : Int))) 61 8 (m.2 61 8 ||| x)) 61 9 (m.2 61 9 &&& x), ?_, Ks_W (Ks_W hK0 _ (by decide)) _ (by decide), by simp (disch := decide) only [sV_eq, sW_eq, sV_ne, sW_ne, sV_2, sW_1, Nat.reduceEqDiff, ↓reduceIte], by simp (disch := decide) only [sV_eq, sW_eq, sV_ne, sW_ne, sV_2, sW_1, Nat.reduceEqDiff, ↓reduceIte], by simp (disch := decide) only [sV_eq, sW_eq, sV_ne, sW_ne, sV_2, sW_1, Nat.reduceEqDiff, ↓reduceIte], fun v => by simp (disch := decide) only [sV_eq, sW_eq, sV_ne, sW_ne, sV_2, sW_1, Nat.reduceEqDiff, ↓reduceIte], ?_, ?_, ?_⟩
      · rw [loop _ rfl, E_Db_note_1]
        simp (disch := omega) only [E_Db_note_2, E_Db_note_3, l_1, l_6, l_60, cK_61 H, cR_61_5 H, cK_64 H, cN_64 H, okO_ov, aR_ov, aN_ov, gd_true, gd_in, iI_lt, iI_eq, iI_cl, Int.toNat_natCast, aI_ov H.1, aL_ov H.1, sI_ov H.1, sL_ov H.1, sV_eq, sV_ne, sW_eq, sW_ne, sV_2, sW_1, letT_eq, iI_add, iI_na, h64, h7, Nat.reduceEqDiff, Int.reduceLT, ↓reduceIte]
        rw [if_neg (by omega), if_neg (by omega), if_pos (by omega), mw_ov]
      · simp (disch := decide) only [sV_eq, sW_eq, sV_ne, sW_ne, sV_2, sW_1, Nat.reduceEqDiff, ↓reduceIte]; rw [if_neg c1]; exact h7
      · simp (disch := decide) only [sV_eq, sW_eq, sV_ne, sW_ne, sV_2, sW_1, Nat.reduceEqDiff, ↓reduceIte]; rw [if_neg c1, if_pos c2]
      · simp (disch := decide) only [sV_eq, sW_eq, sV_ne, sW_ne, sV_2, sW_1, Nat.reduceEqDiff, ↓reduceIte]; rw [if_neg c1, if_pos c2]
    · refine ⟨sV m 64 w (iI ((o + s0 : Nat) : Int)), ?_, hK0, by simp (disch := decide) only [sV_eq, sW_eq, sV_ne, sW_ne, sV_2, sW_1, Nat.reduceEqDiff, ↓reduceIte], by simp (disch := decide) only [sV_eq, sW_eq, sV_ne, sW_ne, sV_2, sW_1, Nat.reduceEqDiff, ↓reduceIte], by simp (disch := decide) only [sV_eq, sW_eq, sV_ne, sW_ne, sV_2, sW_1, Nat.reduceEqDiff, ↓reduceIte], fun v => by simp (disch := decide) only [sV_eq, sW_eq, sV_ne, sW_ne, sV_2, sW_1, Nat.reduceEqDiff, ↓reduceIte], ?_, ?_, ?_⟩
      · rw [loop _ rfl, E_Db_note_1]
        simp (disch := omega) only [E_Db_note_2, E_Db_note_3, l_1, l_6, l_60, cK_61 H, cR_61_5 H, cK_64 H, cN_64 H, okO_ov, aR_ov, aN_ov, gd_true, gd_in, iI_lt, iI_eq, iI_cl, Int.toNat_natCast, aI_ov H.1, aL_ov H.1, sI_ov H.1, sL_ov H.1, sV_eq, sV_ne, sW_eq, sW_ne, sV_2, sW_1, letT_eq, iI_add, iI_na, h64, h7, Nat.reduceEqDiff, Int.reduceLT, ↓reduceIte]
        rw [if_neg (by omega), if_neg (by omega), if_neg (by omega), mw_ov]
      · simp (disch := decide) only [sV_eq, sW_eq, sV_ne, sW_ne, sV_2, sW_1, Nat.reduceEqDiff, ↓reduceIte]; rw [if_neg c1]; exact h7
      · simp (disch := decide) only [sV_eq, sW_eq, sV_ne, sW_ne, sV_2, sW_1, Nat.reduceEqDiff, ↓reduceIte]; rw [if_neg c1, if_neg c2]
      · simp (disch := decide) only [sV_eq, sW_eq, sV_ne, sW_ne, sV_2, sW_1, Nat.reduceEqDiff, ↓reduceIte]; rw [if_neg c1, if_neg c2]
def noI (d : TD) (b : BD) (m0 : VM) (k : Nat) (m : VM) : Prop := Ks [0, 1, 2, 3, 5] m0 m ∧ m.1 61 10 = m0.1 61 10 ∧ (∀ s, s < 64 → pvN (m.2 62) 6 s = tlN b true (nT b) s) ∧ (∀ s, s < 64 → pvN (m.2 63) 6 s = tlN b false (nT b) s) ∧ m.1 61 7 = iI (fwN d b k : Int) ∧ m.2 61 8 = dSo d b k ∧ m.2 61 9 = dEv d b k ∧ ∀ v, v ≤ 60 → m.1 64 v = iI (wbN d b v k : Int)
theorem Db_ref3 {A : Nat → Nat} {σ : AM} (H : LC A σ) {m0 : VM} {d : TD} {b : BD} (hd : wfD d) (hD : LD d A σ) (hT : CTw d m0) (hb : wfB d b) (k : Nat) (m : VM) (hk : k < NL d) (hI : noI d b m0 k m) : ∃ m' : VM, noI d b m0 (k + 1) m' ∧ L_Db_refresh_3 (A 61) (iI (k : Int)) (ov 68 A m σ) = L_Db_refresh_3 (A 61) (iI ((k + 1 : Nat) : Int)) (ov 68 A (m') σ) := by
  obtain ⟨i1, i2, i3, i4, i5, i6, i7, i8⟩ := hI
  have hTm := CTw_K (i1 0 (by decide)) hT
  have hN := NL_le d
  have hW := hd.2.2.2.2.2.2
  have hw := plW_eq hb i3 i4 (LL d k)
  have hw60 := wr_le hb (LL d k)
  have hf := (fwN_le d b k).1
  obtain ⟨m', e, q1, q2, q3, q4, q5, q6, q7, q8⟩ := p_Db_note H m (LL d k) (s0 := sh d k) hw hw60 i5 hf (i8 _ hw60)
  refine ⟨m', ⟨Ks_t i1 q1, q4.trans i2, by rw [q2]; exact i3, by rw [q3]; exact i4, q6, ?_, ?_, fun v hv => ?_⟩, ?_⟩
  · rw [q7, i6]; rfl
  · rw [q8, i7]; rfl
  · rw [q5 v]
    unfold wbN
    rw [sumN_s]
    by_cases z : v = wr b (LL d k)
    · rw [if_pos z, z, if_pos rfl]
    · rw [if_neg z, if_neg (fun y => z y.symm)]; exact i8 v hv
  · rw [E_Db_refresh_3]; simp (disch := omega) only [l_1, cK_61 H, cR_61_1 H, cK_17 H, q_Ls_size H, letT_eq, gd_true, bnd_some, aR_ov, aK_ov, aN_ov, okO_ov, aI_ov H.1, aL_ov H.1, sI_ov H.1, sL_ov H.1, sV_eq, sV_ne, sV_2, sW_eq, sW_ne, sW_1, iI_add, iI_sub, iI_mul, iI_neg, iI_lt, iI_eq, iI_cl, nI_iI, gd_in, bZ_0, bZ_1, bZ_eq, isB_bZ, isB_0, isB_1, nar_bZ, nar_0, nar_1, mw_ov, iI_s, iI_na, iI_nm, Int.toNat_natCast, Int.add_zero, Int.zero_add, Nat.reduceEqDiff, Nat.reduceAdd, Int.reduceAdd, Int.reduceNeg, Int.reduceSub, Int.reduceMul, Int.reduceLT, Int.reduceEq, Int.reduceToNat, reduceCtorEq, ↓reduceIte, hTm.1.2.2.2.2.1, q_Ls_at H hd hD hTm hk, q_Ls_share H hd hD hTm hk, e]
    rw [if_pos (by omega)]
theorem tlN_le (b : BD) (r : Bool) (k s : Nat) : tlN b r k s ≤ k := cntN_le _ _
def tlI (b : BD) (m0 : VM) (k : Nat) (m : VM) : Prop := Ks [0, 1, 2, 3, 5] m0 m ∧ m.1 61 10 = m0.1 61 10 ∧ (∀ s, s < 64 → pvN (m.2 62) 6 s = tlN b true k s) ∧ (∀ s, s < 64 → pvN (m.2 63) 6 s = tlN b false k s)
theorem OnL_Ks {m m' : VM} {c : Nat} (hc : c = 62 ∨ c = 63 ∨ c = 40) (h1 : m'.1 = m.1) (h2 : ∀ a, a ≠ c → m'.2 a = m.2 a) : Ks [0, 1, 2, 3, 4, 5] m m' := fun g hg => by
  have n1 := (show ∀ g ∈ [0, 1, 2, 3, 4, 5], (∀ q ∈ gL g, q.1 ≠ 62 ∧ q.1 ≠ 63 ∧ q.1 ≠ 40) ∧ ∀ q ∈ gM g, q ≠ 62 ∧ q ≠ 63 ∧ q ≠ 40 by decide) g hg
  refine ⟨fun q _ => by rw [h1], fun q _ => by rw [h1], fun q hq => ?_, fun q hq => ?_⟩
  · rw [h2 q.1 (by have := n1.1 q hq; omega)]
  · exact h2 q (by have := n1.2 q hq; omega)
theorem Db_ref1 {A : Nat → Nat} {σ : AM} (H : LC A σ) {m0 : VM} {d : TD} {b : BD} (hb : wfB d b) (hB : CBk b m0) (k : Nat) (m : VM) (hk : k < nT b) (hI : tlI b m0 k m) : ∃ m' : VM, tlI b m0 (k + 1) m' ∧ L_Db_refresh_1 (A 61) (iI (k : Int)) (ov 68 A m σ) = L_Db_refresh_1 (A 61) (iI ((k + 1 : Nat) : Int)) (ov 68 A (m') σ) := by
  obtain ⟨i1, i2, i3, i4⟩ := hI
  have hBm := CBk_K (i1 0 (by decide)) hB
  have hn := hb.1
  have hs := hb.2.2.1 k (by omega)
  have bb : ∀ s, bt (b1 (tS b k)) s = decide (s = tS b k) := bt_b1 hs
  have hbit : ∀ r s, tlN b r (k + 1) s = tlN b r k s + if tR b k = r then bN (bt (b1 (tS b k)) s) else 0 := by
    intro r s
    unfold tlN bN
    rw [cntN_s, bb s]
    by_cases z : tR b k = r
    · by_cases y : s = tS b k
      · simp [z, y]
      · have y2 : ¬ tS b k = s := fun h => y h.symm
        simp [z, y, y2]
    · simp [z]
  cases q : tR b k
  · have hx := q_addTo H.1 (c := 63) (by decide) (H.2.2.1 (63, 102) (by decide)) (cN_63 H) (by decide) (b1 (tS b k)) (t := 0) (by decide) m (fun s hs => by
      rw [i4 s hs]
      have := tlN_le b false k s
      have : bN (bt (b1 (tS b k)) s) ≤ 1 := by unfold bN; split <;> omega
      show _ + 1 * _ < 64
      omega)
    obtain ⟨m', e, j1, j2, j3, j4⟩ := hx
    have hK := OnL_Ks (m := m) (m' := m') (c := 63) (Or.inr (Or.inl rfl)) j1 j2
    refine ⟨m', ⟨Ks_t i1 (Ks_sub hK (by decide)), by rw [j1]; exact i2, fun s hs => ?_, fun s hs => ?_⟩, ?_⟩
    · rw [j2 62 (by decide), i3 s hs, hbit true s, if_neg (by rw [q]; decide)]; rfl
    · rw [j4 s hs, i4 s hs, hbit false s, if_pos q]
      show _ + 1 * _ = _
      rw [Nat.one_mul]
    · replace e : M_St_addTo (A 63) (b1 (tS b k)) (iI 0) (ov 68 A m σ) = some ((), (ov 68 A (m') σ)) := e
      have hr := q_Bk_rangAt H hb hBm hk
      rw [q] at hr
      rw [E_Db_refresh_1]; simp (disch := omega) only [E_Db_refresh_2, l_0, l_1, l_60, cK_61 H, cR_61_2 H, cK_27 H, cR_61_3 H, cK_62 H, cN_62 H, cR_61_4 H, cK_63 H, cN_63 H, cR_61_5 H, cK_64 H, cN_64 H, q_Bk_trials H, letT_eq, gd_true, bnd_some, aR_ov, aK_ov, aN_ov, okO_ov, aI_ov H.1, aL_ov H.1, sI_ov H.1, sL_ov H.1, sV_eq, sV_ne, sV_2, sW_eq, sW_ne, sW_1, iI_add, iI_sub, iI_mul, iI_neg, iI_lt, iI_eq, iI_cl, nI_iI, gd_in, bZ_0, bZ_1, bZ_eq, isB_bZ, isB_0, isB_1, nar_bZ, nar_0, nar_1, mw_ov, iI_s, iI_na, iI_nm, Int.toNat_natCast, Int.add_zero, Int.zero_add, Nat.reduceEqDiff, Nat.reduceAdd, Int.reduceAdd, Int.reduceNeg, Int.reduceSub, Int.reduceMul, Int.reduceLT, Int.reduceEq, Int.reduceToNat, reduceCtorEq, ↓reduceIte, hBm.1.1, hr, q_Bk_setAt H hb hBm hk, shl_b1 hs, e]
      rw [if_pos (by omega)]
  · have hx := q_addTo H.1 (c := 62) (by decide) (H.2.2.1 (62, 102) (by decide)) (cN_62 H) (by decide) (b1 (tS b k)) (t := 0) (by decide) m (fun s hs => by
      rw [i3 s hs]
      have := tlN_le b true k s
      have : bN (bt (b1 (tS b k)) s) ≤ 1 := by unfold bN; split <;> omega
      show _ + 1 * _ < 64
      omega)
    obtain ⟨m', e, j1, j2, j3, j4⟩ := hx
    have hK := OnL_Ks (m := m) (m' := m') (c := 62) (Or.inl rfl) j1 j2
    refine ⟨m', ⟨Ks_t i1 (Ks_sub hK (by decide)), by rw [j1]; exact i2, fun s hs => ?_, fun s hs => ?_⟩, ?_⟩
    · rw [j4 s hs, i3 s hs, hbit true s, if_pos q]
      show _ + 1 * _ = _
      rw [Nat.one_mul]
    · rw [j2 63 (by decide), i4 s hs, hbit false s, if_neg (by rw [q]; decide)]; rfl
    · replace e : M_St_addTo (A 62) (b1 (tS b k)) (iI 0) (ov 68 A m σ) = some ((), (ov 68 A (m') σ)) := e
      have hr := q_Bk_rangAt H hb hBm hk
      rw [q] at hr
      rw [E_Db_refresh_1]; simp (disch := omega) only [E_Db_refresh_2, l_0, l_1, l_60, cK_61 H, cR_61_2 H, cK_27 H, cR_61_3 H, cK_62 H, cN_62 H, cR_61_4 H, cK_63 H, cN_63 H, cR_61_5 H, cK_64 H, cN_64 H, q_Bk_trials H, letT_eq, gd_true, bnd_some, aR_ov, aK_ov, aN_ov, okO_ov, aI_ov H.1, aL_ov H.1, sI_ov H.1, sL_ov H.1, sV_eq, sV_ne, sV_2, sW_eq, sW_ne, sW_1, iI_add, iI_sub, iI_mul, iI_neg, iI_lt, iI_eq, iI_cl, nI_iI, gd_in, bZ_0, bZ_1, bZ_eq, isB_bZ, isB_0, isB_1, nar_bZ, nar_0, nar_1, mw_ov, iI_s, iI_na, iI_nm, Int.toNat_natCast, Int.add_zero, Int.zero_add, Nat.reduceEqDiff, Nat.reduceAdd, Int.reduceAdd, Int.reduceNeg, Int.reduceSub, Int.reduceMul, Int.reduceLT, Int.reduceEq, Int.reduceToNat, reduceCtorEq, ↓reduceIte, hBm.1.1, hr, q_Bk_setAt H hb hBm hk, shl_b1 hs, e]
      rw [if_pos (by omega)]
theorem pv_0 (m : VM) (c s : Nat) : pvN ((fillW m c 6 0).2 c) 6 s = 0 := by
  have : ∀ k, k ≤ 6 → pvN ((fillW m c 6 0).2 c) k s = 0 := by
    intro k
    induction k with
    | zero => intro _; rfl
    | succ k ih =>
      intro hk
      unfold pvN
      rw [sumN_s]
      have e : (fillW m c 6 0).2 c k = 0 := by rw [fillW_at, if_pos (by omega)]
      rw [e, bt_0, if_neg (by decide)]
      exact ih (by omega)
  exact this 6 (Nat.le_refl _)
theorem p_Db_refresh {d : TD} {b : BD} {g z u : Nat} {A : Nat → Nat} {σ : AM} {m : VM} (C : CS0 d b g z u A σ m) (hA : DA d b g m) : ∃ m' : VM, M_Db_refresh (A 61) (ov 68 A m σ) = some ((), (ov 68 A (m') σ)) ∧ Ks [0, 1, 2, 3, 5] m m' ∧ m'.1 61 10 = iI (g : Int) ∧ DV d b m' := by
  obtain ⟨H, hd, hD, _, hT, hb, hB, h10, hg, _⟩ := C
  obtain ⟨a, ha, ha1, ha2, hv⟩ := hA
  have hN := NL_le d
  have hW := hd.2.2.2.2.2.2
  unfold M_Db_refresh
  by_cases q : a = g
  · refine ⟨m, ?_, Ks_r _ _, by rw [ha, q], hv q⟩
    rw [E_Db_refresh_0]; simp (disch := omega) only [l_0, cK_61 H, cR_61_2 H, cK_27 H, cR_61_3 H, cK_62 H, cN_62 H, cR_61_4 H, cK_63 H, cN_63 H, q_Bk_age H, letT_eq, gd_true, bnd_some, aR_ov, aK_ov, aN_ov, okO_ov, aI_ov H.1, aL_ov H.1, sI_ov H.1, sL_ov H.1, sV_eq, sV_ne, sV_2, sW_eq, sW_ne, sW_1, iI_add, iI_sub, iI_mul, iI_neg, iI_lt, iI_eq, iI_cl, nI_iI, gd_in, bZ_0, bZ_1, bZ_eq, isB_bZ, isB_0, isB_1, nar_bZ, nar_0, nar_1, mw_ov, iI_s, iI_na, iI_nm, Int.toNat_natCast, Int.add_zero, Int.zero_add, Nat.reduceEqDiff, Nat.reduceAdd, Int.reduceAdd, Int.reduceNeg, Int.reduceSub, Int.reduceMul, Int.reduceLT, Int.reduceEq, Int.reduceToNat, reduceCtorEq, ↓reduceIte, ha, h10]
    rw [if_pos q, mw_ov]
  · have f1 := q_fill H.1 (sV m 61 10 (iI (g : Int))) (c := 62) (by decide) (H.2.2.1 (62, 102) (by decide)) (by rw [cN_62 H]; decide) 0
    rw [cN_62 H] at f1
    have f2 := q_fill H.1 (fillW (sV m 61 10 (iI (g : Int))) 62 6 0) (c := 63) (by decide) (H.2.2.1 (63, 102) (by decide)) (by rw [cN_63 H]; decide) 0
    rw [cN_63 H] at f2
    have hK0 : Ks [0, 1, 2, 3, 5] m (fillW (fillW (sV m 61 10 (iI (g : Int))) 62 6 0) 63 6 0) := Ks_fW (Ks_fW (Ks_V (Ks_r _ _) _ (by decide)) _ _ (by decide)) _ _ (by decide)
    have l3 : ∀ m1, tlI b (sV m 61 10 (iI (g : Int))) (nT b) m1 → ∃ m' : VM, L_Db_refresh_1 (A 61) (iI (nT b : Int)) (ov 68 A m1 σ) = some ((), (ov 68 A (m') σ)) ∧ Ks [0, 1, 2, 3, 5] m m' ∧ m'.1 61 10 = iI (g : Int) ∧ DV d b m' := by
      intro m1 hI
      obtain ⟨i1, i2, i3, i4⟩ := hI
      have hKm : Ks [0, 1, 2, 3, 5] m m1 := Ks_t (Ks_V (Ks_r _ _) _ (by decide)) i1
      have hBm := CBk_K (hKm 0 (by decide)) hB
      have f3 := q_fill2 H.1 m1 (c := 64) (by decide) (H.2.2.1 (64, 101) (by decide)) (by rw [cN_64 H]; decide) (iI 0)
      rw [cN_64 H] at f3
      have hst : noI d b (sV m 61 10 (iI (g : Int))) 0 (sW (sW (sV (fillV m1 64 61 (iI 0)) 61 7 (iI 60)) 61 8 0) 61 9 (-1)) := by
        refine ⟨Ks_W (Ks_W (Ks_V (Ks_fV i1 _ _ (by decide)) _ (by decide)) _ (by decide)) _ (by decide), ?_, ?_, ?_, by simp (disch := decide) only [sV_eq, sW_eq, sV_ne, sW_ne, sV_2, sW_1, Nat.reduceEqDiff, ↓reduceIte]; rfl, by simp (disch := decide) only [sV_eq, sW_eq, sV_ne, sW_ne, sV_2, sW_1, Nat.reduceEqDiff, ↓reduceIte]; rfl, by simp (disch := decide) only [sV_eq, sW_eq, sV_ne, sW_ne, sV_2, sW_1, Nat.reduceEqDiff, ↓reduceIte]; rfl, fun v hv => ?_⟩
        · simp (disch := decide) only [sV_eq, sW_eq, sV_ne, sW_ne, sV_2, sW_1, Nat.reduceEqDiff, ↓reduceIte]; rw [fillV_ne _ _ _ _ (by decide)]; exact i2
        · simp (disch := decide) only [sV_eq, sW_eq, sV_ne, sW_ne, sV_2, sW_1, Nat.reduceEqDiff, ↓reduceIte]; exact i3
        · simp (disch := decide) only [sV_eq, sW_eq, sV_ne, sW_ne, sV_2, sW_1, Nat.reduceEqDiff, ↓reduceIte]; exact i4
        · simp (disch := decide) only [sV_eq, sW_eq, sV_ne, sW_ne, sV_2, sW_1, Nat.reduceEqDiff, ↓reduceIte]; rw [fillV_at, if_pos (by omega)]; rfl
      have hl := up_loopI (fun k mm => L_Db_refresh_3 (A 61) (iI (k : Int)) (ov 68 A mm σ)) (noI d b (sV m 61 10 (iI (g : Int)))) (fun x => ∃ m' : VM, x = some ((), (ov 68 A (m') σ)) ∧ Ks [0, 1, 2, 3, 5] m m' ∧ m'.1 61 10 = iI (g : Int) ∧ DV d b m') (NL d) (fun k mm hk hJ ih => by
        obtain ⟨m2, j1, j2⟩ := Db_ref3 H hd hD (CTw_K (Ks_V (gs := [0]) (Ks_r _ _) _ (by decide) 0 (by decide)) hT) hb k mm hk hJ
        show ∃ m' : VM, L_Db_refresh_3 _ _ _ = _ ∧ _
        rw [j2]
        exact ih m2 j1) (fun mm hJ => by
        obtain ⟨j1, j2, j3, j4, j5, j6, j7, j8⟩ := hJ
        have hKmm : Ks [0, 1, 2, 3, 5] m mm := Ks_t (Ks_V (Ks_r _ _) _ (by decide)) j1
        have hTm := CTw_K (hKmm 0 (by decide)) hT
        show ∃ m' : VM, L_Db_refresh_3 _ _ _ = _ ∧ _
        refine ⟨mm, ?_, hKmm, by rw [j2]; simp (disch := decide) only [sV_eq, sW_eq, sV_ne, sW_ne, sV_2, sW_1, Nat.reduceEqDiff, ↓reduceIte], j5, j6, j7, j8⟩
        rw [E_Db_refresh_3]
        simp (disch := omega) only [cK_61 H, cR_61_1 H, cK_17 H, okO_ov, aR_ov, gd_true, q_Ls_size H, bnd_some, hTm.1.2.2.2.2.1, iI_lt]
        rw [if_neg (by omega)]) 0 _ (Nat.zero_le _) hst
      obtain ⟨m', e, qq⟩ := hl
      refine ⟨m', ?_, qq⟩
      replace e : L_Db_refresh_3 (A 61) (iI 0) (ov 68 A (sW (sW (sV (fillV m1 64 61 (iI 0)) 61 7 (iI 60)) 61 8 0) 61 9 (-1)) σ) = _ := e
      rw [← e, E_Db_refresh_1]
      have hnT := hb.1
      simp (disch := omega) only [cK_61 H, cR_61_2 H, cK_27 H, cR_61_5 H, cK_64 H, okO_ov, aR_ov, gd_true, q_Bk_trials H, bnd_some, hBm.1.1, iI_lt, l_0, l_60, f3, sI_ov H.1, sL_ov H.1, letT_eq]
      rw [if_neg (by omega)]
    have hl1 := up_loopI (fun k mm => L_Db_refresh_1 (A 61) (iI (k : Int)) (ov 68 A mm σ)) (tlI b (sV m 61 10 (iI (g : Int)))) (fun x => ∃ m' : VM, x = some ((), (ov 68 A (m') σ)) ∧ Ks [0, 1, 2, 3, 5] m m' ∧ m'.1 61 10 = iI (g : Int) ∧ DV d b m') (nT b) (fun k mm hk hI ih => by
      obtain ⟨m2, j1, j2⟩ := Db_ref1 H hb (CBk_K (Ks_V (gs := [0]) (Ks_r _ _) _ (by decide) 0 (by decide)) hB) k mm hk hI
      show ∃ m' : VM, L_Db_refresh_1 _ _ _ = _ ∧ _
      rw [j2]
      exact ih m2 j1) (fun mm hI => l3 mm hI) 0 (fillW (fillW (sV m 61 10 (iI (g : Int))) 62 6 0) 63 6 0) (Nat.zero_le _) ⟨Ks_fW (Ks_fW (Ks_r _ _) _ _ (by decide)) _ _ (by decide), by simp only [fillW_1], fun s hs => by rw [fillW_ne _ _ _ _ (by decide), pv_0]; rfl, fun s hs => by rw [pv_0]; rfl⟩
    obtain ⟨m', e, qq⟩ := hl1
    refine ⟨m', ?_, qq⟩
    replace e : L_Db_refresh_1 (A 61) (iI 0) (ov 68 A (fillW (fillW (sV m 61 10 (iI (g : Int))) 62 6 0) 63 6 0) σ) = _ := e
    rw [E_Db_refresh_0]
    simp (disch := omega) only [cK_61 H, cR_61_2 H, cK_27 H, cR_61_3 H, cK_62 H, cR_61_4 H, cK_63 H, okO_ov, aR_ov, gd_true, q_Bk_age H, bnd_some, aI_ov H.1, ha, h10, iI_eq, if_neg q, sI_ov H.1, letT_eq, f1, f2, l_0]
    exact (congrArg (mw _) e).trans (mw_ov _ _ _ _ _ _)
