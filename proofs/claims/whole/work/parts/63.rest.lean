/-! ===== what is left, on the other side ===== -/
def pot (n : Nat) : Nat := if n = 16384 then 49152 else 2 * n
/-- the room taken so far, against the lengths of the arrays that grow -/
def RmI (z u : Nat) (A : Nat → Nat) (σ : AM) : Prop := aZ σ ≤ z ∧ aU σ ≤ u + 4 * pot (aN σ (A 21)) + 2 * aN σ (A 25) + 2 * aN σ (A 26) + 2 * pot (aN σ (A 38)) ∧ aN σ (A 21) ≤ 16384 ∧ aN σ (A 25) ≤ 32768 ∧ aN σ (A 26) ≤ 15616 ∧ aN σ (A 38) ≤ aN σ (A 21) ∧ (aN σ (A 38) < aN σ (A 21) → 2 * aN σ (A 38) ≤ aN σ (A 21) ∨ aN σ (A 21) = 16384) ∧ ∃ k, k ≤ 15 ∧ aN σ (A 25) = 2 ^ k
theorem fit_if {α : Type} (b : BD) (x : Int64) (X Y : α) : (if x &&& mustN b = 0 then (if (x ^^^ (-1)) &&& must b = 0 then (if fitH b x = false then Y else X) else Y) else Y) = if fitL b x = true then X else Y := by
  unfold fitL fitT
  by_cases q : x &&& mustN b = 0
  · by_cases r : (x ^^^ (-1)) &&& must b = 0
    · rw [if_pos q, if_pos r, decide_eq_true q, decide_eq_true r]
      cases fitH b x <;> simp
    · rw [if_pos q, if_neg r, decide_eq_false r]; simp
  · rw [if_neg q, decide_eq_false q]; simp
theorem q_Rs_keep {A : Nat → Nat} {σ : AM} (H : LC A σ) {m : VM} {d : TD} (hd : wfD d) (hD : LD d A σ) (hm : CTw d m) {k n w : Nat} (hk : k < NL d) (h5 : m.1 35 5 = iI (n : Int)) (hn : n < aN σ (A 38)) (hz : aN σ (A 38) ≤ 16384) (h6 : m.1 35 6 = iI (w : Int)) (x : Int64) : M_Rs_keep (A 35) (iI (k : Int)) x (ov 68 A m σ) = some ((), (ov 68 A (sW (sW (sV (sV (sV m 38 n (iI (k : Int))) 35 5 (iI ((n + 1 : Nat) : Int))) 35 6 (iI ((w + sh d k : Nat) : Int))) 35 7 (m.2 35 7 ||| x)) 35 8 (m.2 35 8 &&& x)) σ)) := by
  unfold M_Rs_keep
  have hs := q_Ls_share H hd hD (m := sV (sV m 38 n (iI (k : Int))) 35 5 (iI ((n + 1 : Nat) : Int))) (CTw_K (Ks_V (gs := [0]) (Ks_A (Ks_r _ _) _ _ (by decide)) _ (by decide) 0 (by decide)) hm) hk
  rw [E_Rs_keep_0]; simp (disch := omega) only [l_1, cK_35 H, cR_35_0 H, cK_17 H, cR_35_4 H, cK_38 H, letT_eq, gd_true, bnd_some, aR_ov, aK_ov, aN_ov, okO_ov, aI_ov H.1, aL_ov H.1, sI_ov H.1, sL_ov H.1, sV_eq, sV_ne, sV_2, sW_eq, sW_ne, sW_1, iI_add, iI_sub, iI_mul, iI_neg, iI_lt, iI_eq, iI_cl, nI_iI, gd_in, bZ_0, bZ_1, bZ_eq, isB_bZ, isB_0, isB_1, nar_bZ, nar_0, nar_1, mw_ov, iI_s, iI_na, iI_nm, Int.toNat_natCast, Int.add_zero, Int.zero_add, Nat.reduceEqDiff, Nat.reduceAdd, Int.reduceAdd, Int.reduceNeg, Int.reduceSub, Int.reduceMul, Int.reduceLT, Int.reduceEq, Int.reduceToNat, reduceCtorEq, ↓reduceIte, h5, h6, hs]
def restI (d : TD) (b : BD) (m0 : VM) (k : Nat) (m : VM) : Prop := Ks [0, 2, 3, 4, 5] m0 m ∧ m.1 35 9 = m0.1 35 9 ∧ m.1 35 5 = iI ((flt (fitK d b) k).length : Int) ∧ m.1 35 6 = iI (sumN k (fun k => if fitK d b k = true then sh d k else 0) : Int) ∧ m.2 35 7 = som d b k ∧ m.2 35 8 = evr d b k ∧ Row (m.1 38) (flt (fitK d b) k) ∧ ∀ j, j < k → m.1 37 j = bZ (fitK d b j)
theorem Rs_refresh2 {A : Nat → Nat} {σ : AM} (H : LC A σ) {m0 : VM} {d : TD} {b : BD} (hd : wfD d) (hD : LD d A σ) (hT : CTw d m0) (hb : wfB d b) (hB : CBk b m0) (hR : NL d ≤ aN σ (A 38)) (hz : aN σ (A 38) ≤ 16384) (k : Nat) (m : VM) (hk : k < NL d) (hI : restI d b m0 k m) : ∃ m' : VM, restI d b m0 (k + 1) m' ∧ L_Rs_refresh_2 (A 35) (must b) (mustN b) (iI (k : Int)) (ov 68 A m σ) = L_Rs_refresh_2 (A 35) (must b) (mustN b) (iI ((k + 1 : Nat) : Int)) (ov 68 A (m') σ) := by
  obtain ⟨i1, i2, i3, i4, i5, i6, i7, i8⟩ := hI
  have hTm := CTw_K (i1 0 (by decide)) hT
  have hBm := CBk_K (i1 0 (by decide)) hB
  have hN := NL_le d
  have h37 := H.2.2.2.2.2.2.2.1
  have hle := flt_le (fitK d b) k
  have hat := q_Ls_at H hd hD hTm hk
  have hh := q_Bk_hintsHold H hb hBm (LL d k)
  cases q : fitK d b k
  · refine ⟨sV m 37 k (iI 0), ⟨Ks_A i1 _ _ (by decide), ?_, ?_, ?_, ?_, ?_, ?_, ?_⟩, ?_⟩
    · simp (disch := decide) only [sV_eq, sW_eq, sV_ne, sW_ne, sV_2, sW_1, Nat.reduceEqDiff, ↓reduceIte]; exact i2
    · simp (disch := decide) only [sV_eq, sW_eq, sV_ne, sW_ne, sV_2, sW_1, Nat.reduceEqDiff, ↓reduceIte]; rw [flt_s, q, if_neg (by simp)]; exact i3
    · simp (disch := decide) only [sV_eq, sW_eq, sV_ne, sW_ne, sV_2, sW_1, Nat.reduceEqDiff, ↓reduceIte]; rw [sumN_s, q, if_neg (by simp)]; exact i4
    · rw [sV_2, i5, som, q, if_neg (by simp)]
    · rw [sV_2, i6, evr, q, if_neg (by simp)]
    · rw [sV_ne _ _ _ _ (by decide), flt_s, q, if_neg (by simp)]; exact i7
    · intro j hj
      rw [sV_eq]
      by_cases e : j = k
      · rw [if_pos e, e, q]; rfl
      · rw [if_neg e]; exact i8 j (by omega)
    · rw [E_Rs_refresh_2]; simp (disch := omega) only [E_Rs_refresh_3, E_Rs_refresh_4, E_Rs_refresh_5, l_0, l_1, cK_35 H, cR_35_0 H, cK_17 H, cR_35_1 H, cK_27 H, cR_35_3 H, cK_37 H, cN_37 H, q_Ls_size H, letT_eq, gd_true, bnd_some, aR_ov, aK_ov, aN_ov, okO_ov, aI_ov H.1, aL_ov H.1, sI_ov H.1, sL_ov H.1, sV_eq, sV_ne, sV_2, sW_eq, sW_ne, sW_1, iI_add, iI_sub, iI_mul, iI_neg, iI_lt, iI_eq, iI_cl, nI_iI, gd_in, bZ_0, bZ_1, bZ_eq, isB_bZ, isB_0, isB_1, nar_bZ, nar_0, nar_1, mw_ov, iI_s, iI_na, iI_nm, Int.toNat_natCast, Int.add_zero, Int.zero_add, Nat.reduceEqDiff, Nat.reduceAdd, Int.reduceAdd, Int.reduceNeg, Int.reduceSub, Int.reduceMul, Int.reduceLT, Int.reduceEq, Int.reduceToNat, reduceCtorEq, ↓reduceIte, hTm.1.2.2.2.2.1, hat, hh, lgc0]
      rw [if_pos (by omega), fit_if, show fitL b (LL d k) = false from q, if_neg (by simp)]
  · have hT2 : CTw d (sV m 37 k (iI 1)) := CTw_K (Ks_A (gs := [0]) (Ks_sub i1 (by decide)) _ _ (by decide) 0 (by decide)) hT
    have hkp := q_Rs_keep H hd hD hT2 hk (n := (flt (fitK d b) k).length) (w := sumN k (fun k => if fitK d b k = true then sh d k else 0)) (by simp (disch := decide) only [sV_eq, sW_eq, sV_ne, sW_ne, sV_2, sW_1, Nat.reduceEqDiff, ↓reduceIte]; exact i3) (by omega) hz (by simp (disch := decide) only [sV_eq, sW_eq, sV_ne, sW_ne, sV_2, sW_1, Nat.reduceEqDiff, ↓reduceIte]; exact i4) (LL d k)
    simp only [sV_2, i5, i6] at hkp
    refine ⟨sW (sW (sV (sV (sV (sV m 37 k (iI 1)) 38 (flt (fitK d b) k).length (iI (k : Int))) 35 5 (iI (((flt (fitK d b) k).length + 1 : Nat) : Int))) 35 6 (iI ((sumN k (fun k => if fitK d b k = true then sh d k else 0) + sh d k : Nat) : Int))) 35 7 (som d b k ||| LL d k)) 35 8 (evr d b k &&& LL d k), ⟨Ks_W (Ks_W (Ks_V (Ks_V (Ks_A (Ks_A i1 _ _ (by decide)) _ _ (by decide)) _ (by decide)) _ (by decide)) _ (by decide)) _ (by decide), ?_, ?_, ?_, ?_, ?_, ?_, ?_⟩, ?_⟩
    · simp (disch := decide) only [sV_eq, sW_eq, sV_ne, sW_ne, sV_2, sW_1, Nat.reduceEqDiff, ↓reduceIte]; exact i2
    · simp (disch := decide) only [sV_eq, sW_eq, sV_ne, sW_ne, sV_2, sW_1, Nat.reduceEqDiff, ↓reduceIte]; rw [flt_s, q, if_pos rfl, List.length_append]; rfl
    · simp (disch := decide) only [sV_eq, sW_eq, sV_ne, sW_ne, sV_2, sW_1, Nat.reduceEqDiff, ↓reduceIte]; rw [sumN_s, q, if_pos rfl]
    · simp (disch := decide) only [sV_eq, sW_eq, sV_ne, sW_ne, sV_2, sW_1, Nat.reduceEqDiff, ↓reduceIte]; rw [som, q, if_pos rfl]
    · simp (disch := decide) only [sV_eq, sW_eq, sV_ne, sW_ne, sV_2, sW_1, Nat.reduceEqDiff, ↓reduceIte]; rw [evr, q, if_pos rfl]
    · rw [flt_s, q, if_pos rfl]
      refine Row_app i7 fun i => ?_
      rw [sW_1, sW_1, sV_ne _ _ _ _ (by decide), sV_ne _ _ _ _ (by decide), sV_eq, sV_ne _ _ _ _ (by decide)]
    · intro j hj
      rw [sW_1, sW_1, sV_ne _ _ _ _ (by decide), sV_ne _ _ _ _ (by decide), sV_ne _ _ _ _ (by decide), sV_eq]
      by_cases e : j = k
      · rw [if_pos e, e, q]; rfl
      · rw [if_neg e]; exact i8 j (by omega)
    · rw [E_Rs_refresh_2]; simp (disch := omega) only [E_Rs_refresh_3, E_Rs_refresh_4, E_Rs_refresh_5, l_0, l_1, cK_35 H, cR_35_0 H, cK_17 H, cR_35_1 H, cK_27 H, cR_35_3 H, cK_37 H, cN_37 H, q_Ls_size H, letT_eq, gd_true, bnd_some, aR_ov, aK_ov, aN_ov, okO_ov, aI_ov H.1, aL_ov H.1, sI_ov H.1, sL_ov H.1, sV_eq, sV_ne, sV_2, sW_eq, sW_ne, sW_1, iI_add, iI_sub, iI_mul, iI_neg, iI_lt, iI_eq, iI_cl, nI_iI, gd_in, bZ_0, bZ_1, bZ_eq, isB_bZ, isB_0, isB_1, nar_bZ, nar_0, nar_1, mw_ov, iI_s, iI_na, iI_nm, Int.toNat_natCast, Int.add_zero, Int.zero_add, Nat.reduceEqDiff, Nat.reduceAdd, Int.reduceAdd, Int.reduceNeg, Int.reduceSub, Int.reduceMul, Int.reduceLT, Int.reduceEq, Int.reduceToNat, reduceCtorEq, ↓reduceIte, hTm.1.2.2.2.2.1, hat, hh, lgc0, hkp]
      rw [if_pos (by omega), fit_if, show fitL b (LL d k) = true from q, if_pos rfl]
theorem Rs_refresh3 {A : Nat → Nat} {σ : AM} (H : LC A σ) {m : VM} {n : Nat} (hn : n < 2147483648) (h : m.1 17 11 = iI (n : Int)) (x y : Int64) : L_Rs_refresh_2 (A 35) x y (iI (n : Int)) (ov 68 A m σ) = some ((), (ov 68 A m σ)) := by
  have hs : M_Ls_size (A 17) (ov 68 A m σ) = some (iI (n : Int), (ov 68 A m σ)) := by
    unfold M_Ls_size
    rw [E_Ls_size_0]; simp (disch := omega) only [cK_17 H, letT_eq, gd_true, bnd_some, aR_ov, aK_ov, aN_ov, okO_ov, aI_ov H.1, aL_ov H.1, sI_ov H.1, sL_ov H.1, sV_eq, sV_ne, sV_2, sW_eq, sW_ne, sW_1, iI_add, iI_sub, iI_mul, iI_neg, iI_lt, iI_eq, iI_cl, nI_iI, gd_in, bZ_0, bZ_1, bZ_eq, isB_bZ, isB_0, isB_1, nar_bZ, nar_0, nar_1, mw_ov, iI_s, iI_na, iI_nm, Int.toNat_natCast, Int.add_zero, Int.zero_add, Nat.reduceEqDiff, Nat.reduceAdd, Int.reduceAdd, Int.reduceNeg, Int.reduceSub, Int.reduceMul, Int.reduceLT, Int.reduceEq, Int.reduceToNat, reduceCtorEq, ↓reduceIte, h]
  rw [E_Rs_refresh_2]
  simp (disch := omega) only [cK_35 H, cR_35_0 H, okO_ov, aR_ov, gd_true, cK_17 H, bnd_some, hs, iI_lt]
  rw [if_neg (by omega)]
theorem Rs_refresh1 {A : Nat → Nat} {σ : AM} (H : LC A σ) {m : VM} {d : TD} {b : BD} (hd : wfD d) (hD : LD d A σ) (hT : CTw d m) (hb : wfB d b) (hB : CBk b m) (hR : NL d ≤ aN σ (A 38)) (hz : aN σ (A 38) ≤ 16384) : ∃ m' : VM, L_Rs_refresh_1 (A 35) (ov 68 A m σ) = some ((), (ov 68 A (m') σ)) ∧ Ks [0, 2, 3, 4, 5] m m' ∧ m'.1 35 9 = m.1 35 9 ∧ RV d b m' := by
  have hN := NL_le d
  have hW := hd.2.2.2.2.2.2
  have h := up_loopI (fun k m1 => L_Rs_refresh_2 (A 35) (must b) (mustN b) (iI (k : Int)) (ov 68 A m1 σ)) (restI d b m) (fun x => ∃ m' : VM, x = some ((), (ov 68 A (m') σ)) ∧ restI d b m (NL d) m') (NL d) (fun k m1 hk hI ih => by
    obtain ⟨m2, j1, j2⟩ := Rs_refresh2 H hd hD hT hb hB hR hz k m1 hk hI
    show ∃ m' : VM, L_Rs_refresh_2 _ _ _ _ _ = _ ∧ _
    rw [j2]
    exact ih m2 j1) (fun m1 hI => ⟨m1, Rs_refresh3 H (by omega) ((CTw_K (hI.1 0 (by decide)) hT).1.2.2.2.2.1) _ _, hI⟩) 0 (sW (sW (sV (sV m 35 5 (iI 0)) 35 6 (iI 0)) 35 7 0) 35 8 (-1)) (Nat.zero_le _) ⟨Ks_W (Ks_W (Ks_V (Ks_V (Ks_r _ _) _ (by decide)) _ (by decide)) _ (by decide)) _ (by decide), by simp (disch := decide) only [sV_eq, sW_eq, sV_ne, sW_ne, sV_2, sW_1, Nat.reduceEqDiff, ↓reduceIte], by simp (disch := decide) only [sV_eq, sW_eq, sV_ne, sW_ne, sV_2, sW_1, Nat.reduceEqDiff, ↓reduceIte]; rfl, by simp (disch := decide) only [sV_eq, sW_eq, sV_ne, sW_ne, sV_2, sW_1, Nat.reduceEqDiff, ↓reduceIte]; rfl, by simp (disch := decide) only [sV_eq, sW_eq, sV_ne, sW_ne, sV_2, sW_1, Nat.reduceEqDiff, ↓reduceIte]; rfl, by simp (disch := decide) only [sV_eq, sW_eq, sV_ne, sW_ne, sV_2, sW_1, Nat.reduceEqDiff, ↓reduceIte]; rfl, Row_nil _, fun j hj => absurd hj (Nat.not_lt_zero j)⟩
  obtain ⟨m', e, i1, i2, i3, i4, i5, i6, i7, i8⟩ := h
  refine ⟨m', ?_, i1, i2, i3, i4, i5, i6, i7, i8⟩
  have t1 : M_Bk_setsTold (A 27) (iI 1) (iI 0) (ov 68 A m σ) = some (must b, (ov 68 A m σ)) := q_Bk_setsTold H hb hB true (lag := 0) (by omega)
  have t2 : M_Bk_setsTold (A 27) (iI 0) (iI 0) (ov 68 A m σ) = some (mustN b, (ov 68 A m σ)) := q_Bk_setsTold H hb hB false (lag := 0) (by omega)
  rw [E_Rs_refresh_1]; simp (disch := omega) only [l_0, l_1, cK_35 H, cR_35_1 H, cK_27 H, letT_eq, gd_true, bnd_some, aR_ov, aK_ov, aN_ov, okO_ov, aI_ov H.1, aL_ov H.1, sI_ov H.1, sL_ov H.1, sV_eq, sV_ne, sV_2, sW_eq, sW_ne, sW_1, iI_add, iI_sub, iI_mul, iI_neg, iI_lt, iI_eq, iI_cl, nI_iI, gd_in, bZ_0, bZ_1, bZ_eq, isB_bZ, isB_0, isB_1, nar_bZ, nar_0, nar_1, mw_ov, iI_s, iI_na, iI_nm, Int.toNat_natCast, Int.add_zero, Int.zero_add, Nat.reduceEqDiff, Nat.reduceAdd, Int.reduceAdd, Int.reduceNeg, Int.reduceSub, Int.reduceMul, Int.reduceLT, Int.reduceEq, Int.reduceToNat, reduceCtorEq, ↓reduceIte, t1, t2]
  exact e
theorem q_Ls_roomx {A : Nat → Nat} {σ : AM} (H : LCx A σ) (m : VM) : M_Ls_room (A 17) (ov 68 A m σ) = some (iI (aN σ (A 21) : Int), (ov 68 A m σ)) := by
  unfold M_Ls_room
  rw [E_Ls_room_0]
  simp only [okO_ov, aR_ov, aN_ov, okO_of (H.2.2.1 (17, 3) (by decide)), H.2.1 (17, 4, 21) (by decide), okO_of (H.2.2.1 (21, 102) (by decide)), gd_true, nI_iI, mw_ov]
/-- the two rows made anew -/
theorem Rs_realloc {A : Nat → Nat} {σ : AM} (H : LC A σ) (m : VM) {z u : Nat} (hM : RmI z u A σ) (hlt : aN σ (A 38) < aN σ (A 21)) : ∃ (A' : Nat → Nat) (σ' : AM) (m' : VM), (gd (okO (nw (ov 68 A m σ) 101 (aN σ (A 21))) (A 35) 5) <| letT (sR (nw (ov 68 A m σ) 101 (aN σ (A 21))) (A 35) 4 (aZ σ)) fun σ24 => gd (okO σ24 (aR σ24 (A 35) 0) 3) <| bnd (M_Ls_room (aR σ24 (A 35) 0) σ24) fun r27 σ28 => gd (okN r27) <| letT (nw σ28 103 r27.toNatClampNeg) fun σ29 => gd (okO σ29 (A 35) 5) <| letT (sR σ29 (A 35) 3 (aZ σ28)) fun σ33 => L_Rs_refresh_1 (A 35) σ33) = L_Rs_refresh_1 (A' 35) (ov 68 A' m' σ') ∧ LC A' σ' ∧ A' 35 = A 35 ∧ (∀ k, k < 68 → k ≠ 37 → k ≠ 38 → m'.1 k = m.1 k ∧ m'.2 k = m.2 k ∧ A' k = A k ∧ aN σ' (A' k) = aN σ (A k)) ∧ RmI (z + 2) u A' σ' ∧ aN σ' (A' 38) = aN σ (A 21) ∧ Ext A σ A' σ' := by
  obtain ⟨σ1, m1, e1, L1, k1, _, _, n1, z1, u1, x1⟩ := realloc (LC_x H) m (aN σ (A 21)) (o := 35) (f := 4) (c := 38) (kd := 101) (by decide)
  obtain ⟨σ2, m2, e2, L2, k2, _, _, n2, z2, u2, x2⟩ := realloc L1 m1 (aN σ (A 21)) (o := 35) (f := 3) (c := 37) (kd := 103) (by decide)
  have a1 : ∀ k, k ≠ 38 → upA A 38 (aZ σ) k = A k := fun k hk => if_neg hk
  have a2 : ∀ k, k ≠ 37 → upA (upA A 38 (aZ σ)) 37 (aZ σ1) k = upA A 38 (aZ σ) k := fun k hk => if_neg hk
  have hr := q_Ls_roomx L1 m1
  have r1 : aR σ1 (A 35) 0 = A 17 := L1.2.1 (35, 0, 17) (by decide)
  have o1 : okO σ1 (A 17) 3 = true := okO_of (L1.2.2.1 (17, 3) (by decide))
  have o2 : okO (nw (ov 68 (upA A 38 (aZ σ)) m1 σ1) 103 (aN σ (A 21))) (A 35) 5 = true := by
    have := okO_nw L1.2.2.2.2 m1 103 (aN σ (A 21)) (o := 35) (by decide)
    rw [a1 35 (by decide)] at this
    rw [this]
    exact okO_of (L1.2.2.1 (35, 5) (by decide))
  have n21 : aN σ1 (A 21) = aN σ (A 21) := (k1 21 (by decide) (by decide)).2.2
  have n21' : aN σ2 (A 21) = aN σ (A 21) := by
    have := (k2 21 (by decide) (by decide)).2.2
    rw [a1 21 (by decide)] at this
    exact this.trans n21
  rw [a1 17 (by decide), a1 21 (by decide), n21] at hr
  rw [a1 35 (by decide)] at e2
  obtain ⟨M1, M2, M3, M4, M5, M6, M7, M8⟩ := hM
  have keep : ∀ k, k < 68 → k ≠ 37 → k ≠ 38 → m2.1 k = m.1 k ∧ m2.2 k = m.2 k ∧ upA (upA A 38 (aZ σ)) 37 (aZ σ1) k = A k ∧ aN σ2 (upA (upA A 38 (aZ σ)) 37 (aZ σ1) k) = aN σ (A k) := fun k hk h37 h38 => by
    obtain ⟨p1, p2, p3⟩ := k1 k hk h38
    obtain ⟨s1, s2, s3⟩ := k2 k hk h37
    rw [a2 k h37, a1 k h38]
    rw [a1 k h38] at s3
    exact ⟨s1.trans p1, s2.trans p2, rfl, s3.trans p3⟩
  have n38 : aN σ2 (upA (upA A 38 (aZ σ)) 37 (aZ σ1) 38) = aN σ (A 21) := by
    rw [a2 38 (by decide)]
    exact ((k2 38 (by decide) (by decide)).2.2).trans n1
  have n37 : aN σ2 (upA (upA A 38 (aZ σ)) 37 (aZ σ1) 37) = aN σ (A 21) := n2
  have e21 : aN σ2 (upA (upA A 38 (aZ σ)) 37 (aZ σ1) 21) = aN σ (A 21) := (keep 21 (by decide) (by decide) (by decide)).2.2.2
  have e22 : aN σ2 (upA (upA A 38 (aZ σ)) 37 (aZ σ1) 22) = aN σ (A 22) := (keep 22 (by decide) (by decide) (by decide)).2.2.2
  have e23 : aN σ2 (upA (upA A 38 (aZ σ)) 37 (aZ σ1) 23) = aN σ (A 23) := (keep 23 (by decide) (by decide) (by decide)).2.2.2
  have e24 : aN σ2 (upA (upA A 38 (aZ σ)) 37 (aZ σ1) 24) = aN σ (A 24) := (keep 24 (by decide) (by decide) (by decide)).2.2.2
  have e25 : aN σ2 (upA (upA A 38 (aZ σ)) 37 (aZ σ1) 25) = aN σ (A 25) := (keep 25 (by decide) (by decide) (by decide)).2.2.2
  have e26 : aN σ2 (upA (upA A 38 (aZ σ)) 37 (aZ σ1) 26) = aN σ (A 26) := (keep 26 (by decide) (by decide) (by decide)).2.2.2
  refine ⟨upA (upA A 38 (aZ σ)) 37 (aZ σ1), σ2, m2, ?_, ?_, ?_, keep, ?_, n38, Ext_t x1 x2⟩
  · rw [okO_nw (LC_x H).2.2.2.2 m 101 _ (o := 35) (by decide), cK_35 H]
    simp only [gd_true, letT_eq, e1, aR_ov, okO_ov, r1, o1, hr, bnd_some, okN_iI (a := (aN σ (A 21) : Int)) (by omega) (by omega), iI_cl (a := (aN σ (A 21) : Int)) (by omega) (by omega), Int.toNat_natCast, o2, aZ_ov, e2]
    rfl
  · refine LC_of L2 ?_ ?_ ?_ ?_
    · rw [e21, e22]; exact H.2.2.2.2.1
    · rw [e21, e23]; exact H.2.2.2.2.2.1
    · rw [e21, e24]; exact H.2.2.2.2.2.2.1
    · rw [n37, n38]
  · rfl
  · refine ⟨by omega, ?_, ?_, ?_, ?_, ?_, ?_, ?_⟩
    · rw [e21, e25, e26, n38, u2, u1]
      unfold pot at M2 ⊢
      split at M2 <;> split at M2 <;> (try split) <;> omega
    · rw [e21]; exact M3
    · rw [e25]; exact M4
    · rw [e26]; exact M5
    · rw [e21, n38]; exact Nat.le_refl _
    · intro h; rw [e21, n38] at h; omega
    · rw [e25]; exact M8
theorem p_Rs_refresh {A : Nat → Nat} {σ : AM} (H : LC A σ) {m : VM} {d : TD} {b : BD} (hd : wfD d) (hD : LD d A σ) (hT : CTw d m) (hb : wfB d b) (hB : CBk b m) {g : Nat} (hg : m.1 27 10 = iI (g : Int)) (hg2 : g < 100000) {z u : Nat} (hM : RmI z u A σ) {a : Int} (ha : m.1 35 9 = iI a) (ha1 : -1 ≤ a) (ha2 : a ≤ g) (hv : a = g → RV d b m ∧ NL d ≤ aN σ (A 38)) : ∃ (A' : Nat → Nat) (σ' : AM) (m' : VM), M_Rs_refresh (A 35) (ov 68 A m σ) = some ((), ov 68 A' m' σ') ∧ LC A' σ' ∧ LD d A' σ' ∧ RmI (z + 2) u A' σ' ∧ Ext A σ A' σ' ∧ Ks [0, 2, 3, 4, 5] m m' ∧ RV d b m' ∧ m'.1 35 9 = iI (g : Int) ∧ NL d ≤ aN σ' (A' 38) ∧ ∀ k, k < 68 → k ≠ 37 → k ≠ 38 → A' k = A k := by
  have hN := NL_le d
  obtain ⟨D1, D2⟩ := hD
  by_cases q : a = g
  · obtain ⟨v1, v2⟩ := hv q
    refine ⟨A, σ, m, ?_, H, ⟨D1, D2⟩, ⟨Nat.le_trans hM.1 (Nat.le_add_right _ _), hM.2⟩, Ext_r _ _, Ks_r _ _, v1, by rw [ha, q], v2, fun _ _ _ _ => rfl⟩
    unfold M_Rs_refresh
    rw [E_Rs_refresh_0]; simp (disch := omega) only [E_Rs_refresh_1, l_0, l_1, cK_35 H, cR_35_0 H, cK_17 H, cR_35_1 H, cK_27 H, cR_35_4 H, cK_38 H, q_Bk_age H, letT_eq, gd_true, bnd_some, aR_ov, aK_ov, aN_ov, okO_ov, aI_ov H.1, aL_ov H.1, sI_ov H.1, sL_ov H.1, sV_eq, sV_ne, sV_2, sW_eq, sW_ne, sW_1, iI_add, iI_sub, iI_mul, iI_neg, iI_lt, iI_eq, iI_cl, nI_iI, gd_in, bZ_0, bZ_1, bZ_eq, isB_bZ, isB_0, isB_1, nar_bZ, nar_0, nar_1, mw_ov, iI_s, iI_na, iI_nm, Int.toNat_natCast, Int.add_zero, Int.zero_add, Nat.reduceEqDiff, Nat.reduceAdd, Int.reduceAdd, Int.reduceNeg, Int.reduceSub, Int.reduceMul, Int.reduceLT, Int.reduceEq, Int.reduceToNat, reduceCtorEq, ↓reduceIte, ha, hg]
    rw [if_pos (by omega), mw_ov]
  · have hm1 : Ks [0, 2, 3, 4, 5] m (sV m 35 9 (iI (g : Int))) := Ks_V (Ks_r _ _) _ (by decide)
    have hro := q_Ls_room H (sV m 35 9 (iI (g : Int)))
    have e0 : M_Rs_refresh (A 35) (ov 68 A m σ) = mw (ov 68 A m σ) (if (aN σ (A 38) : Int) < (aN σ (A 21) : Int) then (gd (okO (nw (ov 68 A (sV m 35 9 (iI (g : Int))) σ) 101 (aN σ (A 21))) (A 35) 5) <| letT (sR (nw (ov 68 A (sV m 35 9 (iI (g : Int))) σ) 101 (aN σ (A 21))) (A 35) 4 (aZ σ)) fun σ24 => gd (okO σ24 (aR σ24 (A 35) 0) 3) <| bnd (M_Ls_room (aR σ24 (A 35) 0) σ24) fun r27 σ28 => gd (okN r27) <| letT (nw σ28 103 r27.toNatClampNeg) fun σ29 => gd (okO σ29 (A 35) 5) <| letT (sR σ29 (A 35) 3 (aZ σ28)) fun σ33 => L_Rs_refresh_1 (A 35) σ33) else L_Rs_refresh_1 (A 35) (ov 68 A (sV m 35 9 (iI (g : Int))) σ)) := by
      have n38 := hM.2.2.2.2.2.1
      unfold M_Rs_refresh
      rw [E_Rs_refresh_0]
      simp (disch := omega) only [cK_35 H, cK_27 H, cK_17 H, cR_35_0 H, cR_35_1 H, cR_35_4 H, cK_38 H, okO_ov, aR_ov, aN_ov, aI_ov H.1, sI_ov H.1, gd_true, bnd_some, q_Bk_age H, ha, hg, iI_eq, if_neg q, hro, nI_iI, iI_lt, aZ_ov, letT_eq, okN_iI, iI_cl, Int.toNat_natCast]
    rw [e0]
    by_cases hlt : aN σ (A 38) < aN σ (A 21)
    · rw [if_pos (by omega)]
      obtain ⟨A', σ', m', e1, H', a35, kk, hM', n38, hX⟩ := Rs_realloc H (sV m 35 9 (iI (g : Int))) hM hlt
      have n21 : aN σ' (A' 21) = aN σ (A 21) := (kk 21 (by decide) (by decide) (by decide)).2.2.2
      have hKs : Ks [0, 2, 3, 4, 5] (sV m 35 9 (iI (g : Int))) m' := fun gg hgg => by
        refine ⟨fun qq hq => ?_, fun c hc => ?_, fun qq hq => ?_, fun c hc => ?_⟩
        · have := (show ∀ gg ∈ [0, 2, 3, 4, 5], ∀ qq ∈ gF gg, qq.1 < 68 ∧ qq.1 ≠ 37 ∧ qq.1 ≠ 38 by decide) gg hgg qq hq
          rw [(kk qq.1 this.1 this.2.1 this.2.2).1]
        · have := (show ∀ gg ∈ [0, 2, 3, 4, 5], ∀ c ∈ gC gg, c < 68 ∧ c ≠ 37 ∧ c ≠ 38 by decide) gg hgg c hc
          rw [(kk c this.1 this.2.1 this.2.2).1]
        · have := (show ∀ gg ∈ [0, 2, 3, 4, 5], ∀ qq ∈ gL gg, qq.1 < 68 ∧ qq.1 ≠ 37 ∧ qq.1 ≠ 38 by decide) gg hgg qq hq
          rw [(kk qq.1 this.1 this.2.1 this.2.2).2.1]
        · have := (show ∀ gg ∈ [0, 2, 3, 4, 5], ∀ c ∈ gM gg, c < 68 ∧ c ≠ 37 ∧ c ≠ 38 by decide) gg hgg c hc
          rw [(kk c this.1 this.2.1 this.2.2).2.1]
      have hK2 := Ks_t hm1 hKs
      have hD' : LD d A' σ' := ⟨by omega, by omega⟩
      obtain ⟨m2, e2, k2, k3, k4⟩ := Rs_refresh1 H' hd hD' (CTw_K (hK2 0 (by decide)) hT) hb (CBk_K (hK2 0 (by decide)) hB) (by omega) (by omega)
      refine ⟨A', σ', m2, ?_, H', hD', hM', hX, Ks_t hK2 k2, k4, ?_, by omega, fun k h1 h2 h3 => (kk k h1 h2 h3).2.2.1⟩
      · rw [e1, e2]
        exact mw_of hX.2.1 hX.2.2.1
      · rw [k3, (kk 35 (by decide) (by decide) (by decide)).1]; simp (disch := decide) only [sV_eq, sW_eq, sV_ne, sW_ne, sV_2, sW_1, Nat.reduceEqDiff, ↓reduceIte]
    · rw [if_neg (by omega)]
      obtain ⟨m2, e2, k2, k3, k4⟩ := Rs_refresh1 H hd ⟨D1, D2⟩ (CTw_K (hm1 0 (by decide)) hT) hb (CBk_K (hm1 0 (by decide)) hB) (by omega) (by have := hM.2.2.2.2.2.1; omega)
      refine ⟨A, σ, m2, ?_, H, ⟨D1, D2⟩, ⟨Nat.le_trans hM.1 (Nat.le_add_right _ _), hM.2⟩, Ext_r _ _, Ks_t hm1 k2, k4, ?_, by omega, fun _ _ _ _ => rfl⟩
      · rw [e2, mw_ov]
      · rw [k3]; simp (disch := decide) only [sV_eq, sW_eq, sV_ne, sW_ne, sV_2, sW_1, Nat.reduceEqDiff, ↓reduceIte]
