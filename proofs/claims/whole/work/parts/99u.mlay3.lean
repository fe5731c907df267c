/-! ===== the reference lays all weights out ===== -/
theorem q_Md_setsG {A : Nat → Nat} {σ : AM} (H : LM A σ) {m : VM} {T : Nat} (hT : T ≤ 6) (h10 : m.1 0 10 = iI (T : Int)) : M_Md_sets (A 0) (ov 40 A m σ) = some (iI ((2 ^ T : Nat) : Int), (ov 40 A m σ)) := by
  unfold M_Md_sets
  rw [E_Md_sets_0]; simp (disch := omega) only [l_1, l_31, mK_0 H, letT_eq, gd_true, bnd_some, aR_ov, aK_ov, aN_ov, okO_ov, aI_ov H.1, aL_ov H.1, sI_ov H.1, sL_ov H.1, sV_eq, sV_ne, sV_2, sW_eq, sW_ne, sW_1, iI_add, iI_sub, iI_mul, iI_neg, iI_lt, iI_eq, iI_cl, nI_iI, gd_in, bZ_0, bZ_1, bZ_eq, isB_bZ, isB_0, isB_1, nar_bZ, nar_0, nar_1, mw_ov, iI_s, iI_na, iI_nm, Int.toNat_natCast, Int.add_zero, Int.zero_add, Nat.reduceEqDiff, Nat.reduceAdd, Int.reduceAdd, Int.reduceNeg, Int.reduceSub, Int.reduceMul, Int.reduceLT, Int.reduceEq, Int.reduceToNat, reduceCtorEq, ↓reduceIte, h10]
  rw [iI_shl1 (by omega)]
theorem q_listNowG {A : Nat → Nat} {σ : AM} (H : LM A σ) {m : VM} {d : TD} (hd : wfD d) (h10 : m.1 0 10 = iI (dT d : Int)) (h12 : m.1 0 12 = iI (dB d : Int)) {f : Nat → Nat} (hf : ∀ s, f s ≤ 1000) (h : ∀ s, s < sN d → m.1 19 s = iI (f s : Int)) : M_Md_listNow (A 0) (ov 40 A m σ) = some (mkB (sN d) (fun s => decide (dB d ≤ f s)), (ov 40 A m σ)) := by
  have hsN := sN_le hd
  have hB5 := hd.2.2.2.2.1
  have r0 := q_Md_setsG H hd.1 h10
  replace r0 : M_Md_sets (A 0) (ov 40 A m σ) = some (iI (sN d : Int), (ov 40 A m σ)) := r0
  have hl := up_loop (fun k => L_Md_listNow_1 (A 0) (mkB k (fun s => decide (dB d ≤ f s))) (iI (k : Int)) (ov 40 A m σ)) (sN d) (some (mkB (sN d) (fun s => decide (dB d ≤ f s)), (ov 40 A m σ))) (fun k hk ih => by
    have e1 := h k hk
    have hfk := hf k
    have es : mkB (k + 1) (fun s => decide (dB d ≤ f s)) = if decide (dB d ≤ f k) = true then mkB k (fun s => decide (dB d ≤ f s)) ||| b1 k else mkB k (fun s => decide (dB d ≤ f s)) := rfl
    show L_Md_listNow_1 _ _ _ _ = _
    replace ih : L_Md_listNow_1 _ _ _ _ = _ := ih
    rw [es] at ih
    by_cases q : dB d ≤ f k
    · rw [if_pos (decide_eq_true q)] at ih
      rw [E_Md_listNow_1]; simp (disch := omega) only [E_Md_listNow_2, l_1, mK_0 H, mR_35 H, mK_19 H, mN_19 H, letT_eq, gd_true, bnd_some, aR_ov, aK_ov, aN_ov, okO_ov, aI_ov H.1, aL_ov H.1, sI_ov H.1, sL_ov H.1, sV_eq, sV_ne, sV_2, sW_eq, sW_ne, sW_1, iI_add, iI_sub, iI_mul, iI_neg, iI_lt, iI_eq, iI_cl, nI_iI, gd_in, bZ_0, bZ_1, bZ_eq, isB_bZ, isB_0, isB_1, nar_bZ, nar_0, nar_1, mw_ov, iI_s, iI_na, iI_nm, Int.toNat_natCast, Int.add_zero, Int.zero_add, Nat.reduceEqDiff, Nat.reduceAdd, Int.reduceAdd, Int.reduceNeg, Int.reduceSub, Int.reduceMul, Int.reduceLT, Int.reduceEq, Int.reduceToNat, reduceCtorEq, ↓reduceIte, r0, e1, h12, shl_b1 (show k < 64 by omega)]
      rw [if_pos (by omega), if_neg (by omega)]
      exact ih
    · rw [if_neg (by rw [decide_eq_false q]; decide)] at ih
      rw [E_Md_listNow_1]; simp (disch := omega) only [E_Md_listNow_2, l_1, mK_0 H, mR_35 H, mK_19 H, mN_19 H, letT_eq, gd_true, bnd_some, aR_ov, aK_ov, aN_ov, okO_ov, aI_ov H.1, aL_ov H.1, sI_ov H.1, sL_ov H.1, sV_eq, sV_ne, sV_2, sW_eq, sW_ne, sW_1, iI_add, iI_sub, iI_mul, iI_neg, iI_lt, iI_eq, iI_cl, nI_iI, gd_in, bZ_0, bZ_1, bZ_eq, isB_bZ, isB_0, isB_1, nar_bZ, nar_0, nar_1, mw_ov, iI_s, iI_na, iI_nm, Int.toNat_natCast, Int.add_zero, Int.zero_add, Nat.reduceEqDiff, Nat.reduceAdd, Int.reduceAdd, Int.reduceNeg, Int.reduceSub, Int.reduceMul, Int.reduceLT, Int.reduceEq, Int.reduceToNat, reduceCtorEq, ↓reduceIte, r0, e1, h12, shl_b1 (show k < 64 by omega), or0]
      rw [if_pos (by omega), if_pos (by omega)]
      exact ih) (by
    show L_Md_listNow_1 _ _ _ _ = _
    rw [E_Md_listNow_1]
    simp (disch := omega) only [mK_0 H, okO_ov, gd_true, r0, bnd_some, iI_lt]
    rw [if_neg (by omega)]) 0 (Nat.zero_le _)
  unfold M_Md_listNow
  rw [E_Md_listNow_0]
  exact (congrArg (mw _) hl).trans (mw_ov _ _ _ _ _ _)
def OnY (m m' : VM) : Prop := (∀ c, c ∉ [0, 10, 11, 13, 15, 16, 17, 18, 19] → m'.1 c = m.1 c) ∧ (∀ j, j ≠ 29 → m'.1 0 j = m.1 0 j) ∧ (∀ c, c ∉ [12, 14] → m'.2 c = m.2 c)
theorem OnY_r (m : VM) : OnY m m := ⟨fun _ _ => rfl, fun _ _ => rfl, fun _ _ => rfl⟩
theorem OnY_t {a b c : VM} (h : OnY a b) (k : OnY b c) : OnY a c := ⟨fun i hi => (k.1 i hi).trans (h.1 i hi), fun i hi => (k.2.1 i hi).trans (h.2.1 i hi), fun i hi => (k.2.2 i hi).trans (h.2.2 i hi)⟩
theorem OnY_V (m : VM) {c : Nat} (j : Nat) (v : Int32) (hc : c ∈ [10, 11, 13, 15, 16, 17, 18, 19]) : OnY m (sV m c j v) := ⟨fun i hi => by rw [sV_ne _ _ _ _ (fun z => hi (by rw [z]; exact List.mem_cons_of_mem _ hc))], fun i _ => by rw [sV_ne _ _ _ _ (fun z => by rw [← z] at hc; revert hc; decide)], fun _ _ => rfl⟩
theorem OnY_W (m : VM) {c : Nat} (j : Nat) (v : Int64) (hc : c ∈ [12, 14]) : OnY m (sW m c j v) := ⟨fun _ _ => rfl, fun _ _ => rfl, fun i hi => by rw [sW_ne _ _ _ _ (fun z => hi (by rw [z]; exact hc))]⟩
theorem OnY_F {m m' : VM} (h : OnFc m m') : OnY m m' := ⟨fun i hi => h.1 i (fun z => hi (by rw [z]; decide)) (fun z => hi (by rw [z]; decide)), fun i _ => by rw [h.1 0 (by decide) (by decide)], fun i _ => by rw [h.2]⟩
theorem OnY_w {m m' : VM} (h : OnW m m') : OnY m m' := ⟨fun i hi => h.1 i (fun z => hi (by rw [z]; decide)) (fun z => hi (by rw [z]; decide)), fun i _ => by rw [h.1 0 (by decide) (by decide)], fun i _ => by rw [h.2]⟩
theorem TCx_Y {x : XS} {m m' : VM} (h : OnY m m') (k : TCx x m) : TCx x m' := TCx_e (h.1 6 (by decide)) (h.1 8 (by decide)) (h.1 9 (by decide)) k
/-- weights below w are laid out -/
def LyI (x : XS) (w : Nat) (m : VM) : Prop := (∀ v, v < w → m.2 12 v = lst (twD x) v) ∧ (∀ v, v < w → m.1 13 v = bZ (mayX x v)) ∧ m.1 0 29 = iI ((LLs (twD x) w).length : Int) ∧ (∀ k, k < (LLs (twD x) w).length → m.2 14 k = (LLs (twD x) w).getD k 0) ∧ CNT (twD x) w (LLs (twD x) w) (m.1 15) ∧ HT 32768 hsM (m.1 17) (LLs (twD x) w)
theorem ly_step {t : PD} {x : XS} {A : Nat → Nat} {σ : AM} (H : LM A σ) (hx : xOk t x) (hf : fOk x) (hp : (mxS x + 1) ^ (xsN x).length ≤ 16384) {m : VM} (hC : TCx x m) (h10 : m.1 0 10 = iI ((xsN x).length : Int)) (h11 : m.1 0 11 = iI (mxS x : Int)) (h12 : m.1 0 12 = iI ((xsB x).getD 10 : Int)) (h13 : m.1 0 13 = iI ((xsA x).length : Int)) (h26 : m.1 0 26 = iI (dW (twD x) : Int)) {w : Nat} (hw : w < dW (twD x)) (hI : LyI x w m) : ∃ m' : VM, L_Md_laysAll_3 (A 0) (iI (w : Int)) (ov 40 A m σ) = L_Md_laysAll_3 (A 0) (iI ((w + 1 : Nat) : Int)) (ov 40 A (m') σ) ∧ OnY m m' ∧ LyI x (w + 1) m' := by
  obtain ⟨i1, i2, i3, i4, i5, i6⟩ := hI
  have hd := wf_tw hx hp
  have hW : dW (twD x) ≤ 16384 := hd.2.2.2.2.2.2
  have hll := LLs_len (twD x) w
  have hnd := LLs_nodup (twD x) w
  obtain ⟨m1, e1, o1, d1, s1⟩ := p_Md_unpacks H hd (w := w) (m := m) h10 h11 (by omega)
  have hwl : ∀ s, wtS (dg (twD x) w) s ≤ 1000 := fun s => Nat.le_trans (wtS_le (c := 9) (fun t => Nat.le_trans (dg_le _ _ _) hd.2.2.1) s) (by omega)
  have f0 : ∀ j, m1.1 0 j = m.1 0 j := fun j => by rw [o1.1 0 (by decide) (by decide)]
  have e2 := q_listNowG H hd (m := m1) ((f0 10).trans h10) ((f0 12).trans h12) hwl s1
  replace e2 : M_Md_listNow (A 0) (ov 40 A m1 σ) = some (lst (twD x) w, (ov 40 A m1 σ)) := e2
  have O2 : OnY m (sW m1 12 w (lst (twD x) w)) := OnY_t (OnY_w o1) (OnY_W _ _ _ (by decide))
  obtain ⟨m3, e3, o3⟩ := p_mayNow H hx hf hp (m := sW m1 12 w (lst (twD x) w)) (TCx_Y O2 hC) ((f0 10).trans h10) ((f0 13).trans h13) (w := w) d1
  have O3 := OnY_t O2 (OnY_F o3)
  have O4 : OnY m (sV m3 13 w (bZ (mayX x w))) := OnY_t O3 (OnY_V _ _ _ (by decide))
  have s4 : (sV m3 13 w (bZ (mayX x w))).1 13 w = bZ (mayX x w) := by simp (disch := decide) only [sV_eq, sW_eq, sV_ne, sW_ne, sV_2, sW_1, Nat.reduceEqDiff, ↓reduceIte]
  have s5 : (sV m3 13 w (bZ (mayX x w))).2 12 w = lst (twD x) w := by rw [sV_2, o3.2, sW_eq, if_pos rfl]
  have c12 : ∀ v, v < w + 1 → m3.2 12 v = lst (twD x) v := fun v hv => by
    rw [o3.2, sW_eq]
    by_cases e : v = w
    · rw [if_pos e, e]
    · rw [if_neg e, o1.2]; exact i1 v (by omega)
  have c13 : ∀ v, v < w + 1 → (sV m3 13 w (bZ (mayX x w))).1 13 v = bZ (mayX x v) := fun v hv => by
    rw [sV_eq]
    by_cases e : v = w
    · rw [if_pos e, e]
    · rw [if_neg e, o3.1 13 (by decide) (by decide), sW_1, o1.1 13 (by decide) (by decide)]; exact i2 v (by omega)
  have c29 : (sV m3 13 w (bZ (mayX x w))).1 0 29 = iI ((LLs (twD x) w).length : Int) := by rw [sV_ne _ _ _ _ (by decide), o3.1 0 (by decide) (by decide), sW_1, f0]; exact i3
  have c14 : ∀ k, k < (LLs (twD x) w).length → (sV m3 13 w (bZ (mayX x w))).2 14 k = (LLs (twD x) w).getD k 0 := fun k hk => by rw [sV_2, o3.2, sW_ne _ _ _ _ (by decide), o1.2]; exact i4 k hk
  have c15 : (sV m3 13 w (bZ (mayX x w))).1 15 = m.1 15 := by rw [sV_ne _ _ _ _ (by decide), o3.1 15 (by decide) (by decide), sW_1, o1.1 15 (by decide) (by decide)]
  have c17 : (sV m3 13 w (bZ (mayX x w))).1 17 = m.1 17 := by rw [sV_ne _ _ _ _ (by decide), o3.1 17 (by decide) (by decide), sW_1, o1.1 17 (by decide) (by decide)]
  have cw : (w : Int) < (dW (twD x) : Int) := by omega
  have head : L_Md_laysAll_3 (A 0) (iI (w : Int)) (ov 40 A m σ) = if bZ (mayX x w) = (0 : Int32) then L_Md_laysAll_4 (A 0) (iI (w : Int)) (ov 40 A (sV m3 13 w (bZ (mayX x w))) σ) else (bnd (M_Md_numberFor (A 0) (lst (twD x) w) (ov 40 A (sV m3 13 w (bZ (mayX x w))) σ)) fun r26 σ27 => gd (okO σ27 (A 16) 101) <| gd (inB (iI (w : Int)) (aN σ27 (A 16))) <| letT (sI σ27 (A 16) w r26) fun σ30 => gd (okO σ30 (A 0) 12) <| gd (okO σ30 (aR σ30 (A 0) 31) 101) <| gd (okO σ30 (aR σ30 (A 0) 32) 101) <| gd (inB (iI (w : Int)) (aN σ30 (aR σ30 (A 0) 32))) <| gd (inB (aI σ30 (aR σ30 (A 0) 32) w) (aN σ30 (aR σ30 (A 0) 31))) <| letT (sI σ30 (aR σ30 (A 0) 31) (aI σ30 (aR σ30 (A 0) 32) w).toNatClampNeg ((aI σ30 (aR σ30 (A 0) 31) (aI σ30 (aR σ30 (A 0) 32) w).toNatClampNeg) + (1 : Int32))) fun σ37 => L_Md_laysAll_4 (A 0) (iI (w : Int)) σ37) := by
    have c1 : iI (w : Int) < iI (dW (twD x) : Int) := by rw [iI_lt (by omega) (by omega) (by omega) (by omega)]; omega
    rw [E_Md_laysAll_3, okO_ov, mK_0 H, gd_true, aI_ov H.1 _ _ (by omega), h26, if_pos c1, e1, bnd_some, okO_ov, aR_ov, mK_0 H, gd_true, mR_27 H, mK_12 H, gd_true, e2, bnd_some, okO_ov, mK_12 H, gd_true, aN_ov, mN_12 H, gd_in (by omega) (by omega) (by omega), iI_cl (by omega) (by omega), Int.toNat_natCast, sL_ov H.1 _ _ (by omega), letT_eq, okO_ov, aR_ov, mK_0 H, gd_true, mR_28 H, mK_13 H, gd_true, e3, bnd_some, okO_ov, mK_13 H, gd_true, aN_ov, mN_13 H, gd_in (by omega) (by omega) (by omega), nar_bZ, sI_ov H.1 _ _ (by omega), letT_eq, okO_ov, aR_ov, aN_ov, mK_0 H, gd_true, mR_28 H, mK_13 H, gd_true, mN_13 H, gd_in (by omega) (by omega) (by omega), aI_ov H.1 _ _ (by omega), s4, mR_32 H, mK_16 H, gd_true, mR_27 H, mK_12 H, gd_true, mN_12 H, gd_in (by omega) (by omega) (by omega), aL_ov H.1 _ _ (by omega), s5]
  have l3 : iI (w : Int) + (1 : Int32) = iI ((w + 1 : Nat) : Int) := by rw [l_1, iI_add, iI_s]
  rw [head]
  cases q : mayX x w
  · have hz : bZ false = (0 : Int32) := by decide
    rw [if_pos hz, E_Md_laysAll_4, l3]
    rw [q] at O4 c13 c29 c14 c15 c17
    have hL : LLs (twD x) (w + 1) = LLs (twD x) w := LLs_old (fun z => by have z1 := z.1; rw [show dMay (twD x) w = mayX x w from rfl, q] at z1; cases z1)
    refine ⟨_, rfl, O4, ?_⟩
    unfold LyI
    rw [hL]
    refine ⟨fun v hv => by rw [sV_2]; exact c12 v hv, c13, c29, c14, ?_, ?_⟩
    · rw [c15]; exact CNT_no q i5
    · rw [c17]; exact i6
  · have hz : ¬ bZ true = (0 : Int32) := by decide
    rw [if_neg hz]
    rw [q] at O4 c13 c29 c14 c15 c17
    have hL16 : (LLs (twD x) w).length < 16384 := by omega
    obtain ⟨m5, e5, n1, n2⟩ := p_numberFor H (m := sV m3 13 w (bZ true)) (L := LLs (twD x) w) (by rw [c17]; exact i6) c29 c14 hnd hL16 (lst (twD x) w)
    have fin : ∀ (idx : Nat) (c : Int32), idx < 16384 → m5.1 15 idx = c → M_Md_numberFor (A 0) (lst (twD x) w) (ov 40 A (sV m3 13 w (bZ true)) σ) = some (iI (idx : Int), (ov 40 A m5 σ)) → (bnd (M_Md_numberFor (A 0) (lst (twD x) w) (ov 40 A (sV m3 13 w (bZ true)) σ)) fun r26 σ27 => gd (okO σ27 (A 16) 101) <| gd (inB (iI (w : Int)) (aN σ27 (A 16))) <| letT (sI σ27 (A 16) w r26) fun σ30 => gd (okO σ30 (A 0) 12) <| gd (okO σ30 (aR σ30 (A 0) 31) 101) <| gd (okO σ30 (aR σ30 (A 0) 32) 101) <| gd (inB (iI (w : Int)) (aN σ30 (aR σ30 (A 0) 32))) <| gd (inB (aI σ30 (aR σ30 (A 0) 32) w) (aN σ30 (aR σ30 (A 0) 31))) <| letT (sI σ30 (aR σ30 (A 0) 31) (aI σ30 (aR σ30 (A 0) 32) w).toNatClampNeg ((aI σ30 (aR σ30 (A 0) 31) (aI σ30 (aR σ30 (A 0) 32) w).toNatClampNeg) + (1 : Int32))) fun σ37 => L_Md_laysAll_4 (A 0) (iI (w : Int)) σ37) = L_Md_laysAll_3 (A 0) (iI ((w + 1 : Nat) : Int)) (ov 40 A (sV (sV m5 16 w (iI (idx : Int))) 15 idx (c + iI 1)) σ) := fun idx c hi hc e => by
      have s6 : (sV m5 16 w (iI (idx : Int))).1 16 w = iI (idx : Int) := by simp (disch := decide) only [sV_eq, sW_eq, sV_ne, sW_ne, sV_2, sW_1, Nat.reduceEqDiff, ↓reduceIte]
      have s7 : (sV m5 16 w (iI (idx : Int))).1 15 idx = c := by rw [sV_ne _ _ _ _ (by decide)]; exact hc
      rw [e, bnd_some, okO_ov, mK_16 H, gd_true, aN_ov, mN_16 H, gd_in (by omega) (by omega) (by omega), sI_ov H.1 _ _ (by omega), letT_eq, okO_ov, aR_ov, aN_ov, mK_0 H, gd_true, mR_31 H, mK_15 H, gd_true, mR_32 H, mK_16 H, gd_true, mN_16 H, gd_in (by omega) (by omega) (by omega), aI_ov H.1 _ _ (by omega), s6, mN_15 H, gd_in (by omega) (by omega) (by omega), iI_cl (by omega) (by omega), Int.toNat_natCast, aI_ov H.1 _ _ (by omega), s7, sI_ov H.1 _ _ (by omega), letT_eq, E_Md_laysAll_4, l3, l_1]
    by_cases hm : lst (twD x) w ∈ LLs (twD x) w
    · rw [if_pos hm] at e5
      have em := n1 hm
      subst em
      have hi : (LLs (twD x) w).idxOf (lst (twD x) w) < (LLs (twD x) w).length := List.idxOf_lt_length_iff.mpr hm
      rw [fin _ _ (by omega) rfl e5]
      have hL : LLs (twD x) (w + 1) = LLs (twD x) w := LLs_old (fun z => z.2 hm)
      refine ⟨_, rfl, OnY_t O4 (OnY_t (OnY_V _ _ _ (by decide)) (OnY_V _ _ _ (by decide))), ?_⟩
      unfold LyI
      rw [hL]
      refine ⟨fun v hv => c12 v hv, fun v hv => ?_, ?_, fun k hk => c14 k hk, ?_, ?_⟩
      · rw [sV_ne _ _ _ _ (by decide), sV_ne _ _ _ _ (by decide)]; exact c13 v hv
      · rw [sV_ne _ _ _ _ (by decide), sV_ne _ _ _ _ (by decide)]; exact c29
      · refine CNT_old (f := m.1 15) q hnd hm i5 (fun i => ?_)
        rw [sV_eq, c15, show ∀ v, (sV (sV m3 13 w (bZ true)) 16 w v).1 15 = (sV m3 13 w (bZ true)).1 15 from fun v => sV_ne _ _ _ _ (by decide), c15]
      · rw [sV_ne _ _ _ _ (by decide), sV_ne _ _ _ _ (by decide), c17]; exact i6
    · rw [if_neg hm] at e5
      obtain ⟨b1, b2, b3, b4, b5, b6, b7⟩ := n2 hm
      have ec : m5.1 15 (LLs (twD x) w).length = iI 0 := by rw [b5, if_pos rfl]
      rw [fin _ _ hL16 ec e5]
      have hL : LLs (twD x) (w + 1) = LLs (twD x) w ++ [lst (twD x) w] := LLs_new ⟨q, hm⟩
      have O5 : OnY (sV m3 13 w (bZ true)) m5 := ⟨fun c hc => b3 c (fun z => hc (by rw [z]; decide)) (fun z => hc (by rw [z]; decide)) (fun z => hc (by rw [z]; decide)), b4, fun c hc => b6 c (fun z => hc (by rw [z]; decide))⟩
      refine ⟨_, rfl, OnY_t O4 (OnY_t O5 (OnY_t (OnY_V _ _ _ (by decide)) (OnY_V _ _ _ (by decide)))), ?_⟩
      unfold LyI
      rw [hL]
      refine ⟨fun v hv => ?_, fun v hv => ?_, ?_, fun k hk => ?_, ?_, ?_⟩
      · rw [sV_2, sV_2, b6 12 (by decide)]; exact c12 v hv
      · rw [sV_ne _ _ _ _ (by decide), sV_ne _ _ _ _ (by decide), b3 13 (by decide) (by decide) (by decide)]; exact c13 v hv
      · rw [sV_ne _ _ _ _ (by decide), sV_ne _ _ _ _ (by decide), b2, List.length_append, List.length_singleton]
      · rw [List.length_append, List.length_singleton] at hk
        rw [sV_2, sV_2, b7]
        by_cases e : k = (LLs (twD x) w).length
        · rw [if_pos e, e, getD_app2]
        · rw [if_neg e, getD_app1 _ _ _ (by omega)]; exact c14 k (by omega)
      · refine CNT_new (f := m.1 15) q hm i5 (fun i => ?_)
        rw [sV_eq, sV_ne _ _ _ _ (by decide), b5, c15]
        by_cases e : i = (LLs (twD x) w).length
        · rw [if_pos e, if_pos e]; decide
        · rw [if_neg e, if_neg e, if_neg e]
      · rw [sV_ne _ _ _ _ (by decide), sV_ne _ _ _ _ (by decide)]; exact b1
