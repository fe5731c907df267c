/-! ===== parts of the states that a call leaves as they were ===== -/
theorem Kg_sub {g h : Nat} {m m' : VM} (k : Kg g m m') (h1 : (gF h).all (fun q => (gF g).contains q) = true) (h2 : (gC h).all (fun q => (gC g).contains q) = true) (h3 : (gL h).all (fun q => (gL g).contains q) = true) (h4 : (gM h).all (fun q => (gM g).contains q) = true) : Kg h m m' :=
  ⟨fun q hq => k.1 q (List.contains_iff_mem.mp (List.all_eq_true.mp h1 q hq)), fun q hq => k.2.1 q (List.contains_iff_mem.mp (List.all_eq_true.mp h2 q hq)), fun q hq => k.2.2.1 q (List.contains_iff_mem.mp (List.all_eq_true.mp h3 q hq)), fun q hq => k.2.2.2 q (List.contains_iff_mem.mp (List.all_eq_true.mp h4 q hq))⟩
theorem CTw_k {d : TD} {m m' : VM} (h : Kg 10 m m') (k : CTw d m) : CTw d m' := by
  obtain ⟨⟨a1, a2, a3, a4, a5, a6⟩, b1, b2, b3, b4⟩ := k
  obtain ⟨h1, h2, h3, h4⟩ := h
  refine ⟨⟨?_, ?_, ?_, ?_, ?_, ?_⟩, ?_, ?_, ?_, ?_⟩
  · rw [h1 (10, 7) (by decide)]; exact a1
  · rw [h1 (10, 8) (by decide)]; exact a2
  · rw [h1 (10, 9) (by decide)]; exact a3
  · rw [h1 (10, 10) (by decide)]; exact a4
  · rw [h1 (17, 11) (by decide)]; exact a5
  · rw [h1 (17, 12) (by decide)]; exact a6
  · rw [h4 21 (by decide)]; exact b1
  · rw [h2 22 (by decide)]; exact b2
  · rw [h2 23 (by decide)]; exact b3
  · rw [h2 15 (by decide)]; exact b4
theorem CBk_k {b : BD} {m m' : VM} (h : Kg 11 m m') (k : CBk b m) : CBk b m' := by
  obtain ⟨⟨a1, a2⟩, b1, b2, b3, b4⟩ := k
  obtain ⟨h1, h2, h3, h4⟩ := h
  refine ⟨⟨?_, ?_⟩, ?_, ?_, ?_, ?_⟩
  · rw [h1 (27, 7) (by decide)]; exact a1
  · rw [h1 (27, 8) (by decide)]; exact a2
  · rw [h2 28 (by decide)]; exact b1
  · rw [h2 29 (by decide)]; exact b2
  · rw [h2 30 (by decide)]; exact b3
  · rw [h2 31 (by decide)]; exact b4
theorem CKs_k {k : KD} {c : Nat} {m m' : VM} (h : Kg 12 m m') (q : CKs k c m) : CKs k c m' := by
  obtain ⟨e, e1, e2, e3, e4, e5⟩ := q
  refine ⟨e, e1, ?_, ?_, ?_, ?_⟩
  · rw [h.1 (27, 9) (by decide)]; exact e2
  · rw [h.2.1 34 (by decide)]; exact e3
  · rw [h.2.1 32 (by decide)]; exact e4
  · rw [h.2.1 33 (by decide)]; exact e5
theorem CKs_c {k : KD} {c c' : Nat} {m : VM} (h : c ≤ c') (q : CKs k c m) : CKs k c' m := by
  obtain ⟨e, e1, e2⟩ := q
  exact ⟨e, Nat.le_trans e1 h, e2⟩
theorem CTp_k {t : PD} {m m' : VM} (h : Kg 13 m m') (q : CTp t m) : CTp t m' := ⟨by rw [h.1 (1, 2) (by decide)]; exact q.1, by rw [h.2.1 2 (by decide)]; exact q.2⟩
theorem CPl_k {p : PD} {m m' : VM} (h : Kg 14 m m') (q : CPl p m) : CPl p m' := ⟨by rw [h.1 (0, 11) (by decide)]; exact q.1, by rw [h.2.1 67 (by decide)]; exact q.2⟩
theorem MT_k {d : TD} {m m' : VM} (h : Kg 20 m m') (k : MT d m) : MT d m' := by
  obtain ⟨⟨a1, a2, a3, a4, a5, a6⟩, b1, b2, b3, b4, b5⟩ := k
  obtain ⟨h1, h2, h3, h4⟩ := h
  refine ⟨⟨?_, ?_, ?_, ?_, ?_, ?_⟩, ?_, ?_, ?_, ?_, ?_⟩
  · rw [h1 (0, 10) (by decide)]; exact a1
  · rw [h1 (0, 11) (by decide)]; exact a2
  · rw [h1 (0, 12) (by decide)]; exact a3
  · rw [h1 (0, 13) (by decide)]; exact a4
  · rw [h1 (0, 26) (by decide)]; exact a5
  · rw [h1 (0, 29) (by decide)]; exact a6
  · rw [h4 12 (by decide)]; exact b1
  · rw [h2 13 (by decide)]; exact b2
  · rw [h4 14 (by decide)]; exact b3
  · rw [h2 15 (by decide)]; exact b4
  · rw [h2 20 (by decide)]; exact b5
theorem MB_k {b : BD} {m m' : VM} (h : Kg 21 m m') (k : MB b m) : MB b m' := by
  obtain ⟨⟨a1, a2⟩, b1, b2, b3, b4⟩ := k
  obtain ⟨h1, h2, h3, h4⟩ := h
  refine ⟨⟨?_, ?_⟩, ?_, ?_, ?_, ?_⟩
  · rw [h1 (0, 37) (by decide)]; exact a1
  · rw [h1 (0, 42) (by decide)]; exact a2
  · rw [h2 21 (by decide)]; exact b1
  · rw [h2 22 (by decide)]; exact b2
  · rw [h2 23 (by decide)]; exact b3
  · rw [h2 24 (by decide)]; exact b4
theorem MKs_k {k : KD} {m m' : VM} (h : Kg 22 m m') (q : MKs k m) : MKs k m' := by
  obtain ⟨a1, b1, b2, b3⟩ := q
  refine ⟨?_, ?_, ?_, ?_⟩
  · rw [h.1 (0, 72) (by decide)]; exact a1
  · rw [h.2.1 37 (by decide)]; exact b1
  · rw [h.2.1 38 (by decide)]; exact b2
  · rw [h.2.1 39 (by decide)]; exact b3
theorem MTp_k {t : PD} {m m' : VM} (h : Kg 23 m m') (q : MTp t m) : MTp t m' := ⟨by rw [h.1 (0, 2) (by decide)]; exact q.1, by rw [h.2.1 1 (by decide)]; exact q.2⟩
theorem MPl_k {p : PD} {m m' : VM} (h : Kg 24 m m') (q : MPl p m) : MPl p m' := ⟨by rw [h.1 (0, 70) (by decide)]; exact q.1, by rw [h.2.1 36 (by decide)]; exact q.2⟩
theorem MWd_k {m m' : VM} (h : Kg 25 m m') (q : MWd m) : MWd m' := by unfold MWd; rw [h.2.2.2 5 (by decide)]; exact q
/-! rows with one place changed -/
def up1 {α : Type} (f : Nat → α) (i : Nat) (v : α) : Nat → α := fun j => if j = i then v else f j
theorem up1_eq {α : Type} (f : Nat → α) (i : Nat) (v : α) : up1 f i v i = v := if_pos rfl
theorem up1_ne {α : Type} (f : Nat → α) {i j : Nat} (v : α) (h : j ≠ i) : up1 f i v j = f j := if_neg h
/-! a trial is told -/
def trOk (d : TD) (b : BD) (a : Int) : Prop := (0 ≤ a ∧ a < (sN d : Int)) ∧ nT b < 60
def trB (d : TD) (b : BD) (a : Int) (rg : Bool) : BD := if (0 ≤ a ∧ a < (sN d : Int)) ∧ nT b < 60 then (nT b + 1, up1 (tS b) (nT b) a.toNat, up1 (tR b) (nT b) rg, nH b, hS b, hN b) else b
def trR (d : TD) (b : BD) (a : Int) : Int := if (0 ≤ a ∧ a < (sN d : Int)) ∧ nT b < 60 then (nT b : Int) else -1
theorem trB_wf {d : TD} {b : BD} (hd : wfD d) (hb : wfB d b) (a : Int) (rg : Bool) : wfB d (trB d b a rg) := by
  have hN := sN_le hd
  unfold trB
  by_cases q : (0 ≤ a ∧ a < (sN d : Int)) ∧ nT b < 60
  · rw [if_pos q]
    obtain ⟨b1, b2, b3, b4, b5⟩ := hb
    refine ⟨by show nT b + 1 ≤ 60; omega, b2, fun j hj => ?_, fun j hj => ?_, b5⟩
    · show up1 (tS b) (nT b) a.toNat j < 64
      by_cases e : j = nT b
      · rw [e, up1_eq]; omega
      · rw [up1_ne _ _ e]; exact b3 j hj
    · show up1 (tS b) (nT b) a.toNat j < sN d
      replace hj : j < nT b + 1 := hj
      by_cases e : j = nT b
      · rw [e, up1_eq]; omega
      · rw [up1_ne _ _ e]; exact b4 j (by omega)
  · rw [if_neg q]; exact hb
/-- either nothing has changed, or the book is older by one -/
def Upd (b : BD) (g : Nat) (m : VM) (b' : BD) (g' : Nat) (m' : VM) (gs : List Nat) : Prop := (b' = b ∧ g' = g ∧ m' = m) ∨ (g' = g + 1 ∧ Ks gs m m')
theorem CS0_upd {d : TD} {b b' : BD} {g z u : Nat} {A : Nat → Nat} {σ : AM} {m m' : VM} (C : CS0 d b g z u A σ m) (hg : g + 1 < 100000) (h : Ks [1, 10] m m') (hb : wfB d b') (hB : CBk b' m') (ha : m'.1 27 10 = iI ((g + 1 : Nat) : Int)) : CS0 d b' (g + 1) z u A σ m' := by
  obtain ⟨H, hd, hD, hM, hT, _, _, _, _, a, ha0, ha1, ha2, hv⟩ := C
  exact ⟨H, hd, hD, hM, CTw_k (h 10 (by decide)) hT, hb, hB, ha, hg, a, by rw [(h 1 (by decide)).1 (35, 9) (by decide)]; exact ha0, ha1, by omega, fun e => by omega⟩
theorem c_trial {d : TD} {b : BD} {g z u : Nat} {A : Nat → Nat} {σ : AM} {m : VM} (C : CS0 d b g z u A σ m) (hg : g + 1 < 100000) {a : Int} (h1 : -2147483648 ≤ a) (h2 : a < 2147483648) (rg : Bool) : ∃ (g' : Nat) (m' : VM), M_Bp_trial (A 0) (iI a) (bZ rg) (ov 68 A m σ) = some (iI (trR d b a), (ov 68 A (m') σ)) ∧ CS0 d (trB d b a rg) g' z u A σ m' ∧ Upd b g m (trB d b a rg) g' m' [1, 2, 3, 4, 5, 10, 12, 13, 14] := by
  have H := C.1
  have hd := C.2.1
  have hs := q_Tw_hasSet H hd C.2.2.2.2.1 h1 h2
  have hb := C.2.2.2.2.2.1
  have hB := C.2.2.2.2.2.2.1
  have h10 := C.2.2.2.2.2.2.2.1
  have hT := hb.1
  by_cases q : (0 ≤ a ∧ a < (sN d : Int)) ∧ nT b < 60
  · have hwf := trB_wf hd hb a rg
    have eB : trB d b a rg = (nT b + 1, up1 (tS b) (nT b) a.toNat, up1 (tR b) (nT b) rg, nH b, hS b, hN b) := if_pos q
    have eR : trR d b a = (nT b : Int) := if_pos q
    rw [eB] at hwf
    rw [eB, eR]
    rw [decide_eq_true q.1] at hs
    have q2 := q.2
    have ea : a = (a.toNat : Int) := by omega
    have hK : Ks [1, 2, 3, 4, 5, 10, 12, 13, 14] m (sV (sV (sV (sV m 28 (nT b) (iI a)) 29 (nT b) (bZ rg)) 27 7 (iI ((nT b + 1 : Nat) : Int))) 27 10 (iI ((g + 1 : Nat) : Int))) := Ks_V (Ks_V (Ks_A (Ks_A (Ks_r _ _) _ _ (by decide)) _ _ (by decide)) _ (by decide)) _ (by decide)
    refine ⟨g + 1, _, ?_, CS0_upd C hg (Ks_sub hK (by decide)) hwf ⟨⟨?_, ?_⟩, fun j hj => ?_, fun j hj => ?_, ?_, ?_⟩ ?_, Or.inr ⟨rfl, hK⟩⟩
    · have hadd : M_Bk_addTrial (A 27) (iI a) (bZ rg) (ov 68 A m σ) = some (iI (nT b : Int), (ov 68 A (sV (sV (sV (sV m 28 (nT b) (iI a)) 29 (nT b) (bZ rg)) 27 7 (iI ((nT b + 1 : Nat) : Int))) 27 10 (iI ((g + 1 : Nat) : Int))) σ)) := by
        have e1 : ((nT b + 1 : Nat) : Int) - 1 = (nT b : Int) := by omega
        unfold M_Bk_addTrial
        rw [E_Bk_addTrial_0]; simp (disch := omega) only [l_1, l_60, cK_27 H, cR_27_0 H, cK_28 H, cN_28 H, cR_27_1 H, cK_29 H, cN_29 H, letT_eq, gd_true, bnd_some, aR_ov, aK_ov, aN_ov, okO_ov, aI_ov H.1, aL_ov H.1, sI_ov H.1, sL_ov H.1, sV_eq, sV_ne, sV_2, sW_eq, sW_ne, sW_1, iI_add, iI_sub, iI_mul, iI_neg, iI_lt, iI_eq, iI_cl, nI_iI, gd_in, bZ_0, bZ_1, bZ_eq, isB_bZ, isB_0, isB_1, nar_bZ, nar_0, nar_1, mw_ov, iI_s, iI_na, iI_nm, Int.toNat_natCast, Int.add_zero, Int.zero_add, Nat.reduceEqDiff, Nat.reduceAdd, Int.reduceAdd, Int.reduceNeg, Int.reduceSub, Int.reduceMul, Int.reduceLT, Int.reduceEq, Int.reduceToNat, reduceCtorEq, ↓reduceIte, hB.1.1, h10, e1]
        rw [if_pos (by omega), mw_ov]
      unfold M_Bp_trial
      rw [E_Bp_trial_0]; simp (disch := omega) only [E_Bp_trial_1, l_0, l_1, cK_0 H, cR_0_1 H, cK_10 H, cR_0_3 H, cK_27 H, letT_eq, gd_true, bnd_some, aR_ov, aK_ov, aN_ov, okO_ov, aI_ov H.1, aL_ov H.1, sI_ov H.1, sL_ov H.1, sV_eq, sV_ne, sV_2, sW_eq, sW_ne, sW_1, iI_add, iI_sub, iI_mul, iI_neg, iI_lt, iI_eq, iI_cl, nI_iI, gd_in, bZ_0, bZ_1, bZ_eq, isB_bZ, isB_0, isB_1, nar_bZ, nar_0, nar_1, mw_ov, iI_s, iI_na, iI_nm, Int.toNat_natCast, Int.add_zero, Int.zero_add, Nat.reduceEqDiff, Nat.reduceAdd, Int.reduceAdd, Int.reduceNeg, Int.reduceSub, Int.reduceMul, Int.reduceLT, Int.reduceEq, Int.reduceToNat, reduceCtorEq, ↓reduceIte, hs, hadd]
    · simp (disch := decide) only [sV_eq, sW_eq, sV_ne, sW_ne, sV_2, sW_1, Nat.reduceEqDiff, ↓reduceIte]
    · simp (disch := decide) only [sV_eq, sW_eq, sV_ne, sW_ne, sV_2, sW_1, Nat.reduceEqDiff, ↓reduceIte]; exact hB.1.2
    · simp (disch := decide) only [sV_eq, sW_eq, sV_ne, sW_ne, sV_2, sW_1, Nat.reduceEqDiff, ↓reduceIte]
      show _ = iI ((up1 (tS b) (nT b) a.toNat j : Nat) : Int)
      by_cases e : j = nT b
      · rw [if_pos e, e, up1_eq, ← ea]
      · rw [if_neg e, up1_ne _ _ e]; exact hB.2.1 j hj
    · simp (disch := decide) only [sV_eq, sW_eq, sV_ne, sW_ne, sV_2, sW_1, Nat.reduceEqDiff, ↓reduceIte]
      show _ = bZ (up1 (tR b) (nT b) rg j)
      by_cases e : j = nT b
      · rw [if_pos e, e, up1_eq]
      · rw [if_neg e, up1_ne _ _ e]; exact hB.2.2.1 j hj
    · simp (disch := decide) only [sV_eq, sW_eq, sV_ne, sW_ne, sV_2, sW_1, Nat.reduceEqDiff, ↓reduceIte]; exact hB.2.2.2.1
    · simp (disch := decide) only [sV_eq, sW_eq, sV_ne, sW_ne, sV_2, sW_1, Nat.reduceEqDiff, ↓reduceIte]; exact hB.2.2.2.2
    · simp (disch := decide) only [sV_eq, sW_eq, sV_ne, sW_ne, sV_2, sW_1, Nat.reduceEqDiff, ↓reduceIte]
  · have eB : trB d b a rg = b := if_neg q
    have eR : trR d b a = -1 := if_neg q
    rw [eB, eR]
    refine ⟨g, m, ?_, C, Or.inl ⟨rfl, rfl, rfl⟩⟩
    by_cases q1 : 0 ≤ a ∧ a < (sN d : Int)
    · rw [decide_eq_true q1] at hs
      have hadd : M_Bk_addTrial (A 27) (iI a) (bZ rg) (ov 68 A m σ) = some (iI (-1), (ov 68 A m σ)) := by
        unfold M_Bk_addTrial
        rw [E_Bk_addTrial_0]
        simp (disch := omega) only [cK_27 H, okO_ov, gd_true, aI_ov H.1, hB.1.1, l_60, l_1, iI_neg, iI_lt]
        rw [if_neg (by omega), mw_ov]
      unfold M_Bp_trial
      rw [E_Bp_trial_0]; simp (disch := omega) only [E_Bp_trial_1, l_0, l_1, cK_0 H, cR_0_1 H, cK_10 H, cR_0_3 H, cK_27 H, letT_eq, gd_true, bnd_some, aR_ov, aK_ov, aN_ov, okO_ov, aI_ov H.1, aL_ov H.1, sI_ov H.1, sL_ov H.1, sV_eq, sV_ne, sV_2, sW_eq, sW_ne, sW_1, iI_add, iI_sub, iI_mul, iI_neg, iI_lt, iI_eq, iI_cl, nI_iI, gd_in, bZ_0, bZ_1, bZ_eq, isB_bZ, isB_0, isB_1, nar_bZ, nar_0, nar_1, mw_ov, iI_s, iI_na, iI_nm, Int.toNat_natCast, Int.add_zero, Int.zero_add, Nat.reduceEqDiff, Nat.reduceAdd, Int.reduceAdd, Int.reduceNeg, Int.reduceSub, Int.reduceMul, Int.reduceLT, Int.reduceEq, Int.reduceToNat, reduceCtorEq, ↓reduceIte, hs, hadd]
    · rw [decide_eq_false q1] at hs
      unfold M_Bp_trial
      rw [E_Bp_trial_0]; simp (disch := omega) only [E_Bp_trial_1, l_0, l_1, cK_0 H, cR_0_1 H, cK_10 H, cR_0_3 H, cK_27 H, letT_eq, gd_true, bnd_some, aR_ov, aK_ov, aN_ov, okO_ov, aI_ov H.1, aL_ov H.1, sI_ov H.1, sL_ov H.1, sV_eq, sV_ne, sV_2, sW_eq, sW_ne, sW_1, iI_add, iI_sub, iI_mul, iI_neg, iI_lt, iI_eq, iI_cl, nI_iI, gd_in, bZ_0, bZ_1, bZ_eq, isB_bZ, isB_0, isB_1, nar_bZ, nar_0, nar_1, mw_ov, iI_s, iI_na, iI_nm, Int.toNat_natCast, Int.add_zero, Int.zero_add, Nat.reduceEqDiff, Nat.reduceAdd, Int.reduceAdd, Int.reduceNeg, Int.reduceSub, Int.reduceMul, Int.reduceLT, Int.reduceEq, Int.reduceToNat, reduceCtorEq, ↓reduceIte, hs]
theorem m_trial {d : TD} {b : BD} {A : Nat → Nat} {σ : AM} {m : VM} (M : MS0 d b A σ m) {a : Int} (h1 : -2147483648 ≤ a) (h2 : a < 2147483648) (rg : Bool) : ∃ m' : VM, M_Md_trial (A 0) (iI a) (bZ rg) (ov 40 A m σ) = some (iI (trR d b a), (ov 40 A (m') σ)) ∧ MS0 d (trB d b a rg) A σ m' ∧ Ks [20, 22, 23, 24, 25] m m' := by
  obtain ⟨H, hd, hT, hb, hB⟩ := M
  have hs := q_Md_isSet H hd (MT_K (KM_0 m) hT) h1 h2
  have hT6 := hb.1
  by_cases q : (0 ≤ a ∧ a < (sN d : Int)) ∧ nT b < 60
  · have hwf := trB_wf hd hb a rg
    have eB : trB d b a rg = (nT b + 1, up1 (tS b) (nT b) a.toNat, up1 (tR b) (nT b) rg, nH b, hS b, hN b) := if_pos q
    have eR : trR d b a = (nT b : Int) := if_pos q
    rw [eB] at hwf
    rw [eB, eR]
    rw [decide_eq_true q.1] at hs
    have q2 := q.2
    have ea : a = (a.toNat : Int) := by omega
    have e1 : ((nT b + 1 : Nat) : Int) - 1 = (nT b : Int) := by omega
    have hK : Ks [20, 22, 23, 24, 25] m (sV (sV (sV (sV m 0 0 (iI 0)) 21 (nT b) (iI a)) 22 (nT b) (bZ rg)) 0 37 (iI ((nT b + 1 : Nat) : Int))) := Ks_V (Ks_A (Ks_A (Ks_V (Ks_r _ _) _ (by decide)) _ _ (by decide)) _ _ (by decide)) _ (by decide)
    refine ⟨_, ?_, ⟨H, hd, MT_k (hK 20 (by decide)) hT, hwf, ⟨?_, ?_⟩, fun j hj => ?_, fun j hj => ?_, ?_, ?_⟩, hK⟩
    · unfold M_Md_trial
      rw [E_Md_trial_0]; simp (disch := omega) only [E_Md_trial_1, l_0, l_1, l_60, mK_0 H, mR_38 H, mK_21 H, mN_21 H, mR_39 H, mK_22 H, mN_22 H, letT_eq, gd_true, bnd_some, aR_ov, aK_ov, aN_ov, okO_ov, aI_ov H.1, aL_ov H.1, sI_ov H.1, sL_ov H.1, sV_eq, sV_ne, sV_2, sW_eq, sW_ne, sW_1, iI_add, iI_sub, iI_mul, iI_neg, iI_lt, iI_eq, iI_cl, nI_iI, gd_in, bZ_0, bZ_1, bZ_eq, isB_bZ, isB_0, isB_1, nar_bZ, nar_0, nar_1, mw_ov, iI_s, iI_na, iI_nm, Int.toNat_natCast, Int.add_zero, Int.zero_add, Nat.reduceEqDiff, Nat.reduceAdd, Int.reduceAdd, Int.reduceNeg, Int.reduceSub, Int.reduceMul, Int.reduceLT, Int.reduceEq, Int.reduceToNat, reduceCtorEq, ↓reduceIte, hs, hB.1.1, e1]
      rw [if_neg (by omega), mw_ov]
    · simp (disch := decide) only [sV_eq, sW_eq, sV_ne, sW_ne, sV_2, sW_1, Nat.reduceEqDiff, ↓reduceIte]
    · simp (disch := decide) only [sV_eq, sW_eq, sV_ne, sW_ne, sV_2, sW_1, Nat.reduceEqDiff, ↓reduceIte]; exact hB.1.2
    · simp (disch := decide) only [sV_eq, sW_eq, sV_ne, sW_ne, sV_2, sW_1, Nat.reduceEqDiff, ↓reduceIte]
      show _ = iI ((up1 (tS b) (nT b) a.toNat j : Nat) : Int)
      by_cases e : j = nT b
      · rw [if_pos e, e, up1_eq, ← ea]
      · rw [if_neg e, up1_ne _ _ e]; exact hB.2.1 j hj
    · simp (disch := decide) only [sV_eq, sW_eq, sV_ne, sW_ne, sV_2, sW_1, Nat.reduceEqDiff, ↓reduceIte]
      show _ = bZ (up1 (tR b) (nT b) rg j)
      by_cases e : j = nT b
      · rw [if_pos e, e, up1_eq]
      · rw [if_neg e, up1_ne _ _ e]; exact hB.2.2.1 j hj
    · simp (disch := decide) only [sV_eq, sW_eq, sV_ne, sW_ne, sV_2, sW_1, Nat.reduceEqDiff, ↓reduceIte]; exact hB.2.2.2.1
    · simp (disch := decide) only [sV_eq, sW_eq, sV_ne, sW_ne, sV_2, sW_1, Nat.reduceEqDiff, ↓reduceIte]; exact hB.2.2.2.2
  · have eB : trB d b a rg = b := if_neg q
    have eR : trR d b a = -1 := if_neg q
    rw [eB, eR]
    have hK : Ks [20, 22, 23, 24, 25] m (sV m 0 0 (iI 0)) := Ks_V (Ks_r _ _) _ (by decide)
    refine ⟨sV m 0 0 (iI 0), ?_, ⟨H, hd, MT_K (KM_0 m) hT, hb, MB_K (KM_0 m) hB⟩, hK⟩
    by_cases q1 : 0 ≤ a ∧ a < (sN d : Int)
    · rw [decide_eq_true q1] at hs
      unfold M_Md_trial
      rw [E_Md_trial_0]
      simp (disch := omega) only [E_Md_trial_1, mK_0 H, okO_ov, gd_true, letT_eq, sI_ov H.1, l_0, l_1, l_60, iI_neg, hs, bnd_some, bZ_0, aI_ov H.1, sV_eq, hB.1.1, iI_eq, reduceCtorEq, ↓reduceIte, Nat.reduceEqDiff]
      rw [if_pos (by omega), mw_ov]
    · rw [decide_eq_false q1] at hs
      unfold M_Md_trial
      rw [E_Md_trial_0]; simp (disch := omega) only [E_Md_trial_1, l_0, l_1, l_60, mK_0 H, mR_38 H, mK_21 H, mN_21 H, mR_39 H, mK_22 H, mN_22 H, letT_eq, gd_true, bnd_some, aR_ov, aK_ov, aN_ov, okO_ov, aI_ov H.1, aL_ov H.1, sI_ov H.1, sL_ov H.1, sV_eq, sV_ne, sV_2, sW_eq, sW_ne, sW_1, iI_add, iI_sub, iI_mul, iI_neg, iI_lt, iI_eq, iI_cl, nI_iI, gd_in, bZ_0, bZ_1, bZ_eq, isB_bZ, isB_0, isB_1, nar_bZ, nar_0, nar_1, mw_ov, iI_s, iI_na, iI_nm, Int.toNat_natCast, Int.add_zero, Int.zero_add, Nat.reduceEqDiff, Nat.reduceAdd, Int.reduceAdd, Int.reduceNeg, Int.reduceSub, Int.reduceMul, Int.reduceLT, Int.reduceEq, Int.reduceToNat, reduceCtorEq, ↓reduceIte, hs]
