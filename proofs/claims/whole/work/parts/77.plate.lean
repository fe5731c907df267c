/-! ===== the plate ===== -/
theorem php (n : Nat) : ∀ f : Nat → Nat, (∀ i, i < n + 1 → f i < n) → ∃ i j, i < j ∧ j < n + 1 ∧ f i = f j := by
  induction n with
  | zero => intro f h; exact absurd (h 0 (by omega)) (Nat.not_lt_zero _)
  | succ n ih =>
    intro f h
    by_cases hd : ∃ i, i < n + 1 ∧ f i = f (n + 1)
    · obtain ⟨i, h1, h2⟩ := hd
      exact ⟨i, n + 1, h1, by omega, h2⟩
    · have hn : ∀ i, i < n + 1 → f i ≠ f (n + 1) := fun i hi e => hd ⟨i, hi, e⟩
      have hl := h (n + 1) (by omega)
      obtain ⟨i, j, h1, h2, h3⟩ := ih (fun i => if f i = n then f (n + 1) else f i) (fun i hi => by
        have a1 := h i (by omega)
        have a2 := hn i hi
        show (if f i = n then f (n + 1) else f i) < n
        split <;> omega)
      refine ⟨i, j, h1, by omega, ?_⟩
      have a1 := hn i (by omega)
      have a2 := hn j (by omega)
      replace h3 : (if f i = n then f (n + 1) else f i) = (if f j = n then f (n + 1) else f j) := h3
      split at h3 <;> split at h3 <;> omega
/-- the plate keeps to the tower: things of it, none twice -/
def wfP (d : TD) (p : PD) : Prop := p.1 ≤ 6 ∧ (∀ j, j < p.1 → p.2 j < dT d) ∧ ∀ i j, i < j → j < p.1 → p.2 i ≠ p.2 j
def onP (p : PD) (a : Int) : Prop := ∃ i, i < p.1 ∧ (p.2 i : Int) = a
theorem lay_room {d : TD} {p : PD} (hp : wfP d p) {n : Nat} (hn : n < dT d) (h : ∀ i, i < p.1 → p.2 i ≠ n) : p.1 < dT d := by
  apply Classical.byContradiction
  intro hge
  obtain ⟨i, j, h1, h2, h3⟩ := php (dT d) (fun i => if i < dT d then p.2 i else n) (fun i hi => by
    show (if i < dT d then p.2 i else n) < dT d
    split
    · exact hp.2.1 i (by omega)
    · exact hn)
  replace h3 : (if i < dT d then p.2 i else n) = (if j < dT d then p.2 j else n) := h3
  rw [if_pos (by omega)] at h3
  by_cases c : j < dT d
  · rw [if_pos c] at h3; exact hp.2.2 i j h1 (by omega) h3
  · rw [if_neg c] at h3; exact h i (by omega) h3
def offP (p : PD) (n : Nat) : Bool := allN p.1 (fun i => !decide (p.2 i = n))
theorem offP_iff {p : PD} {n : Nat} : offP p n = true ↔ ∀ i, i < p.1 → p.2 i ≠ n := by
  unfold offP
  rw [allN_iff]
  constructor
  · intro h i hi; have := h i hi; simpa using this
  · intro h i hi; have := h i hi; simpa using this
def layP (d : TD) (p : PD) (a : Int) : PD := if (0 ≤ a ∧ a < (dT d : Int)) ∧ offP p a.toNat = true then (p.1 + 1, up1 p.2 p.1 a.toNat) else p
def layR (d : TD) (p : PD) (a : Int) : Int := if (0 ≤ a ∧ a < (dT d : Int)) ∧ offP p a.toNat = true then ((p.1 + 1 : Nat) : Int) else -1
theorem layP_wf {d : TD} {p : PD} (hd : wfD d) (hp : wfP d p) (a : Int) : wfP d (layP d p a) := by
  unfold layP
  by_cases q : (0 ≤ a ∧ a < (dT d : Int)) ∧ offP p a.toNat = true
  · rw [if_pos q]
    have ho := offP_iff.mp q.2
    have hr := lay_room hp (n := a.toNat) (by omega) ho
    have := hd.1
    refine ⟨by show p.1 + 1 ≤ 6; omega, fun j hj => ?_, fun i j h1 h2 => ?_⟩
    · show up1 p.2 p.1 a.toNat j < dT d
      replace hj : j < p.1 + 1 := hj
      by_cases e : j = p.1
      · rw [e, up1_eq]; omega
      · rw [up1_ne _ _ e]; exact hp.2.1 j (by omega)
    · show up1 p.2 p.1 a.toNat i ≠ up1 p.2 p.1 a.toNat j
      replace h2 : j < p.1 + 1 := h2
      rw [up1_ne _ _ (show i ≠ p.1 by omega)]
      by_cases e : j = p.1
      · rw [e, up1_eq]; exact ho i (by omega)
      · rw [up1_ne _ _ e]; exact hp.2.2 i j h1 (by omega)
  · rw [if_neg q]; exact hp
theorem c_lay {d : TD} {b : BD} {g z u : Nat} {A : Nat → Nat} {σ : AM} {m : VM} (C : CS0 d b g z u A σ m) {p : PD} (hp : wfP d p) (hP : CPl p m) {a : Int} (h1 : -2147483648 ≤ a) (h2 : a < 2147483648) : ∃ m' : VM, M_Bp_lay (A 0) (iI a) (ov 68 A m σ) = some (iI (layR d p a), (ov 68 A (m') σ)) ∧ CPl (layP d p a) m' ∧ Ks [1, 2, 3, 4, 5, 10, 11, 12, 13, 15] m m' := by
  obtain ⟨H, hd, hD, _, hT, _⟩ := C
  have hs := q_Tw_hasThing H hd hT h1 h2
  have hT6 := hd.1
  have hp6 := hp.1
  obtain ⟨P1, P2⟩ := hP
  by_cases q1 : 0 ≤ a ∧ a < (dT d : Int)
  · rw [decide_eq_true q1] at hs
    obtain ⟨n, rfl⟩ := Int.eq_ofNat_of_zero_le q1.1
    by_cases q2 : offP p n = true
    · have ho := offP_iff.mp q2
      have hr := lay_room hp (n := n) (by omega) ho
      have eP : layP d p (n : Int) = (p.1 + 1, up1 p.2 p.1 n) := if_pos ⟨q1, q2⟩
      have eR : layR d p (n : Int) = ((p.1 + 1 : Nat) : Int) := if_pos ⟨q1, q2⟩
      rw [eP, eR]
      have hK : Ks [1, 2, 3, 4, 5, 10, 11, 12, 13, 15] m (sV (sV m 67 p.1 (iI (n : Int))) 0 11 (iI ((p.1 + 1 : Nat) : Int))) := Ks_V (Ks_A (Ks_r _ _) _ _ (by decide)) _ (by decide)
      refine ⟨_, ?_, ⟨?_, fun j hj => ?_⟩, hK⟩
      · have hl := up_loop (fun k => L_Bp_lay_2 (A 0) (iI (n : Int)) (iI (k : Int)) (ov 68 A m σ)) p.1 (some (iI ((p.1 + 1 : Nat) : Int), (ov 68 A (sV (sV m 67 p.1 (iI (n : Int))) 0 11 (iI ((p.1 + 1 : Nat) : Int))) σ))) (fun k hk ih => by
          have e1 := P2 k hk
          have e2 := hp.2.1 k hk
          have e3 := ho k hk
          show L_Bp_lay_2 _ _ _ _ = _
          rw [E_Bp_lay_2]; simp (disch := omega) only [l_1, cK_0 H, cR_0_10 H, cK_67 H, cN_67 H, letT_eq, gd_true, bnd_some, aR_ov, aK_ov, aN_ov, okO_ov, aI_ov H.1, aL_ov H.1, sI_ov H.1, sL_ov H.1, sV_eq, sV_ne, sV_2, sW_eq, sW_ne, sW_1, iI_add, iI_sub, iI_mul, iI_neg, iI_lt, iI_eq, iI_cl, nI_iI, gd_in, bZ_0, bZ_1, bZ_eq, isB_bZ, isB_0, isB_1, nar_bZ, nar_0, nar_1, mw_ov, iI_s, iI_na, iI_nm, Int.toNat_natCast, Int.add_zero, Int.zero_add, Nat.reduceEqDiff, Nat.reduceAdd, Int.reduceAdd, Int.reduceNeg, Int.reduceSub, Int.reduceMul, Int.reduceLT, Int.reduceEq, Int.reduceToNat, reduceCtorEq, ↓reduceIte, P1, e1]
          rw [if_pos (by omega), if_neg (by omega)]
          exact ih) (by
          show L_Bp_lay_2 _ _ _ _ = _
          rw [E_Bp_lay_2]; simp (disch := omega) only [l_1, cK_0 H, cR_0_10 H, cK_67 H, cN_67 H, letT_eq, gd_true, bnd_some, aR_ov, aK_ov, aN_ov, okO_ov, aI_ov H.1, aL_ov H.1, sI_ov H.1, sL_ov H.1, sV_eq, sV_ne, sV_2, sW_eq, sW_ne, sW_1, iI_add, iI_sub, iI_mul, iI_neg, iI_lt, iI_eq, iI_cl, nI_iI, gd_in, bZ_0, bZ_1, bZ_eq, isB_bZ, isB_0, isB_1, nar_bZ, nar_0, nar_1, mw_ov, iI_s, iI_na, iI_nm, Int.toNat_natCast, Int.add_zero, Int.zero_add, Nat.reduceEqDiff, Nat.reduceAdd, Int.reduceAdd, Int.reduceNeg, Int.reduceSub, Int.reduceMul, Int.reduceLT, Int.reduceEq, Int.reduceToNat, reduceCtorEq, ↓reduceIte, P1]
          rw [if_neg (by omega)]) 0 (Nat.zero_le _)
        replace hl : L_Bp_lay_2 (A 0) (iI (n : Int)) (iI 0) (ov 68 A m σ) = _ := hl
        unfold M_Bp_lay
        rw [E_Bp_lay_0]
        simp (disch := omega) only [cK_0 H, cR_0_1 H, cK_10 H, cR_0_10 H, cK_67 H, cN_67 H, okO_ov, aR_ov, aN_ov, gd_true, hs, bnd_some, bZ_0, l_0, aI_ov H.1, P1, nI_iI, iI_lt, reduceCtorEq, ↓reduceIte, hl]
        rw [if_pos (by omega), mw_ov]
      · simp (disch := decide) only [sV_eq, sW_eq, sV_ne, sW_ne, sV_2, sW_1, Nat.reduceEqDiff, ↓reduceIte]
      · simp (disch := decide) only [sV_eq, sW_eq, sV_ne, sW_ne, sV_2, sW_1, Nat.reduceEqDiff, ↓reduceIte]
        show _ = iI ((up1 p.2 p.1 n j : Nat) : Int)
        replace hj : j < p.1 + 1 := hj
        by_cases e : j = p.1
        · rw [if_pos e, e, up1_eq]
        · rw [if_neg e, up1_ne _ _ e]; exact P2 j (by omega)
    · have eP : layP d p (n : Int) = p := if_neg (fun z => q2 z.2)
      have eR : layR d p (n : Int) = -1 := if_neg (fun z => q2 z.2)
      rw [eP, eR]
      refine ⟨m, ?_, ⟨P1, P2⟩, Ks_r _ _⟩
      have hl := up_loopI (fun k (_ : Unit) => L_Bp_lay_2 (A 0) (iI (n : Int)) (iI (k : Int)) (ov 68 A m σ)) (fun k _ => ∀ i, i < k → p.2 i ≠ n) (fun x => x = some (iI (-1), (ov 68 A m σ))) p.1 (fun k _ hk hI ih => by
        have e1 := P2 k hk
        have e2 := hp.2.1 k hk
        show L_Bp_lay_2 _ _ _ _ = _
        rw [E_Bp_lay_2]; simp (disch := omega) only [l_1, cK_0 H, cR_0_10 H, cK_67 H, cN_67 H, letT_eq, gd_true, bnd_some, aR_ov, aK_ov, aN_ov, okO_ov, aI_ov H.1, aL_ov H.1, sI_ov H.1, sL_ov H.1, sV_eq, sV_ne, sV_2, sW_eq, sW_ne, sW_1, iI_add, iI_sub, iI_mul, iI_neg, iI_lt, iI_eq, iI_cl, nI_iI, gd_in, bZ_0, bZ_1, bZ_eq, isB_bZ, isB_0, isB_1, nar_bZ, nar_0, nar_1, mw_ov, iI_s, iI_na, iI_nm, Int.toNat_natCast, Int.add_zero, Int.zero_add, Nat.reduceEqDiff, Nat.reduceAdd, Int.reduceAdd, Int.reduceNeg, Int.reduceSub, Int.reduceMul, Int.reduceLT, Int.reduceEq, Int.reduceToNat, reduceCtorEq, ↓reduceIte, P1, e1]
        rw [if_pos (by omega)]
        by_cases c : p.2 k = n
        · rw [if_pos (by omega)]
        · rw [if_neg (by omega)]
          exact ih () fun i hi => by
            by_cases e : i = k
            · rw [e]; exact c
            · exact hI i (by omega)) (fun _ hI => absurd (offP_iff.mpr hI) q2) 0 () (Nat.zero_le _) (fun i hi => absurd hi (Nat.not_lt_zero i))
      replace hl : L_Bp_lay_2 (A 0) (iI (n : Int)) (iI 0) (ov 68 A m σ) = _ := hl
      unfold M_Bp_lay
      rw [E_Bp_lay_0]
      simp (disch := omega) only [E_Bp_lay_1, cK_0 H, cR_0_1 H, cK_10 H, cR_0_10 H, cK_67 H, cN_67 H, okO_ov, aR_ov, aN_ov, gd_true, hs, bnd_some, bZ_0, l_0, l_1, iI_neg, aI_ov H.1, P1, nI_iI, iI_lt, reduceCtorEq, ↓reduceIte, hl]
      split <;> exact mw_ov _ _ _ _ _ _
  · rw [decide_eq_false q1] at hs
    have eP : layP d p a = p := if_neg (fun z => q1 z.1)
    have eR : layR d p a = -1 := if_neg (fun z => q1 z.1)
    rw [eP, eR]
    refine ⟨m, ?_, ⟨P1, P2⟩, Ks_r _ _⟩
    unfold M_Bp_lay
    rw [E_Bp_lay_0]; simp (disch := omega) only [E_Bp_lay_1, l_0, l_1, cK_0 H, cR_0_1 H, cK_10 H, cR_0_10 H, cK_67 H, cN_67 H, letT_eq, gd_true, bnd_some, aR_ov, aK_ov, aN_ov, okO_ov, aI_ov H.1, aL_ov H.1, sI_ov H.1, sL_ov H.1, sV_eq, sV_ne, sV_2, sW_eq, sW_ne, sW_1, iI_add, iI_sub, iI_mul, iI_neg, iI_lt, iI_eq, iI_cl, nI_iI, gd_in, bZ_0, bZ_1, bZ_eq, isB_bZ, isB_0, isB_1, nar_bZ, nar_0, nar_1, mw_ov, iI_s, iI_na, iI_nm, Int.toNat_natCast, Int.add_zero, Int.zero_add, Nat.reduceEqDiff, Nat.reduceAdd, Int.reduceAdd, Int.reduceNeg, Int.reduceSub, Int.reduceMul, Int.reduceLT, Int.reduceEq, Int.reduceToNat, reduceCtorEq, ↓reduceIte, hs]
def thN (p : PD) (a : Int) (k : Nat) : Bool := anyN k (fun i => decide ((p.2 i : Int) = a))
theorem Md_lay1 {d : TD} {A : Nat → Nat} {σ : AM} (H : LM A σ) (hd : wfD d) {p : PD} (hp : wfP d p) {m : VM} (hP : MPl p m) {a : Int} (h1 : -2147483648 ≤ a) (h2 : a < 2147483648) (k : Nat) (hk : k < p.1) : L_Md_lay_1 (A 0) (iI a) (bZ (thN p a k)) (iI (k : Int)) (ov 40 A m σ) = L_Md_lay_1 (A 0) (iI a) (bZ (thN p a (k + 1))) (iI ((k + 1 : Nat) : Int)) (ov 40 A m σ) := by
  have e1 := hP.2 k hk
  have e2 := hp.2.1 k hk
  have hp6 := hp.1
  have hT := hd.1
  have es : thN p a (k + 1) = (thN p a k || decide ((p.2 k : Int) = a)) := anyN_s _ _
  rw [es]
  cases q : thN p a k
  · rw [E_Md_lay_1]; simp (disch := omega) only [E_Md_lay_2, E_Md_lay_3, E_Md_lay_4, l_0, l_1, mK_0 H, mR_71 H, mK_36 H, mN_36 H, letT_eq, gd_true, bnd_some, aR_ov, aK_ov, aN_ov, okO_ov, aI_ov H.1, aL_ov H.1, sI_ov H.1, sL_ov H.1, sV_eq, sV_ne, sV_2, sW_eq, sW_ne, sW_1, iI_add, iI_sub, iI_mul, iI_neg, iI_lt, iI_eq, iI_cl, nI_iI, gd_in, bZ_0, bZ_1, bZ_eq, isB_bZ, isB_0, isB_1, nar_bZ, nar_0, nar_1, mw_ov, iI_s, iI_na, iI_nm, Int.toNat_natCast, Int.add_zero, Int.zero_add, Nat.reduceEqDiff, Nat.reduceAdd, Int.reduceAdd, Int.reduceNeg, Int.reduceSub, Int.reduceMul, Int.reduceLT, Int.reduceEq, Int.reduceToNat, reduceCtorEq, ↓reduceIte, hP.1, e1]
    rw [if_pos (by omega)]
    by_cases c : (p.2 k : Int) = a
    · rw [if_pos c, decide_eq_true c]; rfl
    · rw [if_neg c, decide_eq_false c]; rfl
  · rw [E_Md_lay_1]; simp (disch := omega) only [E_Md_lay_2, E_Md_lay_3, E_Md_lay_4, l_0, l_1, mK_0 H, mR_71 H, mK_36 H, mN_36 H, letT_eq, gd_true, bnd_some, aR_ov, aK_ov, aN_ov, okO_ov, aI_ov H.1, aL_ov H.1, sI_ov H.1, sL_ov H.1, sV_eq, sV_ne, sV_2, sW_eq, sW_ne, sW_1, iI_add, iI_sub, iI_mul, iI_neg, iI_lt, iI_eq, iI_cl, nI_iI, gd_in, bZ_0, bZ_1, bZ_eq, isB_bZ, isB_0, isB_1, nar_bZ, nar_0, nar_1, mw_ov, iI_s, iI_na, iI_nm, Int.toNat_natCast, Int.add_zero, Int.zero_add, Nat.reduceEqDiff, Nat.reduceAdd, Int.reduceAdd, Int.reduceNeg, Int.reduceSub, Int.reduceMul, Int.reduceLT, Int.reduceEq, Int.reduceToNat, reduceCtorEq, ↓reduceIte, hP.1, e1]
    rw [if_pos (by omega)]; rfl
theorem thN_off {p : PD} {n : Nat} : thN p (n : Int) p.1 = !offP p n := by
  rw [Bool.eq_iff_iff, Bool.not_eq_true']
  unfold thN
  rw [anyN_iff]
  constructor
  · rintro ⟨i, hi, h⟩
    cases q : offP p n
    · rfl
    · exact absurd (by have := of_decide_eq_true h; omega) (offP_iff.mp q i hi)
  · intro h
    apply Classical.byContradiction
    intro hne
    have : offP p n = true := offP_iff.mpr fun i hi e => hne ⟨i, hi, decide_eq_true (by omega)⟩
    rw [h] at this; cases this
theorem m_lay {d : TD} {b : BD} {A : Nat → Nat} {σ : AM} {m : VM} (M : MS0 d b A σ m) {p : PD} (hp : wfP d p) (hP : MPl p m) {a : Int} (h1 : -2147483648 ≤ a) (h2 : a < 2147483648) : ∃ m' : VM, M_Md_lay (A 0) (iI a) (ov 40 A m σ) = some (iI (layR d p a), (ov 40 A (m') σ)) ∧ MPl (layP d p a) m' ∧ Ks [20, 21, 22, 23, 25] m m' := by
  obtain ⟨H, hd, hT, hb, hB⟩ := M
  have hP0 := MPl_K (KM_0 m) hP
  have hs := q_Md_isThing H hd (MT_K (KM_0 m) hT) h1 h2
  have hK0 : Ks [20, 21, 22, 23, 25] m (sV m 0 0 (iI 0)) := Ks_V (Ks_r _ _) _ (by decide)
  have hT6 := hd.1
  have hp6 := hp.1
  have loop : ∀ r, L_Md_lay_1 (A 0) (iI a) (bZ (thN p a p.1)) (iI (p.1 : Int)) (ov 40 A (sV m 0 0 (iI 0)) σ) = r → L_Md_lay_1 (A 0) (iI a) (iI 0) (iI 0) (ov 40 A (sV m 0 0 (iI 0)) σ) = r := fun r hr => up_loop (fun k => L_Md_lay_1 (A 0) (iI a) (bZ (thN p a k)) (iI (k : Int)) (ov 40 A (sV m 0 0 (iI 0)) σ)) p.1 r (fun k hk ih => (Md_lay1 H hd hp hP0 h1 h2 k hk).trans ih) hr 0 (Nat.zero_le _)
  by_cases q1 : 0 ≤ a ∧ a < (dT d : Int)
  · rw [decide_eq_true q1] at hs
    obtain ⟨n, rfl⟩ := Int.eq_ofNat_of_zero_le q1.1
    by_cases q2 : offP p n = true
    · have ho := offP_iff.mp q2
      have hr := lay_room hp (n := n) (by omega) ho
      have eP : layP d p (n : Int) = (p.1 + 1, up1 p.2 p.1 n) := if_pos ⟨q1, q2⟩
      have eR : layR d p (n : Int) = ((p.1 + 1 : Nat) : Int) := if_pos ⟨q1, q2⟩
      rw [eP, eR]
      refine ⟨sV (sV (sV m 0 0 (iI 0)) 36 p.1 (iI (n : Int))) 0 70 (iI ((p.1 + 1 : Nat) : Int)), ?_, ⟨?_, fun j hj => ?_⟩, Ks_V (Ks_A hK0 _ _ (by decide)) _ (by decide)⟩
      · have hl := loop (some (iI ((p.1 + 1 : Nat) : Int), (ov 40 A (sV (sV (sV m 0 0 (iI 0)) 36 p.1 (iI (n : Int))) 0 70 (iI ((p.1 + 1 : Nat) : Int))) σ))) (by
          rw [thN_off, q2]
          have g1 := hP.1
          rw [E_Md_lay_1]; simp (disch := omega) only [E_Md_lay_2, E_Md_lay_3, E_Md_lay_4, l_0, l_1, mK_0 H, mR_71 H, mK_36 H, mN_36 H, letT_eq, gd_true, bnd_some, aR_ov, aK_ov, aN_ov, okO_ov, aI_ov H.1, aL_ov H.1, sI_ov H.1, sL_ov H.1, sV_eq, sV_ne, sV_2, sW_eq, sW_ne, sW_1, iI_add, iI_sub, iI_mul, iI_neg, iI_lt, iI_eq, iI_cl, nI_iI, gd_in, bZ_0, bZ_1, bZ_eq, isB_bZ, isB_0, isB_1, nar_bZ, nar_0, nar_1, mw_ov, iI_s, iI_na, iI_nm, Int.toNat_natCast, Int.add_zero, Int.zero_add, Nat.reduceEqDiff, Nat.reduceAdd, Int.reduceAdd, Int.reduceNeg, Int.reduceSub, Int.reduceMul, Int.reduceLT, Int.reduceEq, Int.reduceToNat, reduceCtorEq, ↓reduceIte, g1, hs]
          rw [if_neg (by omega)]
          rfl)
        unfold M_Md_lay
        rw [E_Md_lay_0]; simp (disch := omega) only [l_0, mK_0 H, letT_eq, gd_true, bnd_some, aR_ov, aK_ov, aN_ov, okO_ov, aI_ov H.1, aL_ov H.1, sI_ov H.1, sL_ov H.1, sV_eq, sV_ne, sV_2, sW_eq, sW_ne, sW_1, iI_add, iI_sub, iI_mul, iI_neg, iI_lt, iI_eq, iI_cl, nI_iI, gd_in, bZ_0, bZ_1, bZ_eq, isB_bZ, isB_0, isB_1, nar_bZ, nar_0, nar_1, mw_ov, iI_s, iI_na, iI_nm, Int.toNat_natCast, Int.add_zero, Int.zero_add, Nat.reduceEqDiff, Nat.reduceAdd, Int.reduceAdd, Int.reduceNeg, Int.reduceSub, Int.reduceMul, Int.reduceLT, Int.reduceEq, Int.reduceToNat, reduceCtorEq, ↓reduceIte, hl]
      · simp (disch := decide) only [sV_eq, sW_eq, sV_ne, sW_ne, sV_2, sW_1, Nat.reduceEqDiff, ↓reduceIte]
      · simp (disch := decide) only [sV_eq, sW_eq, sV_ne, sW_ne, sV_2, sW_1, Nat.reduceEqDiff, ↓reduceIte]
        show _ = iI ((up1 p.2 p.1 n j : Nat) : Int)
        replace hj : j < p.1 + 1 := hj
        by_cases e : j = p.1
        · rw [if_pos e, e, up1_eq]
        · rw [if_neg e, up1_ne _ _ e]; exact hP.2 j (by omega)
    · have eP : layP d p (n : Int) = p := if_neg (fun z => q2 z.2)
      have eR : layR d p (n : Int) = -1 := if_neg (fun z => q2 z.2)
      rw [eP, eR]
      refine ⟨sV m 0 0 (iI 0), ?_, hP0, hK0⟩
      have hl := loop (some (iI (-1), (ov 40 A (sV m 0 0 (iI 0)) σ))) (by
        rw [thN_off]
        rw [Bool.not_eq_true] at q2
        rw [q2]
        have g1 := hP.1
        rw [E_Md_lay_1]
        simp (disch := omega) only [E_Md_lay_4, mK_0 H, okO_ov, gd_true, aI_ov H.1, sV_eq, g1, iI_lt, hs, bnd_some, bZ_0, l_0, l_1, iI_neg, reduceCtorEq, ↓reduceIte, Bool.not_false, Nat.reduceEqDiff]
        rw [if_neg (by omega)])
      unfold M_Md_lay
      rw [E_Md_lay_0]; simp (disch := omega) only [l_0, mK_0 H, letT_eq, gd_true, bnd_some, aR_ov, aK_ov, aN_ov, okO_ov, aI_ov H.1, aL_ov H.1, sI_ov H.1, sL_ov H.1, sV_eq, sV_ne, sV_2, sW_eq, sW_ne, sW_1, iI_add, iI_sub, iI_mul, iI_neg, iI_lt, iI_eq, iI_cl, nI_iI, gd_in, bZ_0, bZ_1, bZ_eq, isB_bZ, isB_0, isB_1, nar_bZ, nar_0, nar_1, mw_ov, iI_s, iI_na, iI_nm, Int.toNat_natCast, Int.add_zero, Int.zero_add, Nat.reduceEqDiff, Nat.reduceAdd, Int.reduceAdd, Int.reduceNeg, Int.reduceSub, Int.reduceMul, Int.reduceLT, Int.reduceEq, Int.reduceToNat, reduceCtorEq, ↓reduceIte, hl]
  · rw [decide_eq_false q1] at hs
    have eP : layP d p a = p := if_neg (fun z => q1 z.1)
    have eR : layR d p a = -1 := if_neg (fun z => q1 z.1)
    rw [eP, eR]
    refine ⟨sV m 0 0 (iI 0), ?_, hP0, hK0⟩
    have hl := loop (some (iI (-1), (ov 40 A (sV m 0 0 (iI 0)) σ))) (by
      have g1 := hP.1
      rw [E_Md_lay_1]
      simp (disch := omega) only [E_Md_lay_4, mK_0 H, okO_ov, gd_true, aI_ov H.1, sV_eq, g1, iI_lt, hs, bnd_some, bZ_0, l_0, l_1, iI_neg, reduceCtorEq, ↓reduceIte, Nat.reduceEqDiff]
      rw [if_neg (by omega)])
    unfold M_Md_lay
    rw [E_Md_lay_0]; simp (disch := omega) only [l_0, mK_0 H, letT_eq, gd_true, bnd_some, aR_ov, aK_ov, aN_ov, okO_ov, aI_ov H.1, aL_ov H.1, sI_ov H.1, sL_ov H.1, sV_eq, sV_ne, sV_2, sW_eq, sW_ne, sW_1, iI_add, iI_sub, iI_mul, iI_neg, iI_lt, iI_eq, iI_cl, nI_iI, gd_in, bZ_0, bZ_1, bZ_eq, isB_bZ, isB_0, isB_1, nar_bZ, nar_0, nar_1, mw_ov, iI_s, iI_na, iI_nm, Int.toNat_natCast, Int.add_zero, Int.zero_add, Nat.reduceEqDiff, Nat.reduceAdd, Int.reduceAdd, Int.reduceNeg, Int.reduceSub, Int.reduceMul, Int.reduceLT, Int.reduceEq, Int.reduceToNat, reduceCtorEq, ↓reduceIte, hl]
theorem c_clear {A : Nat → Nat} {σ : AM} (H : LC A σ) (m : VM) (f : Nat → Nat) : ∃ m' : VM, M_Bp_clear (A 0) (ov 68 A m σ) = some (iI 1, (ov 68 A (m') σ)) ∧ CPl (0, f) m' ∧ Ks [1, 2, 3, 4, 5, 10, 11, 12, 13, 15] m m' := by
  refine ⟨sV m 0 11 (iI 0), ?_, ⟨by simp (disch := decide) only [sV_eq, sW_eq, sV_ne, sW_ne, sV_2, sW_1, Nat.reduceEqDiff, ↓reduceIte]; rfl, fun j hj => absurd hj (Nat.not_lt_zero j)⟩, Ks_V (Ks_r _ _) _ (by decide)⟩
  unfold M_Bp_clear
  rw [E_Bp_clear_0]; simp (disch := omega) only [l_0, l_1, cK_0 H, letT_eq, gd_true, bnd_some, aR_ov, aK_ov, aN_ov, okO_ov, aI_ov H.1, aL_ov H.1, sI_ov H.1, sL_ov H.1, sV_eq, sV_ne, sV_2, sW_eq, sW_ne, sW_1, iI_add, iI_sub, iI_mul, iI_neg, iI_lt, iI_eq, iI_cl, nI_iI, gd_in, bZ_0, bZ_1, bZ_eq, isB_bZ, isB_0, isB_1, nar_bZ, nar_0, nar_1, mw_ov, iI_s, iI_na, iI_nm, Int.toNat_natCast, Int.add_zero, Int.zero_add, Nat.reduceEqDiff, Nat.reduceAdd, Int.reduceAdd, Int.reduceNeg, Int.reduceSub, Int.reduceMul, Int.reduceLT, Int.reduceEq, Int.reduceToNat, reduceCtorEq, ↓reduceIte]
theorem m_clear {A : Nat → Nat} {σ : AM} (H : LM A σ) (m : VM) (f : Nat → Nat) : ∃ m' : VM, M_Md_clear (A 0) (ov 40 A m σ) = some (iI 1, (ov 40 A (m') σ)) ∧ MPl (0, f) m' ∧ Ks [20, 21, 22, 23, 25] m m' := by
  refine ⟨sV (sV m 0 0 (iI 0)) 0 70 (iI 0), ?_, ⟨by simp (disch := decide) only [sV_eq, sW_eq, sV_ne, sW_ne, sV_2, sW_1, Nat.reduceEqDiff, ↓reduceIte]; rfl, fun j hj => absurd hj (Nat.not_lt_zero j)⟩, Ks_V (Ks_V (Ks_r _ _) _ (by decide)) _ (by decide)⟩
  unfold M_Md_clear
  rw [E_Md_clear_0]; simp (disch := omega) only [l_0, l_1, mK_0 H, letT_eq, gd_true, bnd_some, aR_ov, aK_ov, aN_ov, okO_ov, aI_ov H.1, aL_ov H.1, sI_ov H.1, sL_ov H.1, sV_eq, sV_ne, sV_2, sW_eq, sW_ne, sW_1, iI_add, iI_sub, iI_mul, iI_neg, iI_lt, iI_eq, iI_cl, nI_iI, gd_in, bZ_0, bZ_1, bZ_eq, isB_bZ, isB_0, isB_1, nar_bZ, nar_0, nar_1, mw_ov, iI_s, iI_na, iI_nm, Int.toNat_natCast, Int.add_zero, Int.zero_add, Nat.reduceEqDiff, Nat.reduceAdd, Int.reduceAdd, Int.reduceNeg, Int.reduceSub, Int.reduceMul, Int.reduceLT, Int.reduceEq, Int.reduceToNat, reduceCtorEq, ↓reduceIte]
/-! the feather -/
def acS (p : PD) : Nat → Nat
  | 0 => 0
  | k + 1 => acS p k ||| 2 ^ p.2 k
theorem acS_lt {d : TD} (hd : wfD d) {p : PD} (hp : wfP d p) {k : Nat} (hk : k ≤ p.1) : acS p k < 64 := by
  induction k with
  | zero => show 0 < 64; decide
  | succ k ih =>
    have h1 := ih (by omega)
    have h2 := hp.2.1 k (by omega)
    have h3 := hd.1
    have h4 := pw6 (t := p.2 k) (by omega)
    exact Nat.or_lt_two_pow (n := 6) h1 (by omega)
def feaS (d : TD) (p : PD) (a : Int) : Int := if 0 ≤ a ∧ a < (dW d : Int) then (if 0 ≤ fsN p.1 (fun k => bt (lst d a.toNat) (acS p (k + 1))) then (p.2 (fsN p.1 (fun k => bt (lst d a.toNat) (acS p (k + 1)))).toNat : Int) else -1) else -1
theorem Bp_fea {d : TD} {A : Nat → Nat} {σ : AM} (H : LC A σ) (hd : wfD d) {p : PD} (hp : wfP d p) {m : VM} (hP : CPl p m) (x : Int64) : L_Bp_feather_1 (A 0) x (iI 0) (iI 0) (ov 68 A m σ) = some (iI (if 0 ≤ fsN p.1 (fun k => bt x (acS p (k + 1))) then (p.2 (fsN p.1 (fun k => bt x (acS p (k + 1)))).toNat : Int) else -1), (ov 68 A m σ)) := by
  have hp6 := hp.1
  have hT6 := hd.1
  exact up_loopI (fun k (_ : Unit) => L_Bp_feather_1 (A 0) x (iI (acS p k : Int)) (iI (k : Int)) (ov 68 A m σ)) (fun k _ => ∀ i, i < k → bt x (acS p (i + 1)) = false) (fun y => y = some (iI (if 0 ≤ fsN p.1 (fun k => bt x (acS p (k + 1))) then (p.2 (fsN p.1 (fun k => bt x (acS p (k + 1)))).toNat : Int) else -1), (ov 68 A m σ))) p.1 (fun k _ hk hI ih => by
    have e1 := hP.2 k hk
    have e2 := hp.2.1 k hk
    have e3 := bitOr (acS_lt hd hp (Nat.le_of_lt hk)) (show p.2 k < 6 by omega)
    have e4 : acS p k ||| 2 ^ p.2 k < 64 := acS_lt hd hp (k := k + 1) hk
    have e5 : acS p (k + 1) = acS p k ||| 2 ^ p.2 k := rfl
    show L_Bp_feather_1 _ _ _ _ _ = _
    cases q : bt x (acS p (k + 1))
    · rw [e5] at q
      rw [E_Bp_feather_1]; simp (disch := omega) only [l_0, l_1, l_31, cK_0 H, cR_0_10 H, cK_67 H, cN_67 H, letT_eq, gd_true, bnd_some, aR_ov, aK_ov, aN_ov, okO_ov, aI_ov H.1, aL_ov H.1, sI_ov H.1, sL_ov H.1, sV_eq, sV_ne, sV_2, sW_eq, sW_ne, sW_1, iI_add, iI_sub, iI_mul, iI_neg, iI_lt, iI_eq, iI_cl, nI_iI, gd_in, bZ_0, bZ_1, bZ_eq, isB_bZ, isB_0, isB_1, nar_bZ, nar_0, nar_1, mw_ov, iI_s, iI_na, iI_nm, Int.toNat_natCast, Int.add_zero, Int.zero_add, Nat.reduceEqDiff, Nat.reduceAdd, Int.reduceAdd, Int.reduceNeg, Int.reduceSub, Int.reduceMul, Int.reduceLT, Int.reduceEq, Int.reduceToNat, reduceCtorEq, ↓reduceIte, hP.1, e1, e3, q_St_has x e4, q]
      rw [if_pos (by omega)]
      exact ih () fun i hi => by
        by_cases e : i = k
        · rw [e, e5]; exact q
        · exact hI i (by omega)
    · have hf : fsN p.1 (fun k => bt x (acS p (k + 1))) = (k : Int) := fsN_of hk q hI
      rw [hf, if_pos (show (0 : Int) ≤ (k : Int) by omega)]
      rw [e5] at q
      rw [E_Bp_feather_1]; simp (disch := omega) only [l_0, l_1, l_31, cK_0 H, cR_0_10 H, cK_67 H, cN_67 H, letT_eq, gd_true, bnd_some, aR_ov, aK_ov, aN_ov, okO_ov, aI_ov H.1, aL_ov H.1, sI_ov H.1, sL_ov H.1, sV_eq, sV_ne, sV_2, sW_eq, sW_ne, sW_1, iI_add, iI_sub, iI_mul, iI_neg, iI_lt, iI_eq, iI_cl, nI_iI, gd_in, bZ_0, bZ_1, bZ_eq, isB_bZ, isB_0, isB_1, nar_bZ, nar_0, nar_1, mw_ov, iI_s, iI_na, iI_nm, Int.toNat_natCast, Int.add_zero, Int.zero_add, Nat.reduceEqDiff, Nat.reduceAdd, Int.reduceAdd, Int.reduceNeg, Int.reduceSub, Int.reduceMul, Int.reduceLT, Int.reduceEq, Int.reduceToNat, reduceCtorEq, ↓reduceIte, hP.1, e1, e3, q_St_has x e4, q]
      rw [if_pos (by omega)]) (fun _ hI => by
    show L_Bp_feather_1 _ _ _ _ _ = _
    have hf : fsN p.1 (fun k => bt x (acS p (k + 1))) = -1 := fsN_none hI
    rw [hf, if_neg (by decide)]
    rw [E_Bp_feather_1]
    simp (disch := omega) only [cK_0 H, okO_ov, gd_true, aI_ov H.1, hP.1, iI_lt, l_1, iI_neg]
    rw [if_neg (by omega)]) 0 () (Nat.zero_le _) (fun i hi => absurd hi (Nat.not_lt_zero i))
theorem c_feather {d : TD} {b : BD} {g z u : Nat} {A : Nat → Nat} {σ : AM} {m : VM} (C : CS0 d b g z u A σ m) {p : PD} (hp : wfP d p) (hP : CPl p m) {a : Int} (h1 : -2147483648 ≤ a) (h2 : a < 2147483648) : ∃ m' : VM, M_Bp_feather (A 0) (iI a) (ov 68 A m σ) = some (iI (feaS d p a), (ov 68 A (m') σ)) ∧ OnW m m' := by
  obtain ⟨H, hd, hD, _, hT, _⟩ := C
  have hw := q_Tw_hasWeights H hd hT h1 h2
  unfold M_Bp_feather feaS
  by_cases q : 0 ≤ a ∧ a < (dW d : Int)
  · rw [decide_eq_true q] at hw
    rw [if_pos q]
    obtain ⟨n, rfl⟩ := Int.eq_ofNat_of_zero_le q.1
    obtain ⟨m', e, j⟩ := p_Ls_listOf H hd hD hT (w := n) (by omega)
    refine ⟨m', ?_, j⟩
    have hl := Bp_fea H hd hp (CPl_k (OnW_Ks j 14 (by decide)) hP) (lst d n)
    rw [E_Bp_feather_0]; simp (disch := omega) only [l_0, l_1, cK_0 H, cR_0_1 H, cK_10 H, cR_0_2 H, cK_17 H, letT_eq, gd_true, bnd_some, aR_ov, aK_ov, aN_ov, okO_ov, aI_ov H.1, aL_ov H.1, sI_ov H.1, sL_ov H.1, sV_eq, sV_ne, sV_2, sW_eq, sW_ne, sW_1, iI_add, iI_sub, iI_mul, iI_neg, iI_lt, iI_eq, iI_cl, nI_iI, gd_in, bZ_0, bZ_1, bZ_eq, isB_bZ, isB_0, isB_1, nar_bZ, nar_0, nar_1, mw_ov, iI_s, iI_na, iI_nm, Int.toNat_natCast, Int.add_zero, Int.zero_add, Nat.reduceEqDiff, Nat.reduceAdd, Int.reduceAdd, Int.reduceNeg, Int.reduceSub, Int.reduceMul, Int.reduceLT, Int.reduceEq, Int.reduceToNat, reduceCtorEq, ↓reduceIte, hw, e, hl]
  · rw [decide_eq_false q] at hw
    rw [if_neg q]
    refine ⟨m, ?_, OnW_r _⟩
    rw [E_Bp_feather_0]; simp (disch := omega) only [l_0, l_1, cK_0 H, cR_0_1 H, cK_10 H, cR_0_2 H, cK_17 H, letT_eq, gd_true, bnd_some, aR_ov, aK_ov, aN_ov, okO_ov, aI_ov H.1, aL_ov H.1, sI_ov H.1, sL_ov H.1, sV_eq, sV_ne, sV_2, sW_eq, sW_ne, sW_1, iI_add, iI_sub, iI_mul, iI_neg, iI_lt, iI_eq, iI_cl, nI_iI, gd_in, bZ_0, bZ_1, bZ_eq, isB_bZ, isB_0, isB_1, nar_bZ, nar_0, nar_1, mw_ov, iI_s, iI_na, iI_nm, Int.toNat_natCast, Int.add_zero, Int.zero_add, Nat.reduceEqDiff, Nat.reduceAdd, Int.reduceAdd, Int.reduceNeg, Int.reduceSub, Int.reduceMul, Int.reduceLT, Int.reduceEq, Int.reduceToNat, reduceCtorEq, ↓reduceIte, hw]
theorem Md_fea {d : TD} {A : Nat → Nat} {σ : AM} (H : LM A σ) (hd : wfD d) {p : PD} (hp : wfP d p) {m : VM} (hP : MPl p m) {n : Nat} (hn : n < 16384) {x : Int64} (hx : m.2 12 n = x) : L_Md_feather_1 (A 0) (iI (n : Int)) (iI 0) (iI 0) (ov 40 A m σ) = some (iI (if 0 ≤ fsN p.1 (fun k => bt x (acS p (k + 1))) then (p.2 (fsN p.1 (fun k => bt x (acS p (k + 1)))).toNat : Int) else -1), (ov 40 A m σ)) := by
  have hp6 := hp.1
  have hT6 := hd.1
  exact up_loopI (fun k (_ : Unit) => L_Md_feather_1 (A 0) (iI (n : Int)) (iI (acS p k : Int)) (iI (k : Int)) (ov 40 A m σ)) (fun k _ => ∀ i, i < k → bt x (acS p (i + 1)) = false) (fun y => y = some (iI (if 0 ≤ fsN p.1 (fun k => bt x (acS p (k + 1))) then (p.2 (fsN p.1 (fun k => bt x (acS p (k + 1)))).toNat : Int) else -1), (ov 40 A m σ))) p.1 (fun k _ hk hI ih => by
    have e1 := hP.2 k hk
    have e2 := hp.2.1 k hk
    have e3 := bitOr (acS_lt hd hp (Nat.le_of_lt hk)) (show p.2 k < 6 by omega)
    have e4 : acS p k ||| 2 ^ p.2 k < 64 := acS_lt hd hp (k := k + 1) hk
    have e5 : acS p (k + 1) = acS p k ||| 2 ^ p.2 k := rfl
    show L_Md_feather_1 _ _ _ _ _ = _
    cases q : bt x (acS p (k + 1))
    · rw [e5] at q
      rw [E_Md_feather_1]; simp (disch := omega) only [l_0, l_1, l_31, mK_0 H, mR_27 H, mK_12 H, mN_12 H, mR_71 H, mK_36 H, mN_36 H, letT_eq, gd_true, bnd_some, aR_ov, aK_ov, aN_ov, okO_ov, aI_ov H.1, aL_ov H.1, sI_ov H.1, sL_ov H.1, sV_eq, sV_ne, sV_2, sW_eq, sW_ne, sW_1, iI_add, iI_sub, iI_mul, iI_neg, iI_lt, iI_eq, iI_cl, nI_iI, gd_in, bZ_0, bZ_1, bZ_eq, isB_bZ, isB_0, isB_1, nar_bZ, nar_0, nar_1, mw_ov, iI_s, iI_na, iI_nm, Int.toNat_natCast, Int.add_zero, Int.zero_add, Nat.reduceEqDiff, Nat.reduceAdd, Int.reduceAdd, Int.reduceNeg, Int.reduceSub, Int.reduceMul, Int.reduceLT, Int.reduceEq, Int.reduceToNat, reduceCtorEq, ↓reduceIte, hP.1, e1, e3, hx, q_Md_doesRing x e4, q]
      rw [if_pos (by omega)]
      exact ih () fun i hi => by
        by_cases e : i = k
        · rw [e, e5]; exact q
        · exact hI i (by omega)
    · have hf : fsN p.1 (fun k => bt x (acS p (k + 1))) = (k : Int) := fsN_of hk q hI
      rw [hf, if_pos (show (0 : Int) ≤ (k : Int) by omega)]
      rw [e5] at q
      rw [E_Md_feather_1]; simp (disch := omega) only [l_0, l_1, l_31, mK_0 H, mR_27 H, mK_12 H, mN_12 H, mR_71 H, mK_36 H, mN_36 H, letT_eq, gd_true, bnd_some, aR_ov, aK_ov, aN_ov, okO_ov, aI_ov H.1, aL_ov H.1, sI_ov H.1, sL_ov H.1, sV_eq, sV_ne, sV_2, sW_eq, sW_ne, sW_1, iI_add, iI_sub, iI_mul, iI_neg, iI_lt, iI_eq, iI_cl, nI_iI, gd_in, bZ_0, bZ_1, bZ_eq, isB_bZ, isB_0, isB_1, nar_bZ, nar_0, nar_1, mw_ov, iI_s, iI_na, iI_nm, Int.toNat_natCast, Int.add_zero, Int.zero_add, Nat.reduceEqDiff, Nat.reduceAdd, Int.reduceAdd, Int.reduceNeg, Int.reduceSub, Int.reduceMul, Int.reduceLT, Int.reduceEq, Int.reduceToNat, reduceCtorEq, ↓reduceIte, hP.1, e1, e3, hx, q_Md_doesRing x e4, q]
      rw [if_pos (by omega)]) (fun _ hI => by
    show L_Md_feather_1 _ _ _ _ _ = _
    have hf : fsN p.1 (fun k => bt x (acS p (k + 1))) = -1 := fsN_none hI
    rw [hf, if_neg (by decide)]
    rw [E_Md_feather_1]
    simp (disch := omega) only [mK_0 H, okO_ov, gd_true, aI_ov H.1, hP.1, iI_lt, l_1, iI_neg]
    rw [if_neg (by omega)]) 0 () (Nat.zero_le _) (fun i hi => absurd hi (Nat.not_lt_zero i))
theorem m_feather {d : TD} {b : BD} {A : Nat → Nat} {σ : AM} {m : VM} (M : MS0 d b A σ m) {p : PD} (hp : wfP d p) (hP : MPl p m) {a : Int} (h1 : -2147483648 ≤ a) (h2 : a < 2147483648) : Mf A σ m (M_Md_feather (A 0) (iI a) (ov 40 A m σ)) (iI (feaS d p a)) := by
  obtain ⟨H, hd, hT, hb, hB⟩ := M
  have hw := q_Md_isWeights H hd (MT_K (KM_0 m) hT) h1 h2
  have hW := hd.2.2.2.2.2.2
  refine ⟨_, ?_, KM_0 m⟩
  unfold M_Md_feather feaS
  by_cases q : 0 ≤ a ∧ a < (dW d : Int)
  · rw [decide_eq_true q] at hw
    rw [if_pos q]
    obtain ⟨n, rfl⟩ := Int.eq_ofNat_of_zero_le q.1
    have hl := Md_fea H hd hp (MPl_K (KM_0 m) hP) (n := n) (by omega) (x := lst d n) (hT.2.1 n (by omega))
    rw [E_Md_feather_0]; simp (disch := omega) only [l_0, l_1, mK_0 H, letT_eq, gd_true, bnd_some, aR_ov, aK_ov, aN_ov, okO_ov, aI_ov H.1, aL_ov H.1, sI_ov H.1, sL_ov H.1, sV_eq, sV_ne, sV_2, sW_eq, sW_ne, sW_1, iI_add, iI_sub, iI_mul, iI_neg, iI_lt, iI_eq, iI_cl, nI_iI, gd_in, bZ_0, bZ_1, bZ_eq, isB_bZ, isB_0, isB_1, nar_bZ, nar_0, nar_1, mw_ov, iI_s, iI_na, iI_nm, Int.toNat_natCast, Int.add_zero, Int.zero_add, Nat.reduceEqDiff, Nat.reduceAdd, Int.reduceAdd, Int.reduceNeg, Int.reduceSub, Int.reduceMul, Int.reduceLT, Int.reduceEq, Int.reduceToNat, reduceCtorEq, ↓reduceIte, hw, hl]
  · rw [decide_eq_false q] at hw
    rw [if_neg q]
    rw [E_Md_feather_0]; simp (disch := omega) only [l_0, l_1, mK_0 H, letT_eq, gd_true, bnd_some, aR_ov, aK_ov, aN_ov, okO_ov, aI_ov H.1, aL_ov H.1, sI_ov H.1, sL_ov H.1, sV_eq, sV_ne, sV_2, sW_eq, sW_ne, sW_1, iI_add, iI_sub, iI_mul, iI_neg, iI_lt, iI_eq, iI_cl, nI_iI, gd_in, bZ_0, bZ_1, bZ_eq, isB_bZ, isB_0, isB_1, nar_bZ, nar_0, nar_1, mw_ov, iI_s, iI_na, iI_nm, Int.toNat_natCast, Int.add_zero, Int.zero_add, Nat.reduceEqDiff, Nat.reduceAdd, Int.reduceAdd, Int.reduceNeg, Int.reduceSub, Int.reduceMul, Int.reduceLT, Int.reduceEq, Int.reduceToNat, reduceCtorEq, ↓reduceIte, hw]
