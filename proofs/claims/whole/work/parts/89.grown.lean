/-! ===== a thing that has grown ===== -/
def isFW (b : BD) (x : Int64) (f : Nat) : Prop := (∀ j, j < f → wrB b x j = false) ∧ f < nT b ∧ wrB b x f = true
theorem isFW_u {b : BD} {x : Int64} {f g : Nat} (h : isFW b x f) (k : isFW b x g) : f = g := by
  rcases Nat.lt_trichotomy f g with q | q | q
  · have := k.1 f q; rw [h.2.2] at this; cases this
  · exact q
  · have := h.1 g q; rw [k.2.2] at this; cases this
def gR (d : TD) (w t y s : Nat) : Bool := decide (dB d ≤ wtS (dg d w) s + (if s.testBit t = true then y else 0))
def gV (d : TD) (b : BD) (y f t w : Nat) : Prop := dMay d w = true ∧ isFW b (lst d w) f ∧ t < dT d ∧ 1 ≤ y ∧ y ≤ 5 ∧ ∀ j, f ≤ j → j < nT b → gR d w t y (tS b j) = tR b j
def gBt (x y : Nat × Nat × Nat) : Prop := x.1 < y.1 ∨ (x.1 = y.1 ∧ (y.2.1 < x.2.1 ∨ (y.2.1 = x.2.1 ∧ x.2.2 < y.2.2)))
def gO (x : Nat × Nat × Nat) (o : Option (Nat × Nat × Nat)) : Prop := ∀ y, o = some y → gBt x y
def gW (o : Option (Nat × Nat × Nat)) : Prop := ∀ y, o = some y → 1 ≤ y.1 ∧ y.1 ≤ 5 ∧ y.2.1 < 60 ∧ y.2.2 < 6
def gE (o : Option (Nat × Nat × Nat)) (m : VM) : Prop := (o = none → m.1 61 12 = iI (-1)) ∧ ∀ y, o = some y → m.1 61 12 = iI (y.1 : Int) ∧ m.1 61 13 = iI (y.2.1 : Int) ∧ m.1 61 14 = iI (y.2.2 : Int)
def gI (d : TD) (b : BD) (k : Nat) (o : Option (Nat × Nat × Nat)) : Prop := (∀ w, w < k → dMay d w = true → ∃ f, isFW b (lst d w) f) ∧ (∀ y f t w, w < k → gV d b y f t w → ¬ gO (y, f, t) o) ∧ ∀ x, o = some x → ∃ w, w < k ∧ gV d b x.1 x.2.1 x.2.2 w
def gNo (d : TD) (b : BD) : Prop := ∃ w, w < dW d ∧ dMay d w = true ∧ ∀ j, j < nT b → wrB b (lst d w) j = false
def gQ (d : TD) (b : BD) (o : Option (Nat × Nat × Nat)) : Prop := (o = none ∧ gNo d b) ∨ gI d b (dW d) o
theorem gQ_u {d : TD} {b : BD} {o p : Option (Nat × Nat × Nat)} (h : gQ d b o) (k : gQ d b p) : o = p := by
  have no : ∀ o, gI d b (dW d) o → ¬ gNo d b := by
    intro o h ⟨w, h1, h2, h3⟩
    obtain ⟨f, hf⟩ := h.1 w h1 h2
    have := h3 f hf.2.1
    rw [hf.2.2] at this; cases this
  have key : ∀ o p, gI d b (dW d) o → gI d b (dW d) p → o = none → p = none := by
    intro o p h k ho
    cases p with
    | none => rfl
    | some x =>
      obtain ⟨w, h1, h2⟩ := k.2.2 x rfl
      exact absurd (fun y hy => by rw [ho] at hy; cases hy) (h.2.1 x.1 x.2.1 x.2.2 w h1 h2)
  rcases h with ⟨h1, h2⟩ | h
  · rcases k with ⟨k1, _⟩ | k
    · rw [h1, k1]
    · exact absurd h2 (no p k)
  · rcases k with ⟨_, k2⟩ | k
    · exact absurd k2 (no o h)
    · cases o with
      | none => exact (key none p h k rfl).symm
      | some x =>
        cases p with
        | none => exact absurd (key none (some x) k h rfl) (by simp)
        | some y =>
          obtain ⟨w, h1, h2⟩ := h.2.2 x rfl
          obtain ⟨v, k1, k2⟩ := k.2.2 y rfl
          have a1 : ¬ gBt x y := fun z => k.2.1 x.1 x.2.1 x.2.2 w h1 h2 (fun y' hy => by cases hy; exact z)
          have a2 : ¬ gBt y x := fun z => h.2.1 y.1 y.2.1 y.2.2 v k1 k2 (fun y' hy => by cases hy; exact z)
          obtain ⟨x1, x2, x3⟩ := x
          obtain ⟨y1, y2, y3⟩ := y
          unfold gBt at a1 a2
          dsimp only at a1 a2
          have e1 : x1 = y1 := by omega
          have e2 : x2 = y2 := by omega
          have e3 : x3 = y3 := by omega
          rw [e1, e2, e3]
theorem wrB_lst {d : TD} (hd : wfD d) {b : BD} (hb : wfB d b) (w : Nat) {j : Nat} (hj : j < nT b) : wrB b (lst d w) j = (ringsAt d w (tS b j) != tR b j) := by
  unfold wrB
  rw [bt_lst hd w (hb.2.2.2.1 j hj)]
theorem gV_need {d : TD} (hd : wfD d) {b : BD} (hb : wfB d b) {y f t w : Nat} (h : gV d b y f t w) : tR b f = true ∧ (tS b f).testBit t = true ∧ dB d ≤ wtS (dg d w) (tS b f) + y := by
  obtain ⟨h1, ⟨h2, h3, h4⟩, h5, h6, h7, h8⟩ := h
  have e := h8 f (Nat.le_refl _) h3
  rw [wrB_lst hd hb w h3] at h4
  unfold gR at e
  unfold ringsAt at h4
  cases q : tR b f
  · rw [q] at e h4
    have := of_decide_eq_false e
    rw [decide_eq_false (by omega)] at h4
    cases h4
  · rw [q] at e h4
    have e' := of_decide_eq_true e
    by_cases z : (tS b f).testBit t = true
    · rw [if_pos z] at e'
      exact ⟨rfl, z, e'⟩
    · rw [if_neg z] at e'
      rw [decide_eq_true (by omega)] at h4
      cases h4
/-! the class -/
theorem q_Db_firstWrong {A : Nat → Nat} {σ : AM} (H : LC A σ) {m : VM} {d : TD} {b : BD} (hb : wfB d b) (hB : CBk b m) (x : Int64) : ∃ r : Int, M_Db_firstWrong (A 61) x (ov 68 A m σ) = some (iI r, (ov 68 A m σ)) ∧ ((r = -1 ∧ ∀ j, j < nT b → wrB b x j = false) ∨ ∃ f : Nat, r = (f : Int) ∧ isFW b x f) := by
  have hn := hb.1
  have hl := up_loopI (fun k (_ : Unit) => L_Db_firstWrong_1 (A 61) x (iI (k : Int)) (ov 68 A m σ)) (fun k _ => ∀ j, j < k → wrB b x j = false) (fun X => ∃ r : Int, X = some (iI r, (ov 68 A m σ)) ∧ ((r = -1 ∧ ∀ j, j < nT b → wrB b x j = false) ∨ ∃ f : Nat, r = (f : Int) ∧ isFW b x f)) (nT b) (fun k _ hk hI ih => by
    have hs := hb.2.2.1 k (by omega)
    have r1 := q_Bk_setAt H hb hB hk
    have r2 := q_Bk_rangAt H hb hB hk
    have r3 := q_St_has x hs (ov 68 A m σ)
    cases q : wrB b x k
    · obtain ⟨r, e, hr⟩ := ih () (fun j hj => by
        by_cases z : j = k
        · rw [z]; exact q
        · exact hI j (by omega))
      refine ⟨r, ?_, hr⟩
      rw [← e]
      have z : bt x (tS b k) = tR b k := by
        unfold wrB at q
        cases z1 : bt x (tS b k) <;> cases z2 : tR b k <;> rw [z1, z2] at q <;> first | rfl | cases q
      rw [z] at r3
      show L_Db_firstWrong_1 _ _ _ _ = _
      rw [E_Db_firstWrong_1]; simp (disch := omega) only [l_1, cK_61 H, cR_61_2 H, cK_27 H, q_Bk_trials H, letT_eq, gd_true, bnd_some, aR_ov, aK_ov, aN_ov, okO_ov, aI_ov H.1, aL_ov H.1, sI_ov H.1, sL_ov H.1, sV_eq, sV_ne, sV_2, sW_eq, sW_ne, sW_1, iI_add, iI_sub, iI_mul, iI_neg, iI_lt, iI_eq, iI_cl, nI_iI, gd_in, bZ_0, bZ_1, bZ_eq, isB_bZ, isB_0, isB_1, nar_bZ, nar_0, nar_1, mw_ov, iI_s, iI_na, iI_nm, Int.toNat_natCast, Int.add_zero, Int.zero_add, Nat.reduceEqDiff, Nat.reduceAdd, Int.reduceAdd, Int.reduceNeg, Int.reduceSub, Int.reduceMul, Int.reduceLT, Int.reduceEq, Int.reduceToNat, reduceCtorEq, ↓reduceIte, hB.1.1, r1, r2, r3]
      rw [if_pos (by omega)]
    · refine ⟨(k : Int), ?_, Or.inr ⟨k, rfl, hI, hk, q⟩⟩
      show L_Db_firstWrong_1 _ _ _ _ = _
      have z : ¬ bZ (bt x (tS b k)) = bZ (tR b k) := by
        unfold wrB at q
        cases z1 : bt x (tS b k) <;> cases z2 : tR b k <;> rw [z1, z2] at q <;> first | (cases q; done) | decide
      rw [E_Db_firstWrong_1]; simp (disch := omega) only [l_1, cK_61 H, cR_61_2 H, cK_27 H, q_Bk_trials H, letT_eq, gd_true, bnd_some, aR_ov, aK_ov, aN_ov, okO_ov, aI_ov H.1, aL_ov H.1, sI_ov H.1, sL_ov H.1, sV_eq, sV_ne, sV_2, sW_eq, sW_ne, sW_1, iI_add, iI_sub, iI_mul, iI_neg, iI_lt, iI_eq, iI_cl, nI_iI, gd_in, bZ_0, bZ_1, bZ_eq, isB_bZ, isB_0, isB_1, nar_bZ, nar_0, nar_1, mw_ov, iI_s, iI_na, iI_nm, Int.toNat_natCast, Int.add_zero, Int.zero_add, Nat.reduceEqDiff, Nat.reduceAdd, Int.reduceAdd, Int.reduceNeg, Int.reduceSub, Int.reduceMul, Int.reduceLT, Int.reduceEq, Int.reduceToNat, reduceCtorEq, ↓reduceIte, hB.1.1, r1, r2, r3]
      rw [if_pos (by omega)]
      first | rw [if_neg z] | (unfold wrB at q; cases z1 : bt x (tS b k) <;> cases z2 : tR b k <;> rw [z1, z2] at q <;> first | (cases q; done) | rfl)) (fun _ hI => by
    refine ⟨-1, ?_, Or.inl ⟨rfl, hI⟩⟩
    show L_Db_firstWrong_1 _ _ _ _ = _
    rw [E_Db_firstWrong_1]
    simp (disch := omega) only [cK_61 H, cR_61_2 H, cK_27 H, okO_ov, aR_ov, gd_true, q_Bk_trials H, bnd_some, hB.1.1, iI_lt]
    rw [if_neg (by omega)]
    rfl) 0 () (Nat.zero_le _) (fun j hj => absurd hj (Nat.not_lt_zero j))
  obtain ⟨r, e, hr⟩ := hl
  refine ⟨r, ?_, hr⟩
  unfold M_Db_firstWrong
  rw [E_Db_firstWrong_0]
  exact (congrArg (mw _) e).trans (mw_ov _ _ _ _ _ _)
theorem q_Tw_sumOf {A : Nat → Nat} {σ : AM} (H : LC A σ) {m : VM} {c : Nat} (hc : c < 68) (hk : aK σ (A c) = 101) (hn : aN σ (A c) = 6) {f : Nat → Nat} (hf : ∀ t, f t ≤ 1000) {s : Nat} (hs : s < 64) (h : ∀ t, t < 6 → s.testBit t = true → m.1 c t = iI (f t : Int)) : M_Tw_sumOf (iI (s : Int)) (A c) (ov 68 A m σ) = some (iI (wtS f s : Int), (ov 68 A m σ)) := by
  have ho := okO_of hk
  have hb : ∀ k, k ≤ 6 → sumN k (fun t => if s.testBit t = true then f t else 0) ≤ k * 1000 := fun k _ => sumN_le fun i _ => by have := hf i; split <;> omega
  have hl := up_loop (fun k => L_Tw_sumOf_1 (iI (s : Int)) (A c) (iI (sumN k (fun t => if s.testBit t = true then f t else 0) : Int)) (iI (k : Int)) (ov 68 A m σ)) 6 (some (iI (wtS f s : Int), (ov 68 A m σ))) (fun k hk6 ih => by
    have b1 := hb k (by omega)
    have hfk := hf k
    have hbI := bitI hs hk6
    show L_Tw_sumOf_1 _ _ _ _ _ = _
    replace ih : L_Tw_sumOf_1 _ _ (iI ((sumN k (fun t => if s.testBit t = true then f t else 0) + if s.testBit k = true then f k else 0 : Nat) : Int)) _ _ = _ := ih
    by_cases z : s.testBit k = true
    · rw [if_pos z] at hbI ih
      replace hbI : (iI (s : Int) >>> (iI (k : Int) &&& iI 31)) &&& iI 1 = iI 1 := hbI
      have e := h k hk6 z
      rw [E_Tw_sumOf_1]
      simp (disch := omega) only [E_Tw_sumOf_2, l_0, l_1, l_31, okO_ov, ho, aN_ov, hn, gd_true, nI_iI, hbI, aI_ov H.1, e, letT_eq, gd_true, bnd_some, iI_add, iI_sub, iI_mul, iI_neg, iI_lt, iI_eq, iI_cl, nI_iI, gd_in, bZ_0, bZ_1, bZ_eq, isB_bZ, isB_0, isB_1, nar_bZ, nar_0, nar_1, iI_s, iI_na, iI_nm, Int.toNat_natCast, Int.add_zero, Int.zero_add, Nat.reduceEqDiff, Nat.reduceAdd, Int.reduceAdd, Int.reduceNeg, Int.reduceSub, Int.reduceMul, Int.reduceLT, Int.reduceEq, Int.reduceToNat, reduceCtorEq, ↓reduceIte]
      rw [if_pos (by omega)]
      exact ih
    · rw [if_neg z] at hbI ih
      replace hbI : (iI (s : Int) >>> (iI (k : Int) &&& iI 31)) &&& iI 1 = iI 0 := hbI
      rw [E_Tw_sumOf_1]
      simp (disch := omega) only [E_Tw_sumOf_2, l_0, l_1, l_31, okO_ov, ho, aN_ov, hn, gd_true, nI_iI, hbI, letT_eq, gd_true, bnd_some, iI_add, iI_sub, iI_mul, iI_neg, iI_lt, iI_eq, iI_cl, nI_iI, gd_in, bZ_0, bZ_1, bZ_eq, isB_bZ, isB_0, isB_1, nar_bZ, nar_0, nar_1, iI_s, iI_na, iI_nm, Int.toNat_natCast, Int.add_zero, Int.zero_add, Nat.reduceEqDiff, Nat.reduceAdd, Int.reduceAdd, Int.reduceNeg, Int.reduceSub, Int.reduceMul, Int.reduceLT, Int.reduceEq, Int.reduceToNat, reduceCtorEq, ↓reduceIte]
      rw [if_pos (by omega)]
      exact ih) (by
    show L_Tw_sumOf_1 _ _ _ _ _ = _
    rw [E_Tw_sumOf_1]
    simp (disch := omega) only [okO_ov, ho, aN_ov, hn, gd_true, nI_iI, iI_lt]
    rfl) 0 (Nat.zero_le _)
  unfold M_Tw_sumOf
  rw [E_Tw_sumOf_0]
  exact (congrArg (mw _) hl).trans (mw_ov _ _ _ _ _ _)
def rowE (d : TD) (w c : Nat) (m : VM) : Prop := ∀ t, t < dT d → m.1 c t = iI (dg d w t : Int)
theorem tb_sN {d : TD} {s t : Nat} (hs : s < sN d) (h : s.testBit t = true) : t < dT d := by
  by_cases q : t < dT d
  · exact q
  · have : s < 2 ^ t := Nat.lt_of_lt_of_le hs (Nat.pow_le_pow_right (by omega) (by omega))
    rw [Nat.testBit_lt_two_pow this] at h
    cases h
theorem q_sumRow {A : Nat → Nat} {σ : AM} (H : LC A σ) {m : VM} {d : TD} (hd : wfD d) {c : Nat} (hc : c < 68) (hk : aK σ (A c) = 101) (hn : aN σ (A c) = 6) {w : Nat} (hr : rowE d w c m) {s : Nat} (hs : s < sN d) : M_Tw_sumOf (iI (s : Int)) (A c) (ov 68 A m σ) = some (iI (wtS (dg d w) s : Int), (ov 68 A m σ)) :=
  q_Tw_sumOf H hc hk hn (fun t => by have := dg_lt hd w t; omega) (Nat.lt_of_lt_of_le hs (sN_le hd)) (fun t _ h => hr t (tb_sN hs h))
theorem q_Db_holdsGrown {A : Nat → Nat} {σ : AM} (H : LC A σ) {m : VM} {d : TD} (hd : wfD d) (hT : CTw d m) {b : BD} (hb : wfB d b) (hB : CBk b m) {w : Nat} (hr : rowE d w 65 m) {f t y : Nat} (hf : f < nT b) (ht : t < dT d) (hy : y ≤ 60) : ∃ r : Bool, M_Db_holdsGrown (A 61) (iI (f : Int)) (iI (t : Int)) (iI (y : Int)) (ov 68 A m σ) = some (bZ r, (ov 68 A m σ)) ∧ (r = true ↔ ∀ j, f ≤ j → j < nT b → gR d w t y (tS b j) = tR b j) := by
  have hn := hb.1
  have hT6 := hd.1
  have hl := up_loopI (fun k (_ : Unit) => L_Db_holdsGrown_1 (A 61) (iI (t : Int)) (iI (y : Int)) (iI (k : Int)) (ov 68 A m σ)) (fun k _ => f ≤ k ∧ ∀ j, f ≤ j → j < k → gR d w t y (tS b j) = tR b j) (fun X => ∃ r : Bool, X = some (bZ r, (ov 68 A m σ)) ∧ (r = true ↔ ∀ j, f ≤ j → j < nT b → gR d w t y (tS b j) = tR b j)) (nT b) (fun k _ hk hI ih => by
    have hs := hb.2.2.1 k (by omega)
    have r1 := q_Bk_setAt H hb hB hk
    have r2 := q_Bk_rangAt H hb hB hk
    have r3 := q_sumRow H hd (c := 65) (by decide) (H.2.2.1 (65, 101) (by decide)) (cN_65 H) hr (hb.2.2.2.1 k hk)
    have hw := wts_le hd w (tS b k)
    have hbI := bitI hs (show t < 6 by omega)
    have hB5 := hd.2.2.2.2.1
    have step : L_Db_holdsGrown_1 (A 61) (iI (t : Int)) (iI (y : Int)) (iI (k : Int)) (ov 68 A m σ) = if gR d w t y (tS b k) = tR b k then L_Db_holdsGrown_1 (A 61) (iI (t : Int)) (iI (y : Int)) (iI ((k + 1 : Nat) : Int)) (ov 68 A m σ) else some (iI 0, (ov 68 A m σ)) := by
      have fin : ∀ yy : Nat, yy ≤ 60 → L_Db_holdsGrown_1 (A 61) (iI (t : Int)) (iI (y : Int)) (iI (k : Int)) (ov 68 A m σ) = (if (wtS (dg d w) (tS b k) : Int) + (yy : Int) < (dB d : Int) then L_Db_holdsGrown_2 (A 61) (iI (t : Int)) (iI (y : Int)) (iI (k : Int)) (iI 0) (ov 68 A m σ) else L_Db_holdsGrown_2 (A 61) (iI (t : Int)) (iI (y : Int)) (iI (k : Int)) (iI 1) (ov 68 A m σ)) → L_Db_holdsGrown_1 (A 61) (iI (t : Int)) (iI (y : Int)) (iI (k : Int)) (ov 68 A m σ) = if decide (dB d ≤ wtS (dg d w) (tS b k) + yy) = tR b k then L_Db_holdsGrown_1 (A 61) (iI (t : Int)) (iI (y : Int)) (iI ((k + 1 : Nat) : Int)) (ov 68 A m σ) else some (iI 0, (ov 68 A m σ)) := by
        intro yy hyy h
        rw [h]
        by_cases z : wtS (dg d w) (tS b k) + yy < dB d
        · rw [if_pos (by omega), decide_eq_false (by omega)]
          cases q : tR b k
          · rw [q] at r2
            rw [E_Db_holdsGrown_2]; simp (disch := omega) only [l_0, l_1, cK_61 H, cR_61_2 H, cK_27 H, letT_eq, gd_true, bnd_some, aR_ov, aK_ov, aN_ov, okO_ov, aI_ov H.1, aL_ov H.1, sI_ov H.1, sL_ov H.1, sV_eq, sV_ne, sV_2, sW_eq, sW_ne, sW_1, iI_add, iI_sub, iI_mul, iI_neg, iI_lt, iI_eq, iI_cl, nI_iI, gd_in, bZ_0, bZ_1, bZ_eq, isB_bZ, isB_0, isB_1, nar_bZ, nar_0, nar_1, mw_ov, iI_s, iI_na, iI_nm, Int.toNat_natCast, Int.add_zero, Int.zero_add, Nat.reduceEqDiff, Nat.reduceAdd, Int.reduceAdd, Int.reduceNeg, Int.reduceSub, Int.reduceMul, Int.reduceLT, Int.reduceEq, Int.reduceToNat, reduceCtorEq, ↓reduceIte, r2]
            exact if_pos rfl
          · rw [q] at r2
            rw [E_Db_holdsGrown_2]; simp (disch := omega) only [l_0, l_1, cK_61 H, cR_61_2 H, cK_27 H, letT_eq, gd_true, bnd_some, aR_ov, aK_ov, aN_ov, okO_ov, aI_ov H.1, aL_ov H.1, sI_ov H.1, sL_ov H.1, sV_eq, sV_ne, sV_2, sW_eq, sW_ne, sW_1, iI_add, iI_sub, iI_mul, iI_neg, iI_lt, iI_eq, iI_cl, nI_iI, gd_in, bZ_0, bZ_1, bZ_eq, isB_bZ, isB_0, isB_1, nar_bZ, nar_0, nar_1, mw_ov, iI_s, iI_na, iI_nm, Int.toNat_natCast, Int.add_zero, Int.zero_add, Nat.reduceEqDiff, Nat.reduceAdd, Int.reduceAdd, Int.reduceNeg, Int.reduceSub, Int.reduceMul, Int.reduceLT, Int.reduceEq, Int.reduceToNat, reduceCtorEq, ↓reduceIte, r2]
            exact if_neg (by decide)
        · rw [if_neg (by omega), decide_eq_true (by omega)]
          cases q : tR b k
          · rw [q] at r2
            rw [E_Db_holdsGrown_2]; simp (disch := omega) only [l_0, l_1, cK_61 H, cR_61_2 H, cK_27 H, letT_eq, gd_true, bnd_some, aR_ov, aK_ov, aN_ov, okO_ov, aI_ov H.1, aL_ov H.1, sI_ov H.1, sL_ov H.1, sV_eq, sV_ne, sV_2, sW_eq, sW_ne, sW_1, iI_add, iI_sub, iI_mul, iI_neg, iI_lt, iI_eq, iI_cl, nI_iI, gd_in, bZ_0, bZ_1, bZ_eq, isB_bZ, isB_0, isB_1, nar_bZ, nar_0, nar_1, mw_ov, iI_s, iI_na, iI_nm, Int.toNat_natCast, Int.add_zero, Int.zero_add, Nat.reduceEqDiff, Nat.reduceAdd, Int.reduceAdd, Int.reduceNeg, Int.reduceSub, Int.reduceMul, Int.reduceLT, Int.reduceEq, Int.reduceToNat, reduceCtorEq, ↓reduceIte, r2]
            exact if_neg (by decide)
          · rw [q] at r2
            rw [E_Db_holdsGrown_2]; simp (disch := omega) only [l_0, l_1, cK_61 H, cR_61_2 H, cK_27 H, letT_eq, gd_true, bnd_some, aR_ov, aK_ov, aN_ov, okO_ov, aI_ov H.1, aL_ov H.1, sI_ov H.1, sL_ov H.1, sV_eq, sV_ne, sV_2, sW_eq, sW_ne, sW_1, iI_add, iI_sub, iI_mul, iI_neg, iI_lt, iI_eq, iI_cl, nI_iI, gd_in, bZ_0, bZ_1, bZ_eq, isB_bZ, isB_0, isB_1, nar_bZ, nar_0, nar_1, mw_ov, iI_s, iI_na, iI_nm, Int.toNat_natCast, Int.add_zero, Int.zero_add, Nat.reduceEqDiff, Nat.reduceAdd, Int.reduceAdd, Int.reduceNeg, Int.reduceSub, Int.reduceMul, Int.reduceLT, Int.reduceEq, Int.reduceToNat, reduceCtorEq, ↓reduceIte, r2]
            exact if_pos rfl
      unfold gR
      by_cases z : (tS b k).testBit t = true
      · rw [if_pos z] at hbI
        replace hbI : (iI (tS b k : Int) >>> (iI (t : Int) &&& iI 31)) &&& iI 1 = iI 1 := hbI
        rw [if_pos z]
        refine fin y hy ?_
        rw [E_Db_holdsGrown_1]
        simp (disch := omega) only [l_0, l_1, l_31, cK_61 H, cR_61_0 H, cK_10 H, cR_61_2 H, cK_27 H, cR_61_6 H, cK_65 H, cN_65 H, q_Bk_trials H, q_Tw_bar (LTt H), letT_eq, gd_true, bnd_some, aR_ov, aK_ov, aN_ov, okO_ov, aI_ov H.1, aL_ov H.1, sI_ov H.1, sL_ov H.1, sV_eq, sV_ne, sV_2, sW_eq, sW_ne, sW_1, iI_add, iI_sub, iI_mul, iI_neg, iI_lt, iI_eq, iI_cl, nI_iI, gd_in, bZ_0, bZ_1, bZ_eq, isB_bZ, isB_0, isB_1, nar_bZ, nar_0, nar_1, mw_ov, iI_s, iI_na, iI_nm, Int.toNat_natCast, Int.add_zero, Int.zero_add, Nat.reduceEqDiff, Nat.reduceAdd, Int.reduceAdd, Int.reduceNeg, Int.reduceSub, Int.reduceMul, Int.reduceLT, Int.reduceEq, Int.reduceToNat, reduceCtorEq, ↓reduceIte, hB.1.1, hT.1.2.2.1, r1, r3, hbI, Int.one_mul]
        rw [if_pos (by omega)]
        rfl
      · rw [if_neg z] at hbI
        replace hbI : (iI (tS b k : Int) >>> (iI (t : Int) &&& iI 31)) &&& iI 1 = iI 0 := hbI
        rw [if_neg z]
        refine fin 0 (by omega) ?_
        rw [E_Db_holdsGrown_1]
        simp (disch := omega) only [l_0, l_1, l_31, cK_61 H, cR_61_0 H, cK_10 H, cR_61_2 H, cK_27 H, cR_61_6 H, cK_65 H, cN_65 H, q_Bk_trials H, q_Tw_bar (LTt H), letT_eq, gd_true, bnd_some, aR_ov, aK_ov, aN_ov, okO_ov, aI_ov H.1, aL_ov H.1, sI_ov H.1, sL_ov H.1, sV_eq, sV_ne, sV_2, sW_eq, sW_ne, sW_1, iI_add, iI_sub, iI_mul, iI_neg, iI_lt, iI_eq, iI_cl, nI_iI, gd_in, bZ_0, bZ_1, bZ_eq, isB_bZ, isB_0, isB_1, nar_bZ, nar_0, nar_1, mw_ov, iI_s, iI_na, iI_nm, Int.toNat_natCast, Int.add_zero, Int.zero_add, Nat.reduceEqDiff, Nat.reduceAdd, Int.reduceAdd, Int.reduceNeg, Int.reduceSub, Int.reduceMul, Int.reduceLT, Int.reduceEq, Int.reduceToNat, reduceCtorEq, ↓reduceIte, hB.1.1, hT.1.2.2.1, r1, r3, hbI, Int.zero_mul]
        rw [if_pos (by omega)]
        rfl
    show ∃ r : Bool, L_Db_holdsGrown_1 _ _ _ _ _ = _ ∧ _
    rw [step]
    by_cases z : gR d w t y (tS b k) = tR b k
    · rw [if_pos z]
      exact ih () ⟨by omega, fun j h1 h2 => by
        by_cases e : j = k
        · rw [e]; exact z
        · exact hI.2 j h1 (by omega)⟩
    · rw [if_neg z]
      exact ⟨false, rfl, by simp, fun h => absurd (h k hI.1 hk) z⟩) (fun _ hI => by
    refine ⟨true, ?_, fun _ => hI.2, fun _ => rfl⟩
    show L_Db_holdsGrown_1 _ _ _ _ _ = _
    rw [E_Db_holdsGrown_1]
    simp (disch := omega) only [cK_61 H, cR_61_2 H, cK_27 H, okO_ov, aR_ov, gd_true, q_Bk_trials H, bnd_some, hB.1.1, iI_lt]
    rw [if_neg (by omega)]
    rfl) f () (by omega) ⟨Nat.le_refl _, fun j h1 h2 => by omega⟩
  obtain ⟨r, e, hh⟩ := hl
  refine ⟨r, ?_, hh⟩
  unfold M_Db_holdsGrown
  rw [E_Db_holdsGrown_0]
  exact (congrArg (mw _) e).trans (mw_ov _ _ _ _ _ _)
theorem q_Db_isBetter {A : Nat → Nat} {σ : AM} (H : LC A σ) {m : VM} {o : Option (Nat × Nat × Nat)} (hE : gE o m) (hW : gW o) {y f t : Nat} (hy : y ≤ 100) (hf : f < 100) (ht : t < 100) : ∃ r : Bool, M_Db_isBetter (A 61) (iI (y : Int)) (iI (f : Int)) (iI (t : Int)) (ov 68 A m σ) = some (bZ r, (ov 68 A m σ)) ∧ (r = true ↔ gO (y, f, t) o) := by
  unfold M_Db_isBetter
  cases o with
  | none =>
    have e := hE.1 rfl
    refine ⟨true, ?_, ⟨fun _ y hy => (by cases hy), fun _ => rfl⟩⟩
    rw [E_Db_isBetter_0]; simp (disch := omega) only [E_Db_isBetter_1, E_Db_isBetter_2, E_Db_isBetter_3, E_Db_isBetter_4, l_0, l_1, cK_61 H, letT_eq, gd_true, bnd_some, aR_ov, aK_ov, aN_ov, okO_ov, aI_ov H.1, aL_ov H.1, sI_ov H.1, sL_ov H.1, sV_eq, sV_ne, sV_2, sW_eq, sW_ne, sW_1, iI_add, iI_sub, iI_mul, iI_neg, iI_lt, iI_eq, iI_cl, nI_iI, gd_in, bZ_0, bZ_1, bZ_eq, isB_bZ, isB_0, isB_1, nar_bZ, nar_0, nar_1, mw_ov, iI_s, iI_na, iI_nm, Int.toNat_natCast, Int.add_zero, Int.zero_add, Nat.reduceEqDiff, Nat.reduceAdd, Int.reduceAdd, Int.reduceNeg, Int.reduceSub, Int.reduceMul, Int.reduceLT, Int.reduceEq, Int.reduceToNat, reduceCtorEq, ↓reduceIte, e]
    rfl
  | some x =>
    obtain ⟨e1, e2, e3⟩ := hE.2 x rfl
    obtain ⟨w1, w2, w3, w4⟩ := hW x rfl
    obtain ⟨x1, x2, x3⟩ := x
    dsimp only at e1 e2 e3 w1 w2 w3 w4
    have eq : gO (y, f, t) (some (x1, x2, x3)) ↔ (y < x1 ∨ (y = x1 ∧ (x2 < f ∨ (x2 = f ∧ t < x3)))) := by
      unfold gO gBt
      constructor
      · intro h; exact h _ rfl
      · intro h z hz; cases hz; exact h
    refine ⟨decide (y < x1 ∨ (y = x1 ∧ (x2 < f ∨ (x2 = f ∧ t < x3)))), ?_, by rw [decide_eq_true_iff]; exact eq.symm⟩
    rw [E_Db_isBetter_0]; simp (disch := omega) only [E_Db_isBetter_1, E_Db_isBetter_2, E_Db_isBetter_3, E_Db_isBetter_4, l_0, l_1, cK_61 H, letT_eq, gd_true, bnd_some, aR_ov, aK_ov, aN_ov, okO_ov, aI_ov H.1, aL_ov H.1, sI_ov H.1, sL_ov H.1, sV_eq, sV_ne, sV_2, sW_eq, sW_ne, sW_1, iI_add, iI_sub, iI_mul, iI_neg, iI_lt, iI_eq, iI_cl, nI_iI, gd_in, bZ_0, bZ_1, bZ_eq, isB_bZ, isB_0, isB_1, nar_bZ, nar_0, nar_1, mw_ov, iI_s, iI_na, iI_nm, Int.toNat_natCast, Int.add_zero, Int.zero_add, Nat.reduceEqDiff, Nat.reduceAdd, Int.reduceAdd, Int.reduceNeg, Int.reduceSub, Int.reduceMul, Int.reduceLT, Int.reduceEq, Int.reduceToNat, reduceCtorEq, ↓reduceIte, e1, e2, e3]
    by_cases q1 : y = x1
    · rw [if_pos (by omega)]
      by_cases q2 : f = x2
      · rw [if_pos (by omega)]
        by_cases q3 : t < x3
        · rw [if_pos (by omega), mw_ov, decide_eq_true (by omega)]; rfl
        · rw [if_neg (by omega), mw_ov, decide_eq_false (by omega)]; rfl
      · rw [if_neg (by omega)]
        by_cases q3 : x2 < f
        · rw [if_pos (by omega), mw_ov, decide_eq_true (by omega)]; rfl
        · rw [if_neg (by omega), mw_ov, decide_eq_false (by omega)]; rfl
    · rw [if_neg (by omega)]
      by_cases q3 : y < x1
      · rw [if_pos (by omega), mw_ov, decide_eq_true (by omega)]; rfl
      · rw [if_neg (by omega), mw_ov, decide_eq_false (by omega)]; rfl
