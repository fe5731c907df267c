/-! ===== a thing that has grown: the class's answer ===== -/
def GV (d : TD) (b : BD) (m : VM) : Prop := ∃ o, gQ d b o ∧ gE o m ∧ gW o
def GA (d : TD) (b : BD) (g : Nat) (m : VM) : Prop := ∃ a : Int, m.1 61 11 = iI a ∧ -1 ≤ a ∧ a ≤ g ∧ (a = g → GV d b m)
theorem gE_K {o : Option (Nat × Nat × Nat)} {m m' : VM} (h : Kg 5 m m') (k : gE o m) : gE o m' := by
  refine ⟨fun q => ?_, fun y q => ?_⟩
  · rw [h.1 (61, 12) (by decide)]; exact k.1 q
  · rw [h.1 (61, 12) (by decide), h.1 (61, 13) (by decide), h.1 (61, 14) (by decide)]; exact k.2 y q
theorem GV_K {d : TD} {b : BD} {m m' : VM} (h : Kg 5 m m') (k : GV d b m) : GV d b m' := by
  obtain ⟨o, q, e, w⟩ := k
  exact ⟨o, q, gE_K h e, w⟩
theorem row65_Ks {m m' : VM} {c : Nat} (hc : c = 65 ∨ c = 55) (h1 : ∀ a, a ≠ c → m'.1 a = m.1 a) (h2 : m'.2 = m.2) : Ks [0, 1, 2, 3, 4, 5] m m' := fun g hg => by
  have n1 := (show ∀ g ∈ [0, 1, 2, 3, 4, 5], (∀ q ∈ gF g, q.1 ≠ 65 ∧ q.1 ≠ 55) ∧ ∀ q ∈ gC g, q ≠ 65 ∧ q ≠ 55 by decide) g hg
  refine ⟨fun q hq => ?_, fun q hq => ?_, fun q _ => by rw [h2], fun q _ => by rw [h2]⟩
  · rw [h1 q.1 (by have := n1.1 q hq; omega)]
  · exact h1 q (by have := n1.2 q hq; omega)
def skI (d : TD) (b : BD) (g : Nat) (m0 : VM) (k : Nat) (m : VM) : Prop := Ks [0, 1, 2, 3, 4] m0 m ∧ m.1 61 11 = iI (g : Int) ∧ ∃ o, gI d b k o ∧ gE o m ∧ gW o
theorem gI_skip {d : TD} {b : BD} {k : Nat} {o : Option (Nat × Nat × Nat)} (h : gI d b k o) (h1 : dMay d k = true → ∃ f, isFW b (lst d k) f) (h2 : ∀ y f t, gV d b y f t k → ¬ gO (y, f, t) o) : gI d b (k + 1) o := by
  refine ⟨fun w hw hm => ?_, fun y f t w hw hv => ?_, fun x hx => ?_⟩
  · by_cases e : w = k
    · subst e; exact h1 hm
    · exact h.1 w (by omega) hm
  · by_cases e : w = k
    · subst e; exact h2 y f t hv
    · exact h.2.1 y f t w (by omega) hv
  · obtain ⟨w, a, c⟩ := h.2.2 x hx
    exact ⟨w, by omega, c⟩
theorem gI_try {d : TD} {b : BD} {k f : Nat} {o o' : Option (Nat × Nat × Nat)} (h : gI d b k o) (hf : isFW b (lst d k) f) (hr : tryR d b k f o o') : gI d b (k + 1) o' := by
  rcases hr with ⟨e, h2⟩ | ⟨y, t, e, hv, hg, h3⟩
  · rw [e]
    refine gI_skip h (fun _ => ⟨f, hf⟩) (fun y f' t hv => ?_)
    have := isFW_u hf hv.2.1
    subst this
    exact h2 y t hv
  · subst e
    refine ⟨fun w hw hm => ?_, fun y' f' t' w hw hv' hg' => ?_, fun x hx => ?_⟩
    · by_cases e : w = k
      · subst e; exact ⟨f, hf⟩
      · exact h.1 w (by omega) hm
    · have hb' := hg' _ rfl
      by_cases e : w = k
      · subst e
        have := isFW_u hf hv'.2.1
        subst this
        exact h3 y' t' hv' hb'
      · exact h.2.1 y' f' t' w (by omega) hv' (gO_t hb' hg)
    · cases hx; exact ⟨k, by omega, hv⟩
theorem Db_seek1 {A : Nat → Nat} {σ : AM} (H : LC A σ) {m0 : VM} {d : TD} (hd : wfD d) (hD : LD d A σ) (hT0 : CTw d m0) {b : BD} (hb : wfB d b) (hB0 : CBk b m0) {g : Nat} (P : Option (Unit × AM) → Prop) (hP : ∀ m', Ks [0, 1, 2, 3, 4] m0 m' → m'.1 61 11 = iI (g : Int) → GV d b m' → P (some ((), (ov 68 A (m') σ)))) (k : Nat) (m : VM) (hk : k < dW d) (hI : skI d b g m0 k m) (ih : ∀ m', skI d b g m0 (k + 1) m' → P (L_Db_seekGrowth_1 (A 61) (iI (dW d : Int)) (iI ((k + 1 : Nat) : Int)) (ov 68 A (m') σ))) : P (L_Db_seekGrowth_1 (A 61) (iI (dW d : Int)) (iI (k : Int)) (ov 68 A m σ)) := by
  obtain ⟨i1, i2, o, i3, i4, i5⟩ := hI
  have hT := CTw_K (i1 0 (by decide)) hT0
  have hB := CBk_K (i1 0 (by decide)) hB0
  have hW := hd.2.2.2.2.2.2
  have hNl := NL_le d
  have hnn := hb.1
  have r1 := q_Ls_numberOf H hd hD hT hk
  cases q : dMay d k
  · have r := ih m ⟨i1, i2, o, gI_skip i3 (fun h => by rw [q] at h; cases h) (fun y f t hv => by have := hv.1; rw [q] at this; cases this), i4, i5⟩
    rw [q, if_neg (by decide)] at r1
    rw [E_Db_seekGrowth_1]; simp (disch := omega) only [E_Db_seekGrowth_2, E_Db_seekGrowth_3, l_0, l_1, cK_61 H, cR_61_0 H, cK_10 H, cR_61_1 H, cK_17 H, cR_61_2 H, cK_27 H, cR_61_6 H, cK_65 H, cN_65 H, letT_eq, gd_true, bnd_some, aR_ov, aK_ov, aN_ov, okO_ov, aI_ov H.1, aL_ov H.1, sI_ov H.1, sL_ov H.1, sV_eq, sV_ne, sV_2, sW_eq, sW_ne, sW_1, iI_add, iI_sub, iI_mul, iI_neg, iI_lt, iI_eq, iI_cl, nI_iI, gd_in, bZ_0, bZ_1, bZ_eq, isB_bZ, isB_0, isB_1, nar_bZ, nar_0, nar_1, mw_ov, iI_s, iI_na, iI_nm, Int.toNat_natCast, Int.add_zero, Int.zero_add, Nat.reduceEqDiff, Nat.reduceAdd, Int.reduceAdd, Int.reduceNeg, Int.reduceSub, Int.reduceMul, Int.reduceLT, Int.reduceEq, Int.reduceToNat, reduceCtorEq, ↓reduceIte, r1]
    rw [if_pos (by omega)]
    exact r
  · rw [q, if_pos rfl] at r1
    have hnum := num_lt hk q
    have r2 := q_Ls_at H hd hD hT hnum
    rw [LL_num hk q] at r2
    obtain ⟨r, r3, hr⟩ := q_Db_firstWrong H hb hB (lst d k)
    rcases hr with ⟨hr, hno⟩ | ⟨f, hr, hf⟩
    · subst hr
      have := hP (sV m 61 12 (iI (-1))) (Ks_t i1 (Ks_V (Ks_r _ _) _ (by decide))) (by simp (disch := decide) only [sV_eq, sW_eq, sV_ne, sW_ne, sV_2, sW_1, Nat.reduceEqDiff, ↓reduceIte]; exact i2) ⟨none, Or.inl ⟨rfl, k, hk, q, hno⟩, ⟨fun _ => by simp (disch := decide) only [sV_eq, sW_eq, sV_ne, sW_ne, sV_2, sW_1, Nat.reduceEqDiff, ↓reduceIte], fun y hy => (by cases hy)⟩, fun y hy => (by cases hy)⟩
      rw [E_Db_seekGrowth_1]; simp (disch := omega) only [E_Db_seekGrowth_2, E_Db_seekGrowth_3, l_0, l_1, cK_61 H, cR_61_0 H, cK_10 H, cR_61_1 H, cK_17 H, cR_61_2 H, cK_27 H, cR_61_6 H, cK_65 H, cN_65 H, letT_eq, gd_true, bnd_some, aR_ov, aK_ov, aN_ov, okO_ov, aI_ov H.1, aL_ov H.1, sI_ov H.1, sL_ov H.1, sV_eq, sV_ne, sV_2, sW_eq, sW_ne, sW_1, iI_add, iI_sub, iI_mul, iI_neg, iI_lt, iI_eq, iI_cl, nI_iI, gd_in, bZ_0, bZ_1, bZ_eq, isB_bZ, isB_0, isB_1, nar_bZ, nar_0, nar_1, mw_ov, iI_s, iI_na, iI_nm, Int.toNat_natCast, Int.add_zero, Int.zero_add, Nat.reduceEqDiff, Nat.reduceAdd, Int.reduceAdd, Int.reduceNeg, Int.reduceSub, Int.reduceMul, Int.reduceLT, Int.reduceEq, Int.reduceToNat, reduceCtorEq, ↓reduceIte, r1, r2, r3]
      rw [if_pos (by omega), if_neg (by omega)]
      exact this
    · subst hr
      have hfn := hf.2.1
      have r4 := q_Bk_rangAt H hb hB hfn
      cases qr : tR b f
      · rw [qr] at r4
        have r := ih m ⟨i1, i2, o, gI_skip i3 (fun _ => ⟨f, hf⟩) (fun y f' t hv => by
          have e := isFW_u hf hv.2.1
          subst e
          have := (gV_need hd hb hv).1
          rw [qr] at this; cases this), i4, i5⟩
        rw [E_Db_seekGrowth_1]; simp (disch := omega) only [E_Db_seekGrowth_2, E_Db_seekGrowth_3, l_0, l_1, cK_61 H, cR_61_0 H, cK_10 H, cR_61_1 H, cK_17 H, cR_61_2 H, cK_27 H, cR_61_6 H, cK_65 H, cN_65 H, letT_eq, gd_true, bnd_some, aR_ov, aK_ov, aN_ov, okO_ov, aI_ov H.1, aL_ov H.1, sI_ov H.1, sL_ov H.1, sV_eq, sV_ne, sV_2, sW_eq, sW_ne, sW_1, iI_add, iI_sub, iI_mul, iI_neg, iI_lt, iI_eq, iI_cl, nI_iI, gd_in, bZ_0, bZ_1, bZ_eq, isB_bZ, isB_0, isB_1, nar_bZ, nar_0, nar_1, mw_ov, iI_s, iI_na, iI_nm, Int.toNat_natCast, Int.add_zero, Int.zero_add, Nat.reduceEqDiff, Nat.reduceAdd, Int.reduceAdd, Int.reduceNeg, Int.reduceSub, Int.reduceMul, Int.reduceLT, Int.reduceEq, Int.reduceToNat, reduceCtorEq, ↓reduceIte, r1, r2, r3, r4]
        rw [if_pos (by omega), if_neg (by omega)]
        exact r
      · rw [qr] at r4
        have go : P (L_Db_seekGrowth_2 (A 61) (iI (dW d : Int)) (iI (k : Int)) (iI (f : Int)) (ov 68 A m σ)) := by
          obtain ⟨m1, e1, j1, j2, j3⟩ := p_Tw_spread H hd.1 hd.2.2.1 hT.1.1 hT.1.2.1 (c := 65) (by decide) (H.2.2.1 (65, 101) (by decide)) (cN_65 H) (by decide) (w := k) (by omega)
          have hK1 := row65_Ks (Or.inl rfl) j1 j2
          obtain ⟨m2, o', e2, p1, p2, p3, p4, p5⟩ := p_Db_tryGrowths H hd (CTw_K (hK1 0 (by decide)) hT) hb (CBk_K (hK1 0 (by decide)) hB) j3 q hf (gE_K (hK1 5 (by decide)) i4) i5
          have r := ih m2 ⟨Ks_t i1 (Ks_t (Ks_sub hK1 (by decide)) p1), by rw [p2, j1 61 (by decide)]; exact i2, o', gI_try i3 hf p5, p3, p4⟩
          rw [E_Db_seekGrowth_2]; simp (disch := omega) only [E_Db_seekGrowth_3, l_1, cK_61 H, cR_61_0 H, cK_10 H, cR_61_6 H, cK_65 H, cN_65 H, letT_eq, gd_true, bnd_some, aR_ov, aK_ov, aN_ov, okO_ov, aI_ov H.1, aL_ov H.1, sI_ov H.1, sL_ov H.1, sV_eq, sV_ne, sV_2, sW_eq, sW_ne, sW_1, iI_add, iI_sub, iI_mul, iI_neg, iI_lt, iI_eq, iI_cl, nI_iI, gd_in, bZ_0, bZ_1, bZ_eq, isB_bZ, isB_0, isB_1, nar_bZ, nar_0, nar_1, mw_ov, iI_s, iI_na, iI_nm, Int.toNat_natCast, Int.add_zero, Int.zero_add, Nat.reduceEqDiff, Nat.reduceAdd, Int.reduceAdd, Int.reduceNeg, Int.reduceSub, Int.reduceMul, Int.reduceLT, Int.reduceEq, Int.reduceToNat, reduceCtorEq, ↓reduceIte, e1, e2]
          exact r
        cases ho : o with
        | none =>
          subst ho
          have e := i4.1 rfl
          rw [E_Db_seekGrowth_1]; simp (disch := omega) only [E_Db_seekGrowth_3, l_0, l_1, cK_61 H, cR_61_0 H, cK_10 H, cR_61_1 H, cK_17 H, cR_61_2 H, cK_27 H, cR_61_6 H, cK_65 H, cN_65 H, letT_eq, gd_true, bnd_some, aR_ov, aK_ov, aN_ov, okO_ov, aI_ov H.1, aL_ov H.1, sI_ov H.1, sL_ov H.1, sV_eq, sV_ne, sV_2, sW_eq, sW_ne, sW_1, iI_add, iI_sub, iI_mul, iI_neg, iI_lt, iI_eq, iI_cl, nI_iI, gd_in, bZ_0, bZ_1, bZ_eq, isB_bZ, isB_0, isB_1, nar_bZ, nar_0, nar_1, mw_ov, iI_s, iI_na, iI_nm, Int.toNat_natCast, Int.add_zero, Int.zero_add, Nat.reduceEqDiff, Nat.reduceAdd, Int.reduceAdd, Int.reduceNeg, Int.reduceSub, Int.reduceMul, Int.reduceLT, Int.reduceEq, Int.reduceToNat, reduceCtorEq, ↓reduceIte, r1, r2, r3, r4, e]
          rw [if_pos (by omega), if_neg (by omega)]
          exact go
        | some x =>
          subst ho
          obtain ⟨e1, e2, e3⟩ := i4.2 x rfl
          obtain ⟨w1, w2, w3, w4⟩ := i5 x rfl
          rw [E_Db_seekGrowth_1]; simp (disch := omega) only [E_Db_seekGrowth_3, l_0, l_1, cK_61 H, cR_61_0 H, cK_10 H, cR_61_1 H, cK_17 H, cR_61_2 H, cK_27 H, cR_61_6 H, cK_65 H, cN_65 H, letT_eq, gd_true, bnd_some, aR_ov, aK_ov, aN_ov, okO_ov, aI_ov H.1, aL_ov H.1, sI_ov H.1, sL_ov H.1, sV_eq, sV_ne, sV_2, sW_eq, sW_ne, sW_1, iI_add, iI_sub, iI_mul, iI_neg, iI_lt, iI_eq, iI_cl, nI_iI, gd_in, bZ_0, bZ_1, bZ_eq, isB_bZ, isB_0, isB_1, nar_bZ, nar_0, nar_1, mw_ov, iI_s, iI_na, iI_nm, Int.toNat_natCast, Int.add_zero, Int.zero_add, Nat.reduceEqDiff, Nat.reduceAdd, Int.reduceAdd, Int.reduceNeg, Int.reduceSub, Int.reduceMul, Int.reduceLT, Int.reduceEq, Int.reduceToNat, reduceCtorEq, ↓reduceIte, r1, r2, r3, r4, e1, e2]
          rw [if_pos (by omega), if_neg (by omega)]
          by_cases z : (x.1 : Int) = 1
          · rw [if_pos z]
            by_cases z2 : (f : Int) < (x.2.1 : Int)
            · rw [if_pos z2]
              exact ih m ⟨i1, i2, some x, gI_skip i3 (fun _ => ⟨f, hf⟩) (fun y f' t hv hg => by
                have e := isFW_u hf hv.2.1
                subst e
                have h1 := hv.2.2.2.1
                have := hg x rfl
                unfold gBt at this
                dsimp only at this
                omega), i4, i5⟩
            · rw [if_neg z2]; exact go
          · rw [if_neg z]; exact go
theorem p_Db_seekGrowth {d : TD} {b : BD} {g z u : Nat} {A : Nat → Nat} {σ : AM} {m : VM} (C : CS0 d b g z u A σ m) (hA : GA d b g m) : ∃ m' : VM, M_Db_seekGrowth (A 61) (ov 68 A m σ) = some ((), (ov 68 A (m') σ)) ∧ Ks [0, 1, 2, 3, 4] m m' ∧ m'.1 61 11 = iI (g : Int) ∧ GV d b m' := by
  obtain ⟨H, hd, hD, _, hT, hb, hB, h10, hg, _⟩ := C
  obtain ⟨a, ha, ha1, ha2, hv⟩ := hA
  have hW := hd.2.2.2.2.2.2
  unfold M_Db_seekGrowth
  by_cases q : a = g
  · refine ⟨m, ?_, Ks_r _ _, by rw [ha, q], hv q⟩
    rw [E_Db_seekGrowth_0]; simp (disch := omega) only [l_0, l_1, cK_61 H, cR_61_0 H, cK_10 H, cR_61_2 H, cK_27 H, q_Bk_age H, letT_eq, gd_true, bnd_some, aR_ov, aK_ov, aN_ov, okO_ov, aI_ov H.1, aL_ov H.1, sI_ov H.1, sL_ov H.1, sV_eq, sV_ne, sV_2, sW_eq, sW_ne, sW_1, iI_add, iI_sub, iI_mul, iI_neg, iI_lt, iI_eq, iI_cl, nI_iI, gd_in, bZ_0, bZ_1, bZ_eq, isB_bZ, isB_0, isB_1, nar_bZ, nar_0, nar_1, mw_ov, iI_s, iI_na, iI_nm, Int.toNat_natCast, Int.add_zero, Int.zero_add, Nat.reduceEqDiff, Nat.reduceAdd, Int.reduceAdd, Int.reduceNeg, Int.reduceSub, Int.reduceMul, Int.reduceLT, Int.reduceEq, Int.reduceToNat, reduceCtorEq, ↓reduceIte, ha, h10]
    rw [if_pos q, mw_ov]
  · have hK : Ks [0, 1, 2, 3, 4] m (sV (sV m 61 11 (iI (g : Int))) 61 12 (iI (-1))) := Ks_V (Ks_V (Ks_r _ _) _ (by decide)) _ (by decide)
    have hTm := CTw_K (hK 0 (by decide)) hT
    have hBm := CBk_K (hK 0 (by decide)) hB
    have r0 := q_Tw_all H hd hTm
    have hl := up_loopI (fun k mm => L_Db_seekGrowth_1 (A 61) (iI (dW d : Int)) (iI (k : Int)) (ov 68 A mm σ)) (skI d b g m) (fun X => ∃ m' : VM, X = some ((), (ov 68 A (m') σ)) ∧ Ks [0, 1, 2, 3, 4] m m' ∧ m'.1 61 11 = iI (g : Int) ∧ GV d b m') (dW d) (fun k mm hk hI ih => Db_seek1 H hd hD hT hb hB (fun X => ∃ m' : VM, X = some ((), (ov 68 A (m') σ)) ∧ Ks [0, 1, 2, 3, 4] m m' ∧ m'.1 61 11 = iI (g : Int) ∧ GV d b m') (fun m' a1 a2 a3 => ⟨m', rfl, a1, a2, a3⟩) k mm hk hI ih) (fun mm hI => by
      obtain ⟨i1, i2, o, i3, i4, i5⟩ := hI
      refine ⟨mm, ?_, i1, i2, o, Or.inr i3, i4, i5⟩
      show L_Db_seekGrowth_1 _ _ _ _ = _
      rw [E_Db_seekGrowth_1]; simp (disch := omega) only [iI_lt]; rw [if_neg (by omega)]) 0 (sV (sV m 61 11 (iI (g : Int))) 61 12 (iI (-1))) (Nat.zero_le _) ⟨hK, by simp (disch := decide) only [sV_eq, sW_eq, sV_ne, sW_ne, sV_2, sW_1, Nat.reduceEqDiff, ↓reduceIte], none, ⟨fun w hw => absurd hw (Nat.not_lt_zero w), fun y f t w hw => absurd hw (Nat.not_lt_zero w), fun x hx => (by cases hx)⟩, ⟨fun _ => by simp (disch := decide) only [sV_eq, sW_eq, sV_ne, sW_ne, sV_2, sW_1, Nat.reduceEqDiff, ↓reduceIte], fun y hy => (by cases hy)⟩, fun y hy => (by cases hy)⟩
    obtain ⟨m', e, p⟩ := hl
    refine ⟨m', ?_, p⟩
    replace e : L_Db_seekGrowth_1 (A 61) (iI (dW d : Int)) (iI 0) (ov 68 A (sV (sV m 61 11 (iI (g : Int))) 61 12 (iI (-1))) σ) = _ := e
    rw [E_Db_seekGrowth_0]; simp (disch := omega) only [l_0, l_1, cK_61 H, cR_61_0 H, cK_10 H, cR_61_2 H, cK_27 H, q_Bk_age H, letT_eq, gd_true, bnd_some, aR_ov, aK_ov, aN_ov, okO_ov, aI_ov H.1, aL_ov H.1, sI_ov H.1, sL_ov H.1, sV_eq, sV_ne, sV_2, sW_eq, sW_ne, sW_1, iI_add, iI_sub, iI_mul, iI_neg, iI_lt, iI_eq, iI_cl, nI_iI, gd_in, bZ_0, bZ_1, bZ_eq, isB_bZ, isB_0, isB_1, nar_bZ, nar_0, nar_1, mw_ov, iI_s, iI_na, iI_nm, Int.toNat_natCast, Int.add_zero, Int.zero_add, Nat.reduceEqDiff, Nat.reduceAdd, Int.reduceAdd, Int.reduceNeg, Int.reduceSub, Int.reduceMul, Int.reduceLT, Int.reduceEq, Int.reduceToNat, reduceCtorEq, ↓reduceIte, ha, h10, r0, e]
    rw [if_neg q, mw_ov]
def grA (o : Option (Nat × Nat × Nat)) (c : Int) : Int := match o with
  | none => -1
  | some x => if c = 0 then (x.1 : Int) else if c = 1 then (x.2.1 : Int) else (x.2.2 : Int)
theorem c_grown {d : TD} {b : BD} {g z u : Nat} {A : Nat → Nat} {σ : AM} {m : VM} (C : CS0 d b g z u A σ m) (hA : GA d b g m) {c : Int} (h1 : -2147483648 ≤ c) (h2 : c < 2147483648) : ∃ r : Int, Cf A σ m [0, 1, 2, 3, 4] (M_Bp_grown (A 0) (iI c) (ov 68 A m σ)) (iI r) (GA d b g) ∧ (if 0 ≤ c ∧ c ≤ 2 then ∃ o, gQ d b o ∧ r = grA o c else r = -1) := by
  obtain ⟨m', e, hK, ha, hv⟩ := p_Db_seekGrowth C hA
  obtain ⟨H, hd, hD, _, hT, hb, hB, _⟩ := C
  unfold M_Bp_grown
  by_cases q : 0 ≤ c ∧ c ≤ 2
  · have hv' := hv
    obtain ⟨o, ho, hE, hW⟩ := hv
    refine ⟨grA o c, ⟨m', ?_, hK, (g : Int), ha, by omega, by omega, fun _ => hv'⟩, by rw [if_pos q]; exact ⟨o, ho, rfl⟩⟩
    have hgr : M_Db_growth (A 61) (iI c) (ov 68 A (m') σ) = some (iI (grA o c), (ov 68 A (m') σ)) := by
      unfold M_Db_growth
      cases o with
      | none =>
        have e := hE.1 rfl
        rw [E_Db_growth_0]; simp (disch := omega) only [l_0, l_1, cK_61 H, letT_eq, gd_true, bnd_some, aR_ov, aK_ov, aN_ov, okO_ov, aI_ov H.1, aL_ov H.1, sI_ov H.1, sL_ov H.1, sV_eq, sV_ne, sV_2, sW_eq, sW_ne, sW_1, iI_add, iI_sub, iI_mul, iI_neg, iI_lt, iI_eq, iI_cl, nI_iI, gd_in, bZ_0, bZ_1, bZ_eq, isB_bZ, isB_0, isB_1, nar_bZ, nar_0, nar_1, mw_ov, iI_s, iI_na, iI_nm, Int.toNat_natCast, Int.add_zero, Int.zero_add, Nat.reduceEqDiff, Nat.reduceAdd, Int.reduceAdd, Int.reduceNeg, Int.reduceSub, Int.reduceMul, Int.reduceLT, Int.reduceEq, Int.reduceToNat, reduceCtorEq, ↓reduceIte, e]
        rfl
      | some x =>
        obtain ⟨e1, e2, e3⟩ := hE.2 x rfl
        obtain ⟨w1, w2, w3, w4⟩ := hW x rfl
        rw [E_Db_growth_0]; simp (disch := omega) only [l_0, l_1, cK_61 H, letT_eq, gd_true, bnd_some, aR_ov, aK_ov, aN_ov, okO_ov, aI_ov H.1, aL_ov H.1, sI_ov H.1, sL_ov H.1, sV_eq, sV_ne, sV_2, sW_eq, sW_ne, sW_1, iI_add, iI_sub, iI_mul, iI_neg, iI_lt, iI_eq, iI_cl, nI_iI, gd_in, bZ_0, bZ_1, bZ_eq, isB_bZ, isB_0, isB_1, nar_bZ, nar_0, nar_1, mw_ov, iI_s, iI_na, iI_nm, Int.toNat_natCast, Int.add_zero, Int.zero_add, Nat.reduceEqDiff, Nat.reduceAdd, Int.reduceAdd, Int.reduceNeg, Int.reduceSub, Int.reduceMul, Int.reduceLT, Int.reduceEq, Int.reduceToNat, reduceCtorEq, ↓reduceIte, e1, e2, e3]
        unfold grA
        dsimp only
        by_cases z : c = 0
        · rw [if_pos z, if_pos z, mw_ov]
        · rw [if_neg z, if_neg z]
          by_cases z2 : c = 1
          · rw [if_pos z2, if_pos z2, mw_ov]
          · rw [if_neg z2, if_neg z2, mw_ov]
    rw [E_Bp_grown_0]; simp (disch := omega) only [E_Bp_grown_1, l_0, l_1, l_2, cK_0 H, cR_0_8 H, cK_61 H, letT_eq, gd_true, bnd_some, aR_ov, aK_ov, aN_ov, okO_ov, aI_ov H.1, aL_ov H.1, sI_ov H.1, sL_ov H.1, sV_eq, sV_ne, sV_2, sW_eq, sW_ne, sW_1, iI_add, iI_sub, iI_mul, iI_neg, iI_lt, iI_eq, iI_cl, nI_iI, gd_in, bZ_0, bZ_1, bZ_eq, isB_bZ, isB_0, isB_1, nar_bZ, nar_0, nar_1, mw_ov, iI_s, iI_na, iI_nm, Int.toNat_natCast, Int.add_zero, Int.zero_add, Nat.reduceEqDiff, Nat.reduceAdd, Int.reduceAdd, Int.reduceNeg, Int.reduceSub, Int.reduceMul, Int.reduceLT, Int.reduceEq, Int.reduceToNat, reduceCtorEq, ↓reduceIte, e, hgr]
    rw [if_neg (by omega), if_neg (by omega), mw_ov]
  · refine ⟨-1, ⟨m, ?_, Ks_r _ _, hA⟩, by rw [if_neg q]⟩
    rw [E_Bp_grown_0]; simp (disch := omega) only [E_Bp_grown_1, l_0, l_1, l_2, cK_0 H, cR_0_8 H, cK_61 H, letT_eq, gd_true, bnd_some, aR_ov, aK_ov, aN_ov, okO_ov, aI_ov H.1, aL_ov H.1, sI_ov H.1, sL_ov H.1, sV_eq, sV_ne, sV_2, sW_eq, sW_ne, sW_1, iI_add, iI_sub, iI_mul, iI_neg, iI_lt, iI_eq, iI_cl, nI_iI, gd_in, bZ_0, bZ_1, bZ_eq, isB_bZ, isB_0, isB_1, nar_bZ, nar_0, nar_1, mw_ov, iI_s, iI_na, iI_nm, Int.toNat_natCast, Int.add_zero, Int.zero_add, Nat.reduceEqDiff, Nat.reduceAdd, Int.reduceAdd, Int.reduceNeg, Int.reduceSub, Int.reduceMul, Int.reduceLT, Int.reduceEq, Int.reduceToNat, reduceCtorEq, ↓reduceIte]
    by_cases q1 : c < 0
    · rw [if_pos q1, mw_ov]
    · rw [if_neg q1, if_pos (by omega), mw_ov]
