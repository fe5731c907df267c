/-! ===== a thing that has grown, the class's search ===== -/
theorem gBt_t {x y z : Nat × Nat × Nat} (h : gBt x y) (k : gBt y z) : gBt x z := by
  unfold gBt at *
  omega
theorem gO_t {x y : Nat × Nat × Nat} {o : Option (Nat × Nat × Nat)} (h : gBt x y) (k : gO y o) : gO x o := fun z hz => gBt_t h (k z hz)
def tryR (d : TD) (b : BD) (w f : Nat) (o o' : Option (Nat × Nat × Nat)) : Prop := (o' = o ∧ ∀ y t, gV d b y f t w → ¬ gO (y, f, t) o) ∨ ∃ y t, o' = some (y, f, t) ∧ gV d b y f t w ∧ gO (y, f, t) o ∧ ∀ y' t', gV d b y' f t' w → ¬ gBt (y', f, t') (y, f, t)
def tryP (d : TD) (b : BD) (w f : Nat) (o : Option (Nat × Nat × Nat)) (A : Nat → Nat) (σ : AM) (m : VM) (X : Option (Unit × AM)) : Prop := ∃ (m' : VM) (o' : Option (Nat × Nat × Nat)), X = some ((), (ov 68 A (m') σ)) ∧ Ks [0, 1, 2, 3, 4] m m' ∧ m'.1 61 11 = m.1 61 11 ∧ gE o' m' ∧ gW o' ∧ tryR d b w f o o'
theorem Db_try3 {A : Nat → Nat} {σ : AM} (H : LC A σ) {m : VM} {d : TD} (hd : wfD d) (hT : CTw d m) {b : BD} (hb : wfB d b) (hB : CBk b m) {w : Nat} (hr : rowE d w 65 m) (hm : dMay d w = true) {f : Nat} (hf : isFW b (lst d w) f) {o : Option (Nat × Nat × Nat)} (hE : gE o m) (hW : gW o) {G y : Nat} (hy1 : 1 ≤ y) (hy2 : y ≤ 5) (nx : (∀ y' t', y' < y + 1 → gV d b y' f t' w → ¬ gO (y', f, t') o) → tryP d b w f o A σ m (L_Db_tryGrowths_2 (A 61) (iI (f : Int)) (iI (tS b f : Int)) (iI (G : Int)) (iI ((y + 1 : Nat) : Int)) (ov 68 A m σ))) (h0 : ∀ y' t', y' < y → gV d b y' f t' w → ¬ gO (y', f, t') o) : tryP d b w f o A σ m (L_Db_tryGrowths_3 (A 61) (iI (f : Int)) (iI (tS b f : Int)) (iI (G : Int)) (iI (y : Int)) (iI 0) (ov 68 A m σ)) := by
  have hn := hb.1
  have hT6 := hd.1
  have hfn := hf.2.1
  have hs := hb.2.2.1 f (by omega)
  refine up_loopI (fun k (_ : Unit) => L_Db_tryGrowths_3 (A 61) (iI (f : Int)) (iI (tS b f : Int)) (iI (G : Int)) (iI (y : Int)) (iI (k : Int)) (ov 68 A m σ)) (fun k _ => ∀ t', t' < k → gV d b y f t' w → ¬ gO (y, f, t') o) (fun X => tryP d b w f o A σ m X) (dT d) (fun k _ hk hI ih => ?_) (fun _ hI => ?_) 0 () (Nat.zero_le _) (fun t' h => absurd h (Nat.not_lt_zero t'))
  · have hbI := bitI hs (show k < 6 by omega)
    obtain ⟨r1, e1, q1⟩ := q_Db_isBetter H hE hW (y := y) (f := f) (t := k) (by omega) (by omega) (by omega)
    obtain ⟨r2, e2, q2⟩ := q_Db_holdsGrown H hd hT hb hB hr hfn hk (y := y) (by omega)
    have skip : (gV d b y f k w → ¬ gO (y, f, k) o) → tryP d b w f o A σ m (L_Db_tryGrowths_3 (A 61) (iI (f : Int)) (iI (tS b f : Int)) (iI (G : Int)) (iI (y : Int)) (iI ((k + 1 : Nat) : Int)) (ov 68 A m σ)) := fun h => ih () (fun t' ht' => by
      by_cases e : t' = k
      · rw [e]; exact h
      · exact hI t' (by omega))
    show tryP d b w f o A σ m (L_Db_tryGrowths_3 _ _ _ _ _ _ _)
    by_cases z : (tS b f).testBit k = true
    · rw [if_pos z] at hbI
      replace hbI : (iI (tS b f : Int) >>> (iI (k : Int) &&& iI 31)) &&& iI 1 = iI 1 := hbI
      cases r1
      · have := skip (fun _ h => by have := q1.mpr h; cases this)
        rw [E_Db_tryGrowths_3]; simp (disch := omega) only [E_Db_tryGrowths_4, l_0, l_1, l_31, cK_61 H, cR_61_0 H, cK_10 H, q_Tw_things (LTt H), letT_eq, gd_true, bnd_some, aR_ov, aK_ov, aN_ov, okO_ov, aI_ov H.1, aL_ov H.1, sI_ov H.1, sL_ov H.1, sV_eq, sV_ne, sV_2, sW_eq, sW_ne, sW_1, iI_add, iI_sub, iI_mul, iI_neg, iI_lt, iI_eq, iI_cl, nI_iI, gd_in, bZ_0, bZ_1, bZ_eq, isB_bZ, isB_0, isB_1, nar_bZ, nar_0, nar_1, mw_ov, iI_s, iI_na, iI_nm, Int.toNat_natCast, Int.add_zero, Int.zero_add, Nat.reduceEqDiff, Nat.reduceAdd, Int.reduceAdd, Int.reduceNeg, Int.reduceSub, Int.reduceMul, Int.reduceLT, Int.reduceEq, Int.reduceToNat, reduceCtorEq, ↓reduceIte, hT.1.1, hbI, e1]
        rw [if_pos (by omega)]
        exact this
      · cases r2
        · have := skip (fun h _ => by have := q2.mpr h.2.2.2.2.2; cases this)
          rw [E_Db_tryGrowths_3]; simp (disch := omega) only [E_Db_tryGrowths_4, l_0, l_1, l_31, cK_61 H, cR_61_0 H, cK_10 H, q_Tw_things (LTt H), letT_eq, gd_true, bnd_some, aR_ov, aK_ov, aN_ov, okO_ov, aI_ov H.1, aL_ov H.1, sI_ov H.1, sL_ov H.1, sV_eq, sV_ne, sV_2, sW_eq, sW_ne, sW_1, iI_add, iI_sub, iI_mul, iI_neg, iI_lt, iI_eq, iI_cl, nI_iI, gd_in, bZ_0, bZ_1, bZ_eq, isB_bZ, isB_0, isB_1, nar_bZ, nar_0, nar_1, mw_ov, iI_s, iI_na, iI_nm, Int.toNat_natCast, Int.add_zero, Int.zero_add, Nat.reduceEqDiff, Nat.reduceAdd, Int.reduceAdd, Int.reduceNeg, Int.reduceSub, Int.reduceMul, Int.reduceLT, Int.reduceEq, Int.reduceToNat, reduceCtorEq, ↓reduceIte, hT.1.1, hbI, e1, e2]
          rw [if_pos (by omega)]
          exact this
        · have hv : gV d b y f k w := ⟨hm, hf, hk, hy1, hy2, q2.mp rfl⟩
          have hg := q1.mp rfl
          refine ⟨sV (sV (sV m 61 12 (iI (y : Int))) 61 13 (iI (f : Int))) 61 14 (iI (k : Int)), some (y, f, k), ?_, Ks_V (Ks_V (Ks_V (Ks_r _ _) _ (by decide)) _ (by decide)) _ (by decide), by simp (disch := decide) only [sV_eq, sW_eq, sV_ne, sW_ne, sV_2, sW_1, Nat.reduceEqDiff, ↓reduceIte], ⟨fun h => (by cases h), fun x hx => ?_⟩, fun x hx => ?_, Or.inr ⟨y, k, rfl, hv, hg, fun y' t' hv' hb' => ?_⟩⟩
          · rw [E_Db_tryGrowths_3]; simp (disch := omega) only [E_Db_tryGrowths_4, l_0, l_1, l_31, cK_61 H, cR_61_0 H, cK_10 H, q_Tw_things (LTt H), letT_eq, gd_true, bnd_some, aR_ov, aK_ov, aN_ov, okO_ov, aI_ov H.1, aL_ov H.1, sI_ov H.1, sL_ov H.1, sV_eq, sV_ne, sV_2, sW_eq, sW_ne, sW_1, iI_add, iI_sub, iI_mul, iI_neg, iI_lt, iI_eq, iI_cl, nI_iI, gd_in, bZ_0, bZ_1, bZ_eq, isB_bZ, isB_0, isB_1, nar_bZ, nar_0, nar_1, mw_ov, iI_s, iI_na, iI_nm, Int.toNat_natCast, Int.add_zero, Int.zero_add, Nat.reduceEqDiff, Nat.reduceAdd, Int.reduceAdd, Int.reduceNeg, Int.reduceSub, Int.reduceMul, Int.reduceLT, Int.reduceEq, Int.reduceToNat, reduceCtorEq, ↓reduceIte, hT.1.1, hbI, e1, e2]
            rw [if_pos (by omega)]
          · cases hx; refine ⟨by simp (disch := decide) only [sV_eq, sW_eq, sV_ne, sW_ne, sV_2, sW_1, Nat.reduceEqDiff, ↓reduceIte], by simp (disch := decide) only [sV_eq, sW_eq, sV_ne, sW_ne, sV_2, sW_1, Nat.reduceEqDiff, ↓reduceIte], by simp (disch := decide) only [sV_eq, sW_eq, sV_ne, sW_ne, sV_2, sW_1, Nat.reduceEqDiff, ↓reduceIte]⟩
          · cases hx; exact ⟨hy1, hy2, (show f < 60 by omega), (show k < 6 by omega)⟩
          · have hgo := gO_t hb' hg
            unfold gBt at hb'
            dsimp only at hb'
            by_cases e : y' < y
            · exact h0 y' t' e hv' hgo
            · have e' : y' = y := by omega
              subst e'
              exact hI t' (by omega) hv' hgo
    · rw [if_neg z] at hbI
      replace hbI : (iI (tS b f : Int) >>> (iI (k : Int) &&& iI 31)) &&& iI 1 = iI 0 := hbI
      have := skip (fun h _ => z (gV_need hd hb h).2.1)
      rw [E_Db_tryGrowths_3]; simp (disch := omega) only [E_Db_tryGrowths_4, l_0, l_1, l_31, cK_61 H, cR_61_0 H, cK_10 H, q_Tw_things (LTt H), letT_eq, gd_true, bnd_some, aR_ov, aK_ov, aN_ov, okO_ov, aI_ov H.1, aL_ov H.1, sI_ov H.1, sL_ov H.1, sV_eq, sV_ne, sV_2, sW_eq, sW_ne, sW_1, iI_add, iI_sub, iI_mul, iI_neg, iI_lt, iI_eq, iI_cl, nI_iI, gd_in, bZ_0, bZ_1, bZ_eq, isB_bZ, isB_0, isB_1, nar_bZ, nar_0, nar_1, mw_ov, iI_s, iI_na, iI_nm, Int.toNat_natCast, Int.add_zero, Int.zero_add, Nat.reduceEqDiff, Nat.reduceAdd, Int.reduceAdd, Int.reduceNeg, Int.reduceSub, Int.reduceMul, Int.reduceLT, Int.reduceEq, Int.reduceToNat, reduceCtorEq, ↓reduceIte, hT.1.1, hbI]
      rw [if_pos (by omega)]
      exact this
  · have := nx (fun y' t' h hv => by
      by_cases e : y' = y
      · subst e; exact hI t' hv.2.2.1 hv
      · exact h0 y' t' (by omega) hv)
    show tryP d b w f o A σ m (L_Db_tryGrowths_3 _ _ _ _ _ _ _)
    rw [E_Db_tryGrowths_3]; simp (disch := omega) only [E_Db_tryGrowths_4, l_0, l_1, l_31, cK_61 H, cR_61_0 H, cK_10 H, q_Tw_things (LTt H), letT_eq, gd_true, bnd_some, aR_ov, aK_ov, aN_ov, okO_ov, aI_ov H.1, aL_ov H.1, sI_ov H.1, sL_ov H.1, sV_eq, sV_ne, sV_2, sW_eq, sW_ne, sW_1, iI_add, iI_sub, iI_mul, iI_neg, iI_lt, iI_eq, iI_cl, nI_iI, gd_in, bZ_0, bZ_1, bZ_eq, isB_bZ, isB_0, isB_1, nar_bZ, nar_0, nar_1, mw_ov, iI_s, iI_na, iI_nm, Int.toNat_natCast, Int.add_zero, Int.zero_add, Nat.reduceEqDiff, Nat.reduceAdd, Int.reduceAdd, Int.reduceNeg, Int.reduceSub, Int.reduceMul, Int.reduceLT, Int.reduceEq, Int.reduceToNat, reduceCtorEq, ↓reduceIte, hT.1.1]
    rw [if_neg (by omega)]
    exact this
theorem p_Db_tryGrowths {A : Nat → Nat} {σ : AM} (H : LC A σ) {m : VM} {d : TD} (hd : wfD d) (hT : CTw d m) {b : BD} (hb : wfB d b) (hB : CBk b m) {w : Nat} (hr : rowE d w 65 m) (hm : dMay d w = true) {f : Nat} (hf : isFW b (lst d w) f) {o : Option (Nat × Nat × Nat)} (hE : gE o m) (hW : gW o) : tryP d b w f o A σ m (M_Db_tryGrowths (A 61) (iI (f : Int)) (ov 68 A m σ)) := by
  have hn := hb.1
  have hfn := hf.2.1
  have hs := hb.2.2.1 f (by omega)
  have hss := hb.2.2.2.1 f hfn
  have r1 := q_Bk_setAt H hb hB hfn
  have r3 := q_sumRow H hd (c := 65) (by decide) (H.2.2.1 (65, 101) (by decide)) (cN_65 H) hr hss
  have hw := wts_le hd w (tS b f)
  have hB5 := hd.2.2.2.2.1
  have hB1 := hd.2.2.2.1
  have big : ∀ G : Nat, 1 ≤ G → G ≤ 5 → (∀ y t, G < y → gV d b y f t w → ¬ gO (y, f, t) o) → ∀ n, 1 ≤ n → (∀ y' t', y' < n → gV d b y' f t' w → ¬ gO (y', f, t') o) → tryP d b w f o A σ m (L_Db_tryGrowths_2 (A 61) (iI (f : Int)) (iI (tS b f : Int)) (iI (G : Int)) (iI (n : Int)) (ov 68 A m σ)) ∨ 1000 < n := by
    intro G hG1 hG hGo n hn1 h0
    by_cases q : G + 1 ≤ n
    · by_cases q2 : 1000 < n
      · exact Or.inr q2
      · left
        refine ⟨m, o, ?_, Ks_r _ _, rfl, hE, hW, Or.inl ⟨rfl, fun y t hv => ?_⟩⟩
        · rw [E_Db_tryGrowths_2]; simp (disch := omega) only [iI_lt]; rw [if_pos (by omega)]
        · by_cases z : G < y
          · exact hGo y t z hv
          · exact h0 y t (by omega) hv
    · left
      refine up_loopI (fun k (_ : Unit) => L_Db_tryGrowths_2 (A 61) (iI (f : Int)) (iI (tS b f : Int)) (iI (G : Int)) (iI (k : Int)) (ov 68 A m σ)) (fun k _ => 1 ≤ k ∧ ∀ y' t', y' < k → gV d b y' f t' w → ¬ gO (y', f, t') o) (fun X => tryP d b w f o A σ m X) (G + 1) (fun k _ hk hI ih => ?_) (fun _ hI => ?_) n () (by omega) ⟨hn1, h0⟩
      · show tryP d b w f o A σ m (L_Db_tryGrowths_2 _ _ _ _ _ _)
        rw [E_Db_tryGrowths_2]; simp (disch := omega) only [iI_lt]; rw [if_neg (by omega), l_0]
        exact Db_try3 H hd hT hb hB hr hm hf hE hW (G := G) hI.1 (by omega) (fun h => ih () ⟨by omega, h⟩) hI.2
      · refine ⟨m, o, ?_, Ks_r _ _, rfl, hE, hW, Or.inl ⟨rfl, fun y t hv => ?_⟩⟩
        · show L_Db_tryGrowths_2 _ _ _ _ _ _ = _
          rw [E_Db_tryGrowths_2]; simp (disch := omega) only [iI_lt]; rw [if_pos (by omega)]
        · by_cases z : G < y
          · exact hGo y t z hv
          · exact hI.2 y t (by omega) hv
  have lk : ∀ y' t', y' < (if 1 < (dB d : Int) - (wtS (dg d w) (tS b f) : Int) then dB d - wtS (dg d w) (tS b f) else 1) → gV d b y' f t' w → ¬ gO (y', f, t') o := by
    intro y' t' h hv
    have a1 := (gV_need hd hb hv).2.2
    have a2 := hv.2.2.2.1
    exfalso
    split at h <;> omega
  have e4 : (if 1 < (dB d : Int) - (wtS (dg d w) (tS b f) : Int) then (dB d : Int) - (wtS (dg d w) (tS b f) : Int) else 1) = ((if 1 < (dB d : Int) - (wtS (dg d w) (tS b f) : Int) then dB d - wtS (dg d w) (tS b f) else 1 : Nat) : Int) := by split <;> omega
  have e5 : 1 ≤ (if 1 < (dB d : Int) - (wtS (dg d w) (tS b f) : Int) then dB d - wtS (dg d w) (tS b f) else 1) ∧ (if 1 < (dB d : Int) - (wtS (dg d w) (tS b f) : Int) then dB d - wtS (dg d w) (tS b f) else 1) ≤ 100 := by split <;> omega
  unfold M_Db_tryGrowths
  have mwP : ∀ X, tryP d b w f o A σ m X → tryP d b w f o A σ m (mw (ov 68 A m σ) X) := by
    intro X ⟨m', o', h1, h2⟩
    exact ⟨m', o', by rw [h1]; exact mw_ov _ _ _ _ _ _, h2⟩
  cases o with
  | none =>
    have e := hE.1 rfl
    have := big 5 (by omega) (by omega) (fun y t h hv => absurd hv.2.2.2.2.1 (by omega)) _ e5.1 lk
    rw [← e4] at this
    rw [E_Db_tryGrowths_0]
    simp (disch := omega) only [cK_61 H, cR_61_2 H, cK_27 H, cR_61_0 H, cK_10 H, cR_61_6 H, cK_65 H, okO_ov, aR_ov, gd_true, r1, bnd_some, q_Tw_bar (LTt H), hT.1.2.2.1, r3, letT_eq, iI_sub, aI_ov H.1, e, l_1, l_5, iI_nm, ↓reduceIte, E_Db_tryGrowths_1, mxI_iI]
    exact mwP _ (this.resolve_right (by omega))
  | some x =>
    obtain ⟨e1, e2, e3⟩ := hE.2 x rfl
    obtain ⟨w1, w2, w3, w4⟩ := hW x rfl
    have := big x.1 w1 w2 (fun y t h hv hg => by
      have := hg x rfl
      unfold gBt at this
      dsimp only at this
      omega) _ e5.1 lk
    rw [← e4] at this
    rw [E_Db_tryGrowths_0]
    simp (disch := omega) only [cK_61 H, cR_61_2 H, cK_27 H, cR_61_0 H, cK_10 H, cR_61_6 H, cK_65 H, okO_ov, aR_ov, gd_true, r1, bnd_some, q_Tw_bar (LTt H), hT.1.2.2.1, r3, letT_eq, iI_sub, aI_ov H.1, e1, l_1, l_5, iI_neg, iI_eq, E_Db_tryGrowths_1, mxI_iI]
    rw [if_neg (by omega)]
    exact mwP _ (this.resolve_right (by omega))
