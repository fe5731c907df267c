/-! ===== a thing that has grown: the reference's answer ===== -/
def fE (o : Option (Nat × Nat)) (m : VM) : Prop := (o = none → m.1 0 65 = iI (-1)) ∧ ∀ x, o = some x → m.1 0 65 = iI (x.1 : Int) ∧ m.1 0 66 = iI (x.2 : Int) ∧ x.1 < 60 ∧ x.2 < 6
/-- the reference's search at growth y, thing T, weights W -/
def fI (d : TD) (b : BD) (m0 : VM) (y T W : Nat) (m : VM) : Prop := KM m0 m ∧ m.1 0 64 = iI (y : Int) ∧ (∀ y' f t w, y' < y → w < dW d → ¬ gV d b y' f t w) ∧ ∃ o, fE o m ∧ (∀ x, o = some x → x.2 ≤ T ∧ ∃ w, w < dW d ∧ gV d b y x.1 x.2 w) ∧ ∀ f t w, (t < T ∨ (t = T ∧ w < W)) → w < dW d → gV d b y f t w → ∃ x, o = some x ∧ ¬ (x.1 < f ∨ (x.1 = f ∧ t < x.2))
theorem Md_fg7 {d : TD} {b : BD} {A : Nat → Nat} {σ : AM} {m0 : VM} (M0 : MS0 d b A σ m0) (all : ∀ w, w < dW d → dMay d w = true → ∃ f, isFW b (lst d w) f) {y T : Nat} (hy1 : 1 ≤ y) (hy : y ≤ 5) (hT : T < dT d) (P : Option (Int32 × AM) → Prop) (nx : ∀ m', fI d b m0 y (T + 1) 0 m' → P (L_Md_findGrown_6 (A 0) (iI (y : Int)) (iI ((T + 1 : Nat) : Int)) (ov 40 A (m') σ))) (m : VM) (hI : fI d b m0 y T 0 m) : P (L_Md_findGrown_7 (A 0) (iI (y : Int)) (iI (T : Int)) (iI 0) (ov 40 A m σ)) := by
  have hW := M0.2.1.2.2.2.2.2.2
  have hT6 := M0.2.1.1
  refine up_loopI (fun k mm => L_Md_findGrown_7 (A 0) (iI (y : Int)) (iI (T : Int)) (iI (k : Int)) (ov 40 A mm σ)) (fI d b m0 y T) P (dW d) (fun k mm hk hI ih => ?_) (fun mm hI => ?_) 0 m (Nat.zero_le _) hI
  · obtain ⟨i1, i2, i3, o, i4, i5, i6⟩ := hI
    have M := MS0_K i1 M0
    have H := M.1
    have hTm := M.2.2.1
    have e13 := hTm.2.2.1 k hk
    cases q : dMay d k
    · rw [q] at e13
      have := ih mm ⟨i1, i2, i3, o, i4, i5, fun f t w h hw hv => by
        refine i6 f t w ?_ hw hv
        rcases h with h | ⟨h, h'⟩
        · exact Or.inl h
        · refine Or.inr ⟨h, ?_⟩
          by_cases e : w = k
          · subst e; have := hv.1; rw [q] at this; cases this
          · omega⟩
      show P (L_Md_findGrown_7 _ _ _ _ _)
      rw [E_Md_findGrown_7]; simp (disch := omega) only [E_Md_findGrown_8, l_0, l_1, mK_0 H, mR_28 H, mK_13 H, mN_13 H, letT_eq, gd_true, bnd_some, aR_ov, aK_ov, aN_ov, okO_ov, aI_ov H.1, aL_ov H.1, sI_ov H.1, sL_ov H.1, sV_eq, sV_ne, sV_2, sW_eq, sW_ne, sW_1, iI_add, iI_sub, iI_mul, iI_neg, iI_lt, iI_eq, iI_cl, nI_iI, gd_in, bZ_0, bZ_1, bZ_eq, isB_bZ, isB_0, isB_1, nar_bZ, nar_0, nar_1, mw_ov, iI_s, iI_na, iI_nm, Int.toNat_natCast, Int.add_zero, Int.zero_add, Nat.reduceEqDiff, Nat.reduceAdd, Int.reduceAdd, Int.reduceNeg, Int.reduceSub, Int.reduceMul, Int.reduceLT, Int.reduceEq, Int.reduceToNat, reduceCtorEq, ↓reduceIte, hTm.1.2.2.2.2.1, e13]
      rw [if_pos (by omega)]
      exact this
    · rw [q] at e13
      obtain ⟨f, hf⟩ := all k hk q
      have gfx : ∃ gf : Int, mm.1 0 65 = iI gf ∧ -1 ≤ gf ∧ gf < 60 ∧ (o = none → gf = -1) ∧ ∀ x, o = some x → gf = (x.1 : Int) := by
        cases o with
        | none => exact ⟨-1, i4.1 rfl, by omega, by omega, fun _ => rfl, fun x hx => by cases hx⟩
        | some x =>
          obtain ⟨a1, a2, a3, a4⟩ := i4.2 x rfl
          exact ⟨(x.1 : Int), a1, by omega, by omega, fun h => (by cases h), fun z hz => by cases hz; rfl⟩
      obtain ⟨gf, g1, g2, g3, g4, g5⟩ := gfx
      obtain ⟨m', u1, u2, u3, u4⟩ := p_Md_growsBy M hk hT hy hf g1 g2 g3
      have hfn := hf.2.1
      have hn := M.2.2.2.1.1
      have this : P (L_Md_findGrown_7 (A 0) (iI (y : Int)) (iI (T : Int)) (iI ((k + 1 : Nat) : Int)) (ov 40 A (m') σ)) := by
        refine ih m' ⟨KM_t i1 u2, u3.trans i2, i3, ?_⟩
        rcases u4 with ⟨⟨a1, a2⟩, a3, a4⟩ | ⟨a1, a2, a3⟩
        · have hv : gV d b y f T k := ⟨q, hf, hT, hy1, hy, a2⟩
          refine ⟨some (f, T), ⟨fun h => (by cases h), fun x hx => ?_⟩, fun x hx => ?_, fun f' t w h hw hv' => ⟨(f, T), rfl, ?_⟩⟩
          · cases hx; exact ⟨a3, a4, (show f < 60 by omega), (show T < 6 by omega)⟩
          · cases hx; exact ⟨Nat.le_refl _, k, hk, hv⟩
          · dsimp only
            by_cases old : t < T ∨ (t = T ∧ w < k)
            · obtain ⟨x, hx, z⟩ := i6 f' t w old hw hv'
              have := g5 x hx
              have := (i5 x hx).1
              omega
            · have e1 : t = T := by omega
              have e2 : w = k := by omega
              subst e2
              have := isFW_u hf hv'.2.1
              omega
        · refine ⟨o, ⟨fun h => a2.trans (i4.1 h), fun x hx => ?_⟩, i5, fun f' t w h hw hv' => ?_⟩
          · obtain ⟨b1, b2, b3⟩ := i4.2 x hx
            exact ⟨a2.trans b1, a3.trans b2, b3⟩
          · by_cases old : t < T ∨ (t = T ∧ w < k)
            · exact i6 f' t w old hw hv'
            · have e1 : t = T := by omega
              have e2 : w = k := by omega
              subst e1; subst e2
              have e3 := isFW_u hf hv'.2.1
              subst e3
              have ng : ¬ gf < (f : Int) := fun z => a1 ⟨z, hv'.2.2.2.2.2⟩
              cases ho : o with
              | none => have := g4 ho; omega
              | some x =>
                have e4 := g5 x ho
                have e5 := (i5 x ho).1
                exact ⟨x, rfl, by omega⟩
      show P (L_Md_findGrown_7 _ _ _ _ _)
      rw [E_Md_findGrown_7]; simp (disch := omega) only [E_Md_findGrown_8, l_0, l_1, mK_0 H, mR_28 H, mK_13 H, mN_13 H, letT_eq, gd_true, bnd_some, aR_ov, aK_ov, aN_ov, okO_ov, aI_ov H.1, aL_ov H.1, sI_ov H.1, sL_ov H.1, sV_eq, sV_ne, sV_2, sW_eq, sW_ne, sW_1, iI_add, iI_sub, iI_mul, iI_neg, iI_lt, iI_eq, iI_cl, nI_iI, gd_in, bZ_0, bZ_1, bZ_eq, isB_bZ, isB_0, isB_1, nar_bZ, nar_0, nar_1, mw_ov, iI_s, iI_na, iI_nm, Int.toNat_natCast, Int.add_zero, Int.zero_add, Nat.reduceEqDiff, Nat.reduceAdd, Int.reduceAdd, Int.reduceNeg, Int.reduceSub, Int.reduceMul, Int.reduceLT, Int.reduceEq, Int.reduceToNat, reduceCtorEq, ↓reduceIte, hTm.1.2.2.2.2.1, e13, u1]
      rw [if_pos (by omega)]
      exact this
  · have M := MS0_K hI.1 M0
    have H := M.1
    have hTm := M.2.2.1
    obtain ⟨i1, i2, i3, o, i4, i5, i6⟩ := hI
    have := nx mm ⟨i1, i2, i3, o, i4, fun x hx => ⟨by have := (i5 x hx).1; omega, (i5 x hx).2⟩, fun f t w h hw hv => i6 f t w (by omega) hw hv⟩
    show P (L_Md_findGrown_7 _ _ _ _ _)
    rw [E_Md_findGrown_7]
    simp (disch := omega) only [mK_0 H, okO_ov, gd_true, aI_ov H.1, hTm.1.2.2.2.2.1, iI_lt, l_1, iI_add]
    rw [if_neg (by omega)]
    exact this
def mE (o : Option (Nat × Nat × Nat)) (m : VM) : Prop := ∀ x, o = some x → m.1 0 64 = iI (x.1 : Int) ∧ m.1 0 65 = iI (x.2.1 : Int) ∧ m.1 0 66 = iI (x.2.2 : Int)
def fgP (d : TD) (b : BD) (A : Nat → Nat) (σ : AM) (m0 : VM) (X : Option (Int32 × AM)) : Prop := ∃ (m' : VM) (o : Option (Nat × Nat × Nat)), X = some (bZ o.isSome, (ov 40 A (m') σ)) ∧ KM m0 m' ∧ gQ d b o ∧ mE o m'
/-- the reference's search between two growths -/
def f5 (d : TD) (b : BD) (m0 : VM) (y : Nat) (m : VM) : Prop := KM m0 m ∧ ((m.1 0 65 = iI (-1) ∧ ∀ y' f t w, y' < y → w < dW d → ¬ gV d b y' f t w) ∨ ∃ x : Nat × Nat × Nat, m.1 0 64 = iI (x.1 : Int) ∧ m.1 0 65 = iI (x.2.1 : Int) ∧ m.1 0 66 = iI (x.2.2 : Int) ∧ x.2.1 < 60 ∧ gI d b (dW d) (some x))
theorem Md_fg5 {d : TD} {b : BD} {A : Nat → Nat} {σ : AM} {m0 : VM} (M0 : MS0 d b A σ m0) (all : ∀ w, w < dW d → dMay d w = true → ∃ f, isFW b (lst d w) f) (k : Nat) (m : VM) (hk : k < 5) (hI : f5 d b m0 (k + 1) m) (ih : ∀ m', f5 d b m0 (k + 1 + 1) m' → fgP d b A σ m0 (L_Md_findGrown_5 (A 0) (iI ((k + 1 + 1 : Nat) : Int)) (ov 40 A (m') σ))) : fgP d b A σ m0 (L_Md_findGrown_5 (A 0) (iI ((k + 1 : Nat) : Int)) (ov 40 A m σ)) := by
  have M := MS0_K hI.1 M0
  have H := M.1
  have hT6 := M0.2.1.1
  obtain ⟨i1, ⟨i2, i3⟩ | ⟨x, i2, i3, i4, i5, i6⟩⟩ := hI
  · have l6 : fgP d b A σ m0 (L_Md_findGrown_6 (A 0) (iI ((k + 1 : Nat) : Int)) (iI 0) (ov 40 A (sV m 0 64 (iI ((k + 1 : Nat) : Int))) σ)) := by
      refine up_loopI (fun T mm => L_Md_findGrown_6 (A 0) (iI ((k + 1 : Nat) : Int)) (iI (T : Int)) (ov 40 A mm σ)) (fun T mm => fI d b m0 (k + 1) T 0 mm) (fgP d b A σ m0) (dT d) (fun T mm hT hJ ih2 => ?_) (fun mm hJ => ?_) 0 _ (Nat.zero_le _) ?_
      · have Mm := MS0_K hJ.1 M0
        have this := Md_fg7 M0 all (by omega) (by omega) hT (fgP d b A σ m0) ih2 mm hJ
        show fgP d b A σ m0 (L_Md_findGrown_6 _ _ _ _)
        rw [E_Md_findGrown_6]
        simp (disch := omega) only [mK_0 H, okO_ov, gd_true, aI_ov H.1, Mm.2.2.1.1.1, iI_lt, l_0]
        rw [if_pos (by omega)]
        exact this
      · have Mm := MS0_K hJ.1 M0
        obtain ⟨j1, j2, j3, o, j4, j5, j6⟩ := hJ
        have this := ih mm ⟨j1, by
          cases ho : o with
          | none =>
            refine Or.inl ⟨j4.1 ho, fun y' f t w h hw hv => ?_⟩
            by_cases e : y' = k + 1
            · subst e
              obtain ⟨x, hx, _⟩ := j6 f t w (Or.inl hv.2.2.1) hw hv
              rw [ho] at hx; cases hx
            · exact j3 y' f t w (by omega) hw hv
          | some x =>
            obtain ⟨a1, a2, a3, a4⟩ := j4.2 x ho
            refine Or.inr ⟨(k + 1, x.1, x.2), j2, a1, a2, a3, fun w hw hm => all w hw hm, fun y' f t w hw hv hg => ?_, fun z hz => ?_⟩
            · have hb := hg _ rfl
              unfold gBt at hb
              dsimp only at hb
              by_cases e : y' < k + 1
              · exact j3 y' f t w e hw hv
              · have e' : y' = k + 1 := by omega
                subst e'
                obtain ⟨z, hz, hz2⟩ := j6 f t w (Or.inl hv.2.2.1) hw hv
                rw [ho] at hz; cases hz
                omega
            · cases hz; exact (j5 x ho).2⟩
        show fgP d b A σ m0 (L_Md_findGrown_6 _ _ _ _)
        rw [E_Md_findGrown_6]
        simp (disch := omega) only [mK_0 H, okO_ov, gd_true, aI_ov H.1, Mm.2.2.1.1.1, iI_lt, l_1, iI_add]
        rw [if_neg (by omega)]
        exact this
      · refine ⟨KM_V i1 _ (by decide), by simp (disch := decide) only [sV_eq, sW_eq, sV_ne, sW_ne, sV_2, sW_1, Nat.reduceEqDiff, ↓reduceIte], i3, none, ⟨fun _ => by simp (disch := decide) only [sV_eq, sW_eq, sV_ne, sW_ne, sV_2, sW_1, Nat.reduceEqDiff, ↓reduceIte]; exact i2, fun x hx => (by cases hx)⟩, fun x hx => (by cases hx), fun f t w h => by omega⟩
    rw [E_Md_findGrown_5]
    simp (disch := omega) only [l_5, l_0, mK_0 H, okO_ov, gd_true, aI_ov H.1, i2, iI_lt, letT_eq, sI_ov H.1, Int.reduceLT, Int.reduceNeg, ↓reduceIte]
    rw [if_neg (by omega)]
    exact l6
  · refine ⟨m, some x, ?_, i1, Or.inr i6, fun z hz => by cases hz; exact ⟨i2, i3, i4⟩⟩
    rw [E_Md_findGrown_5]
    simp (disch := omega) only [E_Md_findGrown_9, E_Md_findGrown_10, l_5, l_0, l_1, mK_0 H, okO_ov, gd_true, aI_ov H.1, i3, iI_lt, isB_1]
    rw [if_neg (by omega), if_neg (by omega), if_neg (by omega)]
    rfl
