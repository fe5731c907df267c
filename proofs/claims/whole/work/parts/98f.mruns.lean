/-! ===== next, run, runSet, worst, mean: the reference ===== -/
/-- rows of the reference's search that may change -/
def OnR (m m' : VM) : Prop := (∀ c, c ≠ 0 → c ≠ 26 → c ≠ 27 → c ≠ 28 → c ≠ 29 → m'.1 c = m.1 c) ∧ (∀ j, j < 49 → m'.1 0 j = m.1 0 j) ∧ (∀ j, 56 < j → m'.1 0 j = m.1 0 j) ∧ (∀ c, c ≠ 0 → m'.2 c = m.2 c) ∧ (∀ j, j ≠ 51 → m'.2 0 j = m.2 0 j)
theorem OnR_r (m : VM) : OnR m m := ⟨fun _ _ _ _ _ _ => rfl, fun _ _ => rfl, fun _ _ => rfl, fun _ _ => rfl, fun _ _ => rfl⟩
theorem OnR_t {a b c : VM} (h : OnR a b) (k : OnR b c) : OnR a c := ⟨fun q h1 h2 h3 h4 h5 => (k.1 q h1 h2 h3 h4 h5).trans (h.1 q h1 h2 h3 h4 h5), fun j hj => (k.2.1 j hj).trans (h.2.1 j hj), fun j hj => (k.2.2.1 j hj).trans (h.2.2.1 j hj), fun q hq => (k.2.2.2.1 q hq).trans (h.2.2.2.1 q hq), fun j hj => (k.2.2.2.2 j hj).trans (h.2.2.2.2 j hj)⟩
theorem OnR_KM {m m' : VM} (h : OnR m m') : KM m m' := by
  refine ⟨fun j hj => ?_, fun c hc => ?_, fun c hc => ?_⟩
  · have := (show ∀ j ∈ persF, j < 49 ∨ 56 < j by decide) j hj
    rcases this with z | z
    · exact h.2.1 j z
    · exact h.2.2.1 j z
  · have := (show ∀ c ∈ persC, c ≠ 0 ∧ c ≠ 26 ∧ c ≠ 27 ∧ c ≠ 28 ∧ c ≠ 29 by decide) c hc
    exact h.1 c this.1 this.2.1 this.2.2.1 this.2.2.2.1 this.2.2.2.2
  · have := (show ∀ c ∈ persL, c ≠ 0 by decide) c hc
    exact h.2.2.2.1 c this
theorem OnN_R {m m' : VM} (h : OnN m m') : OnR m m' := ⟨fun c _ _ h3 h4 _ => h.1 c h3 h4, fun j _ => by rw [h.1 0 (by decide) (by decide)], fun j _ => by rw [h.1 0 (by decide) (by decide)], fun c _ => by rw [h.2], fun j _ => by rw [h.2]⟩
theorem OnS_R {m m' : VM} (h : OnS 26 m m') : OnR m m' := ⟨fun c _ h2 _ _ _ => h.1 c h2, fun j _ => by rw [h.1 0 (by decide)], fun j _ => by rw [h.1 0 (by decide)], fun c _ => by rw [h.2], fun j _ => by rw [h.2]⟩
theorem OnR_V {m m' : VM} (h : OnR m m') {j : Nat} (v : Int32) (h1 : 49 ≤ j) (h2 : j ≤ 56) : OnR m (sV m' 0 j v) := ⟨fun c h0 h2 h3 h4 h5 => by rw [sV_ne _ _ _ _ h0]; exact h.1 c h0 h2 h3 h4 h5, fun i hi => by rw [sV_eq, if_neg (by omega)]; exact h.2.1 i hi, fun i hi => by rw [sV_eq, if_neg (by omega)]; exact h.2.2.1 i hi, h.2.2.2.1, h.2.2.2.2⟩
theorem OnR_W {m m' : VM} (h : OnR m m') (v : Int64) : OnR m (sW m' 0 51 v) := ⟨h.1, h.2.1, h.2.2.1, fun c hc => by rw [sW_ne _ _ _ _ hc]; exact h.2.2.2.1 c hc, fun j hj => by rw [sW_eq, if_neg hj]; exact h.2.2.2.2 j hj⟩
theorem OnR_A {m m' : VM} (h : OnR m m') (j : Nat) (v : Int32) : OnR m (sV m' 29 j v) := ⟨fun c h0 h2 h3 h4 h5 => by rw [sV_ne _ _ _ _ h5]; exact h.1 c h0 h2 h3 h4 h5, fun i hi => by rw [sV_ne _ _ _ _ (by decide)]; exact h.2.1 i hi, fun i hi => by rw [sV_ne _ _ _ _ (by decide)]; exact h.2.2.1 i hi, h.2.2.2.1, h.2.2.2.2⟩
theorem q_Md_isWay {a : Int} (σ : AM) (h1 : -2147483648 ≤ a) (h2 : a < 2147483648) : M_Md_isWay (iI a) σ = some (bZ (decide (0 ≤ a ∧ a ≤ 2)), σ) := by
  unfold M_Md_isWay
  rw [E_Md_isWay_0]; simp (disch := omega) only [l_0, l_2, letT_eq, gd_true, bnd_some, iI_add, iI_sub, iI_mul, iI_neg, iI_lt, iI_eq, iI_cl, nI_iI, gd_in, bZ_0, bZ_1, bZ_eq, isB_bZ, isB_0, isB_1, nar_bZ, nar_0, nar_1, iI_s, iI_na, iI_nm, Int.toNat_natCast, Int.add_zero, Int.zero_add, Nat.reduceEqDiff, Nat.reduceAdd, Int.reduceAdd, Int.reduceNeg, Int.reduceSub, Int.reduceMul, Int.reduceLT, Int.reduceEq, Int.reduceToNat, reduceCtorEq, ↓reduceIte, q_Md_within]
  exact mw_of (Nat.le_refl _) (Nat.le_refl _)
theorem p_Md_takesLeft {d : TD} {b : BD} {A : Nat → Nat} {σ : AM} {m : VM} (M : MS0 d b A σ m) : ∃ m' : VM, M_Md_takesLeft (A 0) (ov 40 A m σ) = some ((), (ov 40 A (m') σ)) ∧ KM m m' ∧ LeftM d b m' ∧ MS0 d b A σ m' ∧ Seg (m'.1 26) 0 (lefts d b) := by
  obtain ⟨H, hd, hT, hb, hB⟩ := M
  obtain ⟨m1, e1, k1, l1⟩ := p_Md_findLeft H hd hT hb hB
  have M1 : MS0 d b A σ m1 := ⟨H, hd, MT_K k1 hT, hb, MB_K k1 hB⟩
  have h5 := Lf_5 M1 l1
  have lp : ∃ m' : VM, L_Md_takesLeft_1 (A 0) (iI ((0 : Nat) : Int)) (ov 40 A m1 σ) = some ((), (ov 40 A (m') σ)) ∧ OnS 26 m1 m' ∧ ∀ j, j < nLf d b → m'.1 26 j = iI (lf d b j : Int) := by
    refine up_loopI (fun k m2 => L_Md_takesLeft_1 (A 0) (iI (k : Int)) (ov 40 A m2 σ)) (fun k m2 => OnS 26 m1 m2 ∧ ∀ j, j < k → m2.1 26 j = iI (lf d b j : Int)) (fun X => ∃ m' : VM, X = some ((), (ov 40 A (m') σ)) ∧ OnS 26 m1 m' ∧ ∀ j, j < nLf d b → m'.1 26 j = iI (lf d b j : Int)) (nLf d b) (fun k m2 hk ⟨i1, i2⟩ ih => ?_) (fun m2 ⟨i1, i2⟩ => ?_) 0 m1 (Nat.zero_le _) ⟨⟨fun _ _ => rfl, rfl⟩, fun j hj => absurd hj (Nat.not_lt_zero j)⟩
    · have e46 : m2.1 0 46 = iI (nLf d b : Int) := by rw [i1.1 0 (by decide)]; exact h5.1
      have e25 : m2.1 25 k = iI (lf d b k : Int) := by rw [i1.1 25 (by decide)]; exact (Lf_x M1 l1 hk).1
      show ∃ m' : VM, L_Md_takesLeft_1 _ _ _ = _ ∧ _
      rw [E_Md_takesLeft_1]; simp (disch := omega) only [l_1, mK_0 H, mR_45 H, mK_25 H, mN_25 H, mR_48 H, mK_26 H, mN_26 H, letT_eq, gd_true, bnd_some, aR_ov, aK_ov, aN_ov, okO_ov, aI_ov H.1, aL_ov H.1, sI_ov H.1, sL_ov H.1, sV_eq, sV_ne, sV_2, sW_eq, sW_ne, sW_1, iI_add, iI_sub, iI_mul, iI_neg, iI_lt, iI_eq, iI_cl, nI_iI, gd_in, bZ_0, bZ_1, bZ_eq, isB_bZ, isB_0, isB_1, nar_bZ, nar_0, nar_1, mw_ov, iI_s, iI_na, iI_nm, Int.toNat_natCast, Int.add_zero, Int.zero_add, Nat.reduceEqDiff, Nat.reduceAdd, Int.reduceAdd, Int.reduceNeg, Int.reduceSub, Int.reduceMul, Int.reduceLT, Int.reduceEq, Int.reduceToNat, reduceCtorEq, ↓reduceIte, e46, e25]
      rw [if_pos (by omega)]
      refine ih _ ⟨⟨fun c hc => by rw [sV_ne _ _ _ _ hc]; exact i1.1 c hc, i1.2⟩, fun j hj => ?_⟩
      rw [sV_eq]
      by_cases e : j = k
      · rw [if_pos e, e]
      · rw [if_neg e]; exact i2 j (by omega)
    · have e46 : m2.1 0 46 = iI (nLf d b : Int) := by rw [i1.1 0 (by decide)]; exact h5.1
      refine ⟨m2, ?_, i1, i2⟩
      show L_Md_takesLeft_1 _ _ _ = _
      rw [E_Md_takesLeft_1]
      simp (disch := omega) only [mK_0 H, okO_ov, gd_true, aI_ov H.1, e46, iI_lt]
      rw [if_neg (by omega)]
  obtain ⟨m2, e2, k2, s2⟩ := lp
  have K2 : KM m m2 := KM_t k1 (OnR_KM (OnS_R k2))
  refine ⟨m2, ?_, K2, ?_, ⟨H, hd, MT_K K2 hT, hb, MB_K K2 hB⟩, (Seg_0 _ _).mpr s2⟩
  · unfold M_Md_takesLeft
    rw [E_Md_takesLeft_0]
    simp only [mK_0 H, okO_ov, gd_true, e1, bnd_some, l_0]
    exact (congrArg (mw _) e2).trans (mw_ov _ _ _ _ _ _)
  · obtain ⟨a1, a2, a3, a4, a5⟩ := l1
    exact ⟨by rw [k2.2]; exact a1, by rw [k2.2]; exact a2, by rw [k2.1 0 (by decide)]; exact a3, by rw [k2.1 0 (by decide)]; exact a4, by rw [k2.1 25 (by decide)]; exact a5⟩
theorem m_next {d : TD} {b : BD} {A : Nat → Nat} {σ : AM} {m : VM} (M : MS0 d b A σ m) {a : Int} (h1 : -2147483648 ≤ a) (h2 : a < 2147483648) : Mf A σ m (M_Md_next (A 0) (iI a) (ov 40 A m σ)) (iI (nextS d b a)) := by
  have M0 := MS0_K (KM_0 m) M
  have H := M.1
  have hd := M.2.1
  have hw := q_Md_isWay (ov 40 A (sV m 0 0 (iI 0)) σ) h1 h2
  unfold M_Md_next nextS
  by_cases q : 0 ≤ a ∧ a ≤ 2
  · rw [decide_eq_true q] at hw
    obtain ⟨n, rfl⟩ := Int.eq_ofNat_of_zero_le q.1
    obtain ⟨m1, e1, k1, l1, M1, s1⟩ := p_Md_takesLeft M0
    have h5 := Lf_5 M1 l1
    obtain ⟨m2, e2, k2⟩ := p_Md_nextOf H hd M1.2.2.1 (wl_lefts d b) (a := 0) (by show 0 + nLf d b ≤ _; omega) s1 (way := n) (by omega)
    rw [show 0 + (lefts d b).length = nLf d b from Nat.zero_add _] at e2
    replace e2 : M_Md_nextOf (A 0) _ (iI 0) _ _ = _ := e2
    refine ⟨m2, ?_, KM_t (KM_0 m) (KM_t k1 (OnN_KM k2))⟩
    rw [if_pos q]
    rw [E_Md_next_0]
    simp (disch := omega) only [mK_0 H, okO_ov, gd_true, letT_eq, sI_ov H.1, l_0, l_1, hw, bnd_some, bZ_0, reduceCtorEq, ↓reduceIte, e1, aI_ov H.1, h5.1, e2, Int.toNat_natCast, mw_ov]
  · rw [decide_eq_false q] at hw
    refine ⟨sV m 0 0 (iI 0), ?_, KM_0 m⟩
    rw [if_neg q, E_Md_next_0]
    simp (disch := omega) only [mK_0 H, okO_ov, gd_true, letT_eq, sI_ov H.1, l_0, l_1, iI_neg, hw, bnd_some, bZ_0, ↓reduceIte, mw_ov]
/-! a run -/
def rnI (d : TD) (b : BD) (x : Int64) (way : Nat) (m0 : VM) (i : Nat) (q : VM × List Nat × Nat) : Prop := OnR m0 q.1 ∧ q.2.1.Perm (rl d way x (lefts d b) i) ∧ q.2.2 + q.2.1.length ≤ 16384 ∧ Seg (q.1.1 26) q.2.2 q.2.1 ∧ (q.1.1 0 49 = iI (i : Int) ∧ q.1.1 0 55 = iI (rRang d way x (lefts d b) i : Int) ∧ q.1.1 0 56 = rCost d way x (lefts d b) i ∧ ∀ j, j < i → q.1.1 29 j = iI (rs d way x (lefts d b) j : Int)) ∧ ∀ j, j < i → 1 < (rl d way x (lefts d b) j).length
def RnV (d : TD) (b : BD) (x : Int64) (way : Nat) (m : VM) : Prop := ∃ n, isStop d way x (lefts d b) n ∧ m.1 0 49 = iI (n : Int) ∧ m.1 0 55 = iI (rRang d way x (lefts d b) n : Int) ∧ m.1 0 56 = rCost d way x (lefts d b) n ∧ ∀ j, j < n → m.1 29 j = iI (rs d way x (lefts d b) j : Int)
def rnP (d : TD) (b : BD) (A : Nat → Nat) (σ : AM) (x : Int64) (way : Nat) (m0 : VM) (X : Option (Unit × AM)) : Prop := ∃ m' : VM, X = some ((), (ov 40 A (m') σ)) ∧ OnR m0 m' ∧ RnV d b x way m'
theorem rnI_end {d : TD} {b : BD} {A : Nat → Nat} {σ : AM} {x : Int64} {way : Nat} {m0 : VM} {i : Nat} {q : VM × List Nat × Nat} (h : rnI d b x way m0 i q) (h2 : i ≤ 60) (h3 : i = 60 ∨ q.2.1.length ≤ 1) : rnP d b A σ x way m0 (some ((), (ov 40 A (q.1) σ))) := by
  obtain ⟨a1, a2, a3, a4, ⟨b4, b5, b6, b7⟩, a6⟩ := h
  exact ⟨q.1, rfl, a1, i, ⟨h2, h3.imp id (fun z => by rw [← a2.length_eq]; exact z), a6⟩, b4, b5, b6, b7⟩
theorem Md_runs1 {d : TD} {b : BD} {A : Nat → Nat} {σ : AM} {m0 : VM} (H : LM A σ) (hd : wfD d) (hT : MT d m0) {x : Int64} {way : Nat} (hw : way ≤ 2) (i : Nat) (q : VM × List Nat × Nat) (hi : i < 60) (hI : rnI d b x way m0 i q) (ih : ∀ q', rnI d b x way m0 (i + 1) q' → rnP d b A σ x way m0 (L_Md_runs_1 (A 0) x (iI (way : Int)) (iI (q'.2.2 : Int)) (iI ((q'.2.2 + q'.2.1.length : Nat) : Int)) (ov 40 A (q'.1) σ))) : rnP d b A σ x way m0 (L_Md_runs_1 (A 0) x (iI (way : Int)) (iI (q.2.2 : Int)) (iI ((q.2.2 + q.2.1.length : Nat) : Int)) (ov 40 A (q.1) σ)) := by
  have hE := rnI_end (A := A) (σ := σ) hI (by omega)
  obtain ⟨m, l, a⟩ := q
  obtain ⟨a1, a2, a3, a4, ⟨b4, b5, b6, b7⟩, a6⟩ := hI
  simp only at a1 a2 a3 a4 b4 b5 b6 b7 hE ⊢
  have hwl : wl d l := wl_perm a2.symm (rl_wl way _ (wl_lefts d b) i)
  have hW := hd.2.2.2.2.2.2
  have hNL := NL_le d
  have hS := sN_le hd
  have elen : ((a + l.length : Nat) : Int) - (a : Int) = (l.length : Int) := by omega
  by_cases c : 1 < l.length
  · have hT1 := MT_K (OnR_KM a1) hT
    obtain ⟨s, hs, hs1, hs2⟩ := nx_ok hd way hwl c
    obtain ⟨m2, e2, k2⟩ := p_Md_nextOf H hd hT1 hwl a3 a4 hw
    rw [hs] at e2
    have hT2 := MT_K (OnN_KM k2) hT1
    obtain ⟨m3, P, R, e3, k3, s1, s2, s3, s4, s5, s6⟩ := p_Md_divides H hd hT2 hwl a3 (by rw [k2.1 26 (by decide) (by decide)]; exact a4) (s := s) (by omega)
    have hT3 := MT_K (OnS_KM rfl k3) hT2
    have hh := q_Md_doesRing x (s := s) (by omega) (ov 40 A m3 σ)
    have keep : ∀ c, c ≠ 26 → c ≠ 27 → c ≠ 28 → m3.1 c = m.1 c := fun c h1 h2 h3 => by rw [k3.1 c h1, k2.1 c h2 h3]
    have g49 : m3.1 0 49 = iI (i : Int) := by rw [keep 0 (by decide) (by decide) (by decide)]; exact b4
    have g55 : m3.1 0 55 = iI (rRang d way x (lefts d b) i : Int) := by rw [keep 0 (by decide) (by decide) (by decide)]; exact b5
    have g56 : m3.1 0 56 = rCost d way x (lefts d b) i := by rw [keep 0 (by decide) (by decide) (by decide)]; exact b6
    have e20 : m3.1 20 s = dCo d s := hT3.2.2.2.2.2 s hs1
    have ers : rs d way x (lefts d b) i = s := by unfold rs; rw [← nx_perm a2, hs]; rfl
    have K3 : OnR m0 m3 := OnR_t a1 (OnR_t (OnN_R k2) (OnS_R k3))
    have a6' : ∀ j, j < i + 1 → 1 < (rl d way x (lefts d b) j).length := fun j hj => by
      by_cases e : j = i
      · subst e; rw [← a2.length_eq]; exact c
      · exact a6 j (by omega)
    have b0 : m.1 0 49 = iI (i : Int) := b4
    have step : ∀ (r : Bool) (f t : Int32), bt x s = r → (if r = true then (f = iI (a : Int) ∧ t = iI ((a + P.length : Nat) : Int)) else (f = iI ((a + P.length : Nat) : Int) ∧ t = iI ((a + l.length : Nat) : Int))) → L_Md_runs_1 (A 0) x (iI (way : Int)) (iI (a : Int)) (iI ((a + l.length : Nat) : Int)) (ov 40 A m σ) = L_Md_runs_1 (A 0) x (iI (way : Int)) f t (ov 40 A (sV (sV (sV (sV m3 29 i (iI (s : Int))) 0 49 (iI ((i + 1 : Nat) : Int))) 0 55 (iI (rRang d way x (lefts d b) (i + 1) : Int))) 0 56 (rCost d way x (lefts d b) (i + 1))) σ) := by
      intro r f t hr hft
      rw [hr] at hh
      have er : rRang d way x (lefts d b) (i + 1) = rRang d way x (lefts d b) i + (if r = true then 1 else 0) := by
        unfold rRang
        rw [cntN_s, ers, hr]
      have ec : rCost d way x (lefts d b) (i + 1) = rCost d way x (lefts d b) i + dCo d s := by
        show _ + dCo d (rs d way x (lefts d b) i) = _
        rw [ers]
      rw [er, ec]
      cases r
      · obtain ⟨rfl, rfl⟩ := hft
        rw [show rRang d way x (lefts d b) i + (if false = true then 1 else 0) = rRang d way x (lefts d b) i from rfl]
        rw [E_Md_runs_1]; simp (disch := omega) only [E_Md_runs_2, E_Md_runs_3, E_Md_runs_4, E_Md_runs_5, l_0, l_1, l_60, mK_0 H, mR_36 H, mK_20 H, mN_20 H, mR_54 H, mK_29 H, mN_29 H, letT_eq, gd_true, bnd_some, aR_ov, aK_ov, aN_ov, okO_ov, aI_ov H.1, aL_ov H.1, sI_ov H.1, sL_ov H.1, sV_eq, sV_ne, sV_2, sW_eq, sW_ne, sW_1, iI_add, iI_sub, iI_mul, iI_neg, iI_lt, iI_eq, iI_cl, nI_iI, gd_in, bZ_0, bZ_1, bZ_eq, isB_bZ, isB_0, isB_1, nar_bZ, nar_0, nar_1, mw_ov, iI_s, iI_na, iI_nm, Int.toNat_natCast, Int.add_zero, Int.zero_add, Nat.reduceEqDiff, Nat.reduceAdd, Int.reduceAdd, Int.reduceNeg, Int.reduceSub, Int.reduceMul, Int.reduceLT, Int.reduceEq, Int.reduceToNat, reduceCtorEq, ↓reduceIte, elen, b0, e2, e3, hh, g49, g55, g56, e20]
        rw [if_pos (by omega), if_pos (by omega)]
      · obtain ⟨rfl, rfl⟩ := hft
        rw [show rRang d way x (lefts d b) i + (if true = true then 1 else 0) = rRang d way x (lefts d b) i + 1 from rfl]
        rw [E_Md_runs_1]; simp (disch := omega) only [E_Md_runs_2, E_Md_runs_3, E_Md_runs_4, E_Md_runs_5, l_0, l_1, l_60, mK_0 H, mR_36 H, mK_20 H, mN_20 H, mR_54 H, mK_29 H, mN_29 H, letT_eq, gd_true, bnd_some, aR_ov, aK_ov, aN_ov, okO_ov, aI_ov H.1, aL_ov H.1, sI_ov H.1, sL_ov H.1, sV_eq, sV_ne, sV_2, sW_eq, sW_ne, sW_1, iI_add, iI_sub, iI_mul, iI_neg, iI_lt, iI_eq, iI_cl, nI_iI, gd_in, bZ_0, bZ_1, bZ_eq, isB_bZ, isB_0, isB_1, nar_bZ, nar_0, nar_1, mw_ov, iI_s, iI_na, iI_nm, Int.toNat_natCast, Int.add_zero, Int.zero_add, Nat.reduceEqDiff, Nat.reduceAdd, Int.reduceAdd, Int.reduceNeg, Int.reduceSub, Int.reduceMul, Int.reduceLT, Int.reduceEq, Int.reduceToNat, reduceCtorEq, ↓reduceIte, elen, b0, e2, e3, hh, g49, g55, g56, e20]
        rw [if_pos (by omega), if_pos (by omega)]
    have new : ∀ (l' : List Nat) (a' : Nat), l'.Perm (rl d way x (lefts d b) (i + 1)) → a' + l'.length ≤ 16384 → Seg (m3.1 26) a' l' → rnI d b x way m0 (i + 1) (sV (sV (sV (sV m3 29 i (iI (s : Int))) 0 49 (iI ((i + 1 : Nat) : Int))) 0 55 (iI (rRang d way x (lefts d b) (i + 1) : Int))) 0 56 (rCost d way x (lefts d b) (i + 1)), l', a') := by
      intro l' a' h1 h2 h3
      refine ⟨OnR_V (OnR_V (OnR_V (OnR_A K3 _ _) _ (by decide) (by decide)) _ (by decide) (by decide)) _ (by decide) (by decide), h1, h2, ?_, ⟨?_, ?_, ?_, fun j hj => ?_⟩, a6'⟩
      · show Seg ((sV (sV (sV (sV m3 29 i _) 0 49 _) 0 55 _) 0 56 _).1 26) a' l'
        rw [sV_ne _ _ _ _ (by decide), sV_ne _ _ _ _ (by decide), sV_ne _ _ _ _ (by decide), sV_ne _ _ _ _ (by decide)]
        exact h3
      · simp (disch := decide) only [sV_eq, sW_eq, sV_ne, sW_ne, sV_2, sW_1, Nat.reduceEqDiff, ↓reduceIte]
      · simp (disch := decide) only [sV_eq, sW_eq, sV_ne, sW_ne, sV_2, sW_1, Nat.reduceEqDiff, ↓reduceIte]
      · simp (disch := decide) only [sV_eq, sW_eq, sV_ne, sW_ne, sV_2, sW_1, Nat.reduceEqDiff, ↓reduceIte]
      · show (sV (sV (sV (sV m3 29 i _) 0 49 _) 0 55 _) 0 56 _).1 29 j = _
        rw [sV_ne _ _ _ _ (by decide), sV_ne _ _ _ _ (by decide), sV_ne _ _ _ _ (by decide), sV_eq]
        by_cases e : j = i
        · rw [if_pos e, e, ers]
        · rw [if_neg e, keep 29 (by decide) (by decide) (by decide)]; exact b7 j (by omega)
    cases hr : bt x s
    · rw [step false _ _ hr ⟨rfl, rfl⟩]
      have := ih (_, R, a + P.length) (new R (a + P.length) (sel_f a2 hs hr s4) (by omega) s2)
      simp only at this
      rw [show a + P.length + R.length = a + l.length by omega] at this
      exact this
    · rw [step true _ _ hr ⟨rfl, rfl⟩]
      exact ih (_, P, a) (new P a (sel_t a2 hs hr s3) (by omega) s1)
  · have hE := hE (Or.inr (by omega))
    rw [E_Md_runs_1]
    simp (disch := omega) only [E_Md_runs_5, l_1, iI_lt, iI_sub, elen]
    rw [if_neg (by omega)]
    exact hE
theorem p_Md_runs {d : TD} {b : BD} {A : Nat → Nat} {σ : AM} {m : VM} (M : MS0 d b A σ m) (hl : LeftM d b m) (hs : Seg (m.1 26) 0 (lefts d b)) (x : Int64) {way : Nat} (hw : way ≤ 2) : rnP d b A σ x way m (M_Md_runs (A 0) x (iI (way : Int)) (ov 40 A m σ)) := by
  have M0 := M
  obtain ⟨H, hd, hT, hb, hB⟩ := M
  have h5 := Lf_5 M0 hl
  have lp : rnP d b A σ x way m (L_Md_runs_1 (A 0) x (iI (way : Int)) (iI ((0 : Nat) : Int)) (iI ((0 + (lefts d b).length : Nat) : Int)) (ov 40 A (sV (sV (sV m 0 49 (iI 0)) 0 55 (iI 0)) 0 56 (iI 0)) σ)) := by
    refine up_loopI (fun i (q : VM × List Nat × Nat) => L_Md_runs_1 (A 0) x (iI (way : Int)) (iI (q.2.2 : Int)) (iI ((q.2.2 + q.2.1.length : Nat) : Int)) (ov 40 A (q.1) σ)) (rnI d b x way m) (rnP d b A σ x way m) 60 (fun i q hi hI ih => Md_runs1 H hd hT hw i q hi hI ih) (fun q hI => ?_) 0 (sV (sV (sV m 0 49 (iI 0)) 0 55 (iI 0)) 0 56 (iI 0), lefts d b, 0) (Nat.zero_le _) ⟨OnR_V (OnR_V (OnR_V (OnR_r m) _ (by decide) (by decide)) _ (by decide) (by decide)) _ (by decide) (by decide), List.Perm.refl _, ?_, ?_, ⟨?_, ?_, ?_, fun j hj => absurd hj (Nat.not_lt_zero j)⟩, fun j hj => absurd hj (Nat.not_lt_zero j)⟩
    · have hE := rnI_end (A := A) (σ := σ) hI (Nat.le_refl _) (Or.inl rfl)
      have e49 : q.1.1 0 49 = iI ((60 : Nat) : Int) := hI.2.2.2.2.1.1
      have hq := hI.2.2.1
      show rnP d b A σ x way m (L_Md_runs_1 _ _ _ _ _ _)
      rw [E_Md_runs_1]
      simp (disch := omega) only [E_Md_runs_5, l_1, l_60, iI_lt, iI_sub, mK_0 H, okO_ov, gd_true, aI_ov H.1, e49]
      by_cases c : (1 : Int) < ((q.2.2 + q.2.1.length : Nat) : Int) - (q.2.2 : Int)
      · rw [if_pos c, if_neg (by decide)]; exact hE
      · rw [if_neg c]; exact hE
    · show 0 + nLf d b ≤ _; omega
    · show Seg ((sV (sV (sV m 0 49 _) 0 55 _) 0 56 _).1 26) 0 (lefts d b)
      rw [sV_ne _ _ _ _ (by decide), sV_ne _ _ _ _ (by decide), sV_ne _ _ _ _ (by decide)]
      exact hs
    · simp (disch := decide) only [sV_eq, sW_eq, sV_ne, sW_ne, sV_2, sW_1, Nat.reduceEqDiff, ↓reduceIte]; rfl
    · simp (disch := decide) only [sV_eq, sW_eq, sV_ne, sW_ne, sV_2, sW_1, Nat.reduceEqDiff, ↓reduceIte]; rfl
    · simp (disch := decide) only [sV_eq, sW_eq, sV_ne, sW_ne, sV_2, sW_1, Nat.reduceEqDiff, ↓reduceIte]; rfl
  rw [Nat.zero_add] at lp
  obtain ⟨m', e, r⟩ := lp
  replace e : L_Md_runs_1 (A 0) x (iI (way : Int)) (iI 0) (iI (nLf d b : Int)) _ = _ := e
  refine ⟨m', ?_, r⟩
  unfold M_Md_runs
  rw [E_Md_runs_0]
  simp (disch := omega) only [mK_0 H, okO_ov, gd_true, letT_eq, aI_ov H.1, sI_ov H.1, h5.1, l_0]
  exact (congrArg (mw _) e).trans (mw_ov _ _ _ _ _ _)
theorem p_Md_canRun {d : TD} {b : BD} {A : Nat → Nat} {σ : AM} {m : VM} (M : MS0 d b A σ m) {w way : Int} (h1 : -2147483648 ≤ w) (h2 : w < 2147483648) (h3 : -2147483648 ≤ way) (h4 : way < 2147483648) : ∃ (m' : VM) (r : Bool), M_Md_canRun (A 0) (iI w) (iI way) (ov 40 A m σ) = some (bZ r, (ov 40 A (m') σ)) ∧ KM m m' ∧ MS0 d b A σ m' ∧ (r = true ↔ crOk d b w way) ∧ (r = true → LeftM d b m' ∧ Seg (m'.1 26) 0 (lefts d b)) := by
  have H := M.1
  have hd := M.2.1
  have hs := q_Md_isWeights H hd M.2.2.1 h1 h2
  have hw := q_Md_isWay (ov 40 A m σ) h3 h4
  unfold M_Md_canRun
  by_cases q1 : 0 ≤ w ∧ w < (dW d : Int)
  · rw [decide_eq_true q1] at hs
    by_cases q2 : 0 ≤ way ∧ way ≤ 2
    · rw [decide_eq_true q2] at hw
      obtain ⟨m1, e1, k1, l1, M1, s1⟩ := p_Md_takesLeft M
      obtain ⟨n, rfl⟩ := Int.eq_ofNat_of_zero_le q1.1
      have hl := q_Md_isLeft M1 l1.1 l1.2.1 (w := n) (by omega)
      refine ⟨m1, lfW d b n, ?_, k1, M1, ⟨fun z => ⟨q1, q2, z⟩, fun z => z.2.2⟩, fun _ => ⟨l1, s1⟩⟩
      rw [E_Md_canRun_0]
      simp (disch := omega) only [mK_0 H, okO_ov, gd_true, hs, bnd_some, l_0, bZ_0, reduceCtorEq, ↓reduceIte, hw, e1, hl, isB_bZ, mw_ov]
    · rw [decide_eq_false q2] at hw
      refine ⟨m, false, ?_, KM_r m, M, ⟨fun z => absurd z (by decide), fun z => absurd z.2.1 q2⟩, fun z => absurd z (by decide)⟩
      rw [E_Md_canRun_0]
      simp (disch := omega) only [E_Md_canRun_1, mK_0 H, okO_ov, gd_true, hs, bnd_some, l_0, bZ_0, reduceCtorEq, ↓reduceIte, hw, mw_ov]
      rfl
  · rw [decide_eq_false q1] at hs
    refine ⟨m, false, ?_, KM_r m, M, ⟨fun z => absurd z (by decide), fun z => absurd z.1 q1⟩, fun z => absurd z (by decide)⟩
    rw [E_Md_canRun_0]
    simp (disch := omega) only [E_Md_canRun_1, mK_0 H, okO_ov, gd_true, hs, bnd_some, l_0, bZ_0, ↓reduceIte, mw_ov]
    rfl
theorem m_runX {d : TD} {b : BD} {A : Nat → Nat} {σ : AM} {m : VM} (M : MS0 d b A σ m) {w way c : Int} (h1 : -2147483648 ≤ w) (h2 : w < 2147483648) (h3 : -2147483648 ≤ way) (h4 : way < 2147483648) (h5 : -2147483648 ≤ c) (h6 : c < 2147483648) : ∃ (m' : VM) (v : Int32) (r : Option Int32), M_Md_run (A 0) (iI w) (iI way) (iI c) (ov 40 A m σ) = some (v, (ov 40 A (m') σ)) ∧ KM m m' ∧ m'.1 0 0 = iI (if r.isSome = true then 0 else 1) ∧ (∀ y, r = some y → v = y) ∧ runX d b w way c r := by
  have H := M.1
  have hd := M.2.1
  have hW := hd.2.2.2.2.2.2
  have hwt := q_Md_within (a := c) (l := 0) (h := 2) (ov 40 A m σ) h5 h6 (by omega) (by omega) (by omega) (by omega)
  have bad : ∀ m1, KM m m1 → L_Md_run_2 (A 0) (iI w) (iI way) (iI c) (A 0) (iI 1) (ov 40 A m1 σ) = some (iI 0, (ov 40 A (sV m1 0 0 (iI 1)) σ)) := fun m1 _ => by
    rw [E_Md_run_2]
    simp (disch := omega) only [mK_0 H, okO_ov, gd_true, letT_eq, sI_ov H.1, aI_ov H.1, sV_eq, l_0, l_1, iI_lt, ↓reduceIte, Int.reduceLT]
  unfold M_Md_run
  by_cases q0 : 0 ≤ c ∧ c ≤ 2
  · rw [decide_eq_true q0] at hwt
    obtain ⟨m1, r1, e1, k1, M1, hr, hl⟩ := p_Md_canRun M h1 h2 h3 h4
    cases er : r1
    · subst er
      refine ⟨sV m1 0 0 (iI 1), iI 0, none, ?_, KM_t k1 (KM_V (KM_r _) _ (by decide)), by simp (disch := decide) only [sV_eq, sW_eq, sV_ne, sW_ne, sV_2, sW_1, Nat.reduceEqDiff, ↓reduceIte]; rfl, fun y hy => (by cases hy), Or.inr ⟨fun z => absurd (hr.mpr z.1) (by decide), rfl⟩⟩
      rw [E_Md_run_0]
      simp (disch := omega) only [E_Md_run_1, mK_0 H, okO_ov, gd_true, l_0, l_1, l_2, hwt, bnd_some, bZ_0, reduceCtorEq, ↓reduceIte, e1, bad m1 k1, mw_ov]
    · subst er
      obtain ⟨l1, s1⟩ := hl rfl
      obtain ⟨⟨w1, w2⟩, ⟨y1, y2⟩, hlw⟩ := hr.mp rfl
      obtain ⟨n, rfl⟩ := Int.eq_ofNat_of_zero_le w1
      obtain ⟨y, rfl⟩ := Int.eq_ofNat_of_zero_le y1
      have k0 : KM m1 (sV m1 0 0 (iI 0)) := KM_V (KM_r _) _ (by decide)
      have l0 : LeftM d b (sV m1 0 0 (iI 0)) := ⟨l1.1, l1.2.1, by simp (disch := decide) only [sV_eq, sW_eq, sV_ne, sW_ne, sV_2, sW_1, Nat.reduceEqDiff, ↓reduceIte]; exact l1.2.2.1, by simp (disch := decide) only [sV_eq, sW_eq, sV_ne, sW_ne, sV_2, sW_1, Nat.reduceEqDiff, ↓reduceIte]; exact l1.2.2.2.1, by rw [sV_ne _ _ _ _ (by decide)]; exact l1.2.2.2.2⟩
      have s0 : Seg ((sV m1 0 0 (iI 0)).1 26) 0 (lefts d b) := by rw [sV_ne _ _ _ _ (by decide)]; exact s1
      obtain ⟨m2, e2, k2, k, v1, v2, v3, v4, v5⟩ := p_Md_runs (MS0_K k0 M1) l0 s0 (lst d n) (way := y) (by omega)
      have e12 : m1.2 12 n = lst d n := M1.2.2.1.2.1 n (by omega)
      refine ⟨m2, if c = 0 then iI (k : Int) else if c = 1 then iI (rRang d y (lst d n) (lefts d b) k : Int) else rCost d y (lst d n) (lefts d b) k, some (if c = 0 then iI (k : Int) else if c = 1 then iI (rRang d y (lst d n) (lefts d b) k : Int) else rCost d y (lst d n) (lefts d b) k), ?_, KM_t k1 (KM_t k0 (OnR_KM k2)), ?_, fun z hz => by cases hz; rfl, Or.inl ⟨⟨hr.mp rfl, q0⟩, _, rfl, k, v1, rfl⟩⟩
      · have j3 : L_Md_run_2 (A 0) (iI (n : Int)) (iI (y : Int)) (iI c) (A 0) (iI 0) (ov 40 A m1 σ) = some (if c = 0 then iI (k : Int) else if c = 1 then iI (rRang d y (lst d n) (lefts d b) k : Int) else rCost d y (lst d n) (lefts d b) k, (ov 40 A m2 σ)) := by
          rw [E_Md_run_2]
          simp (disch := omega) only [E_Md_run_3, mK_0 H, mR_27 H, mK_12 H, mN_12 H, okO_ov, aR_ov, aN_ov, gd_true, gd_in, iI_cl, Int.toNat_natCast, letT_eq, sI_ov H.1, aI_ov H.1, aL_ov H.1, sV_eq, sV_2, e12, l_0, l_1, iI_lt, iI_eq, ↓reduceIte, Int.reduceLT, bnd_some, e2, v2, v3, v4]
          by_cases c0 : c = 0
          · rw [if_pos c0, if_pos c0]
          · rw [if_neg c0, if_neg c0]
            by_cases c1 : c = 1
            · rw [if_pos c1, if_pos c1]
            · rw [if_neg c1, if_neg c1]
        rw [E_Md_run_0]
        simp (disch := omega) only [mK_0 H, okO_ov, gd_true, l_0, l_1, l_2, hwt, bnd_some, bZ_0, reduceCtorEq, ↓reduceIte, e1, j3, mw_ov]
      · rw [k2.2.1 0 (by decide)]; simp (disch := decide) only [sV_eq, sW_eq, sV_ne, sW_ne, sV_2, sW_1, Nat.reduceEqDiff, ↓reduceIte]; rfl
  · rw [decide_eq_false q0] at hwt
    refine ⟨sV m 0 0 (iI 1), iI 0, none, ?_, KM_V (KM_r _) _ (by decide), by simp (disch := decide) only [sV_eq, sW_eq, sV_ne, sW_ne, sV_2, sW_1, Nat.reduceEqDiff, ↓reduceIte]; rfl, fun y hy => (by cases hy), Or.inr ⟨fun z => q0 z.2, rfl⟩⟩
    rw [E_Md_run_0]
    simp (disch := omega) only [E_Md_run_1, l_0, l_1, l_2, hwt, bnd_some, bZ_0, ↓reduceIte, bad m (KM_r m), mw_ov]
theorem m_runSet {d : TD} {b : BD} {A : Nat → Nat} {σ : AM} {m : VM} (M : MS0 d b A σ m) {w way c : Int} (h1 : -2147483648 ≤ w) (h2 : w < 2147483648) (h3 : -2147483648 ≤ way) (h4 : way < 2147483648) (h5 : -2147483648 ≤ c) (h6 : c < 2147483648) : ∃ r : Int, Mf A σ m (M_Md_runSet (A 0) (iI w) (iI way) (iI c) (ov 40 A m σ)) (iI r) ∧ ∀ r', rsetX d b w way c r' → r = r' := by
  have M0 := MS0_K (KM_0 m) M
  have H := M.1
  have hd := M.2.1
  have hW := hd.2.2.2.2.2.2
  unfold M_Md_runSet
  by_cases q0 : c < 0
  · refine ⟨-1, ⟨sV m 0 0 (iI 0), ?_, KM_0 m⟩, fun r' hr => ?_⟩
    · rw [E_Md_runSet_0]
      simp (disch := omega) only [E_Md_runSet_1, mK_0 H, okO_ov, gd_true, letT_eq, sI_ov H.1, l_0, l_1, iI_neg, iI_lt]
      rw [if_pos q0, mw_ov]
    · rcases hr with ⟨_, n, _, e⟩ | ⟨_, e⟩
      · rw [e, if_neg (by omega)]
      · exact e.symm
  · obtain ⟨m1, r1, e1, k1, M1, hr, hl⟩ := p_Md_canRun M0 h1 h2 h3 h4
    cases er : r1
    · subst er
      refine ⟨-1, ⟨m1, ?_, KM_t (KM_0 m) k1⟩, fun r' hr' => ?_⟩
      · rw [E_Md_runSet_0]
        simp (disch := omega) only [E_Md_runSet_1, mK_0 H, okO_ov, gd_true, letT_eq, sI_ov H.1, l_0, l_1, iI_neg, iI_lt, e1, bnd_some, bZ_0, ↓reduceIte]
        rw [if_neg q0, mw_ov]
      · rcases hr' with ⟨z, _⟩ | ⟨_, e⟩
        · exact absurd (hr.mpr z) (by decide)
        · exact e.symm
    · subst er
      obtain ⟨l1, s1⟩ := hl rfl
      have hcr := hr.mp rfl
      obtain ⟨⟨w1, w2⟩, ⟨y1, y2⟩, hlw⟩ := hr.mp rfl
      obtain ⟨n, rfl⟩ := Int.eq_ofNat_of_zero_le w1
      obtain ⟨y, rfl⟩ := Int.eq_ofNat_of_zero_le y1
      obtain ⟨i, rfl⟩ := Int.eq_ofNat_of_zero_le (show 0 ≤ c by omega)
      obtain ⟨m2, e2, k2, k, v1, v2, v3, v4, v5⟩ := p_Md_runs M1 l1 s1 (lst d n) (way := y) (by omega)
      have hk := v1.1
      have e12 : m1.2 12 n = lst d n := M1.2.2.1.2.1 n (by omega)
      refine ⟨if i < k then (rs d y (lst d n) (lefts d b) i : Int) else -1, ⟨m2, ?_, KM_t (KM_0 m) (KM_t k1 (OnR_KM k2))⟩, fun r' hr' => ?_⟩
      · by_cases z : i < k
        · have v5i := v5 i z
          rw [if_pos z, E_Md_runSet_0]
          simp (disch := omega) only [E_Md_runSet_1, E_Md_runSet_2, mK_0 H, mR_27 H, mK_12 H, mN_12 H, mR_54 H, mK_29 H, mN_29 H, okO_ov, aR_ov, aN_ov, gd_true, gd_in, iI_cl, Int.toNat_natCast, letT_eq, sI_ov H.1, aI_ov H.1, aL_ov H.1, l_0, l_1, iI_neg, iI_lt, e1, bnd_some, bZ_0, reduceCtorEq, ↓reduceIte, e12, e2, v2, v5i]
          rw [if_neg q0, if_pos (by omega), mw_ov]
        · rw [if_neg z, E_Md_runSet_0]
          simp (disch := omega) only [E_Md_runSet_1, E_Md_runSet_2, mK_0 H, mR_27 H, mK_12 H, mN_12 H, okO_ov, aR_ov, aN_ov, gd_true, gd_in, iI_cl, Int.toNat_natCast, letT_eq, sI_ov H.1, aI_ov H.1, aL_ov H.1, l_0, l_1, iI_neg, iI_lt, e1, bnd_some, bZ_0, reduceCtorEq, ↓reduceIte, e12, e2, v2]
          rw [if_neg q0, if_neg (by omega), mw_ov]
      · rcases hr' with ⟨_, n', hs, e⟩ | ⟨z, _⟩
        · have := isStop_u hs v1
          subst this
          rw [e]
          by_cases z : i < n'
          · rw [if_pos z, if_pos (by omega)]; rfl
          · rw [if_neg z, if_neg (by omega)]
        · exact absurd hcr z
