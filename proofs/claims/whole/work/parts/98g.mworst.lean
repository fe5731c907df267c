/-! ===== worst, mean: the reference ===== -/
theorem Md_ra2 {d : TD} {A : Nat → Nat} {σ : AM} (H : LM A σ) (hd : wfD d) {m : VM} (hT : MT d m) (rec : GT_Md_runsAll) {l : List Nat} (hl : wl d l) (h0 : 0 < l.length) {a : Nat} (ha : a + l.length ≤ 16384) (hs : Seg (m.1 26) a l) {dp W T : Nat} (hdp : dp ≤ 60) (hW : W ≤ 60) (h50 : m.1 0 50 = iI (W : Int)) (h51 : m.2 0 51 = jI (T : Int)) : ∃ m' : VM, L_Md_runsAll_2 rec (A 0) (iI ((a + l.length : Nat) : Int)) (iI (dp : Int)) (iI (a : Int)) (ov 40 A m σ) = some ((), (ov 40 A (m') σ)) ∧ OnR m m' ∧ m'.1 26 = m.1 26 ∧ m'.1 0 50 = iI ((max W dp : Nat) : Int) ∧ m'.2 0 51 = jI ((T + dp * sumL (sh d) l : Nat) : Int) := by
  have hW2 := hd.2.2.2.2.2.2
  have hNL := NL_le d
  refine up_loopI (fun k m1 => L_Md_runsAll_2 rec (A 0) (iI ((a + l.length : Nat) : Int)) (iI (dp : Int)) (iI ((a + k : Nat) : Int)) (ov 40 A m1 σ)) (fun k m1 => OnR m m1 ∧ m1.1 26 = m.1 26 ∧ m1.1 0 50 = iI ((if k = 0 then W else max W dp : Nat) : Int) ∧ m1.2 0 51 = jI ((T + dp * sumL (sh d) (l.take k) : Nat) : Int)) (fun X => ∃ m' : VM, X = some ((), (ov 40 A (m') σ)) ∧ OnR m m' ∧ m'.1 26 = m.1 26 ∧ m'.1 0 50 = iI ((max W dp : Nat) : Int) ∧ m'.2 0 51 = jI ((T + dp * sumL (sh d) l : Nat) : Int)) l.length (fun k m1 hk ⟨i1, i2, i3, i4⟩ ih => ?_) (fun m1 ⟨i1, i2, i3, i4⟩ => ?_) 0 m (Nat.zero_le _) ⟨OnR_r m, rfl, by rw [if_pos rfl]; exact h50, h51⟩
  · have hx := hl.2 _ (gd_mem hk)
    have hT1 := MT_K (OnR_KM i1) hT
    have h26 : m1.1 26 (a + k) = iI (l.getD k 0 : Int) := by rw [i2]; exact hs k hk
    have h15 : m1.1 15 (l.getD k 0) = iI (sh d (l.getD k 0) : Int) := hT1.2.2.2.2.1 _ hx
    have hsb := Nat.le_trans (sh_le d (l.getD k 0)) hW2
    have ih := ih (sW (sV m1 0 50 (iI ((max W dp : Nat) : Int))) 0 51 (jI ((T + dp * sumL (sh d) (l.take (k + 1)) : Nat) : Int))) ⟨OnR_W (OnR_V i1 _ (by decide) (by decide)) _, by rw [sW_1, sV_ne _ _ _ _ (by decide)]; exact i2, by rw [sW_1, sV_eq, if_pos rfl, if_neg (by omega)], by rw [sW_eq, if_pos rfl]⟩
    have ej : jI ((T + dp * sumL (sh d) (l.take k) : Nat) : Int) + (iI (dp : Int)).toInt64 * (iI (sh d (l.getD k 0) : Int)).toInt64 = jI ((T + dp * sumL (sh d) (l.take (k + 1)) : Nat) : Int) := by
      rw [iI_j (by omega) (by omega), iI_j (by omega) (by omega), jI_mul, jI_add, sumL_s _ hk, Nat.mul_add, ← Nat.add_assoc T]; rfl
    have b1 : (if k = 0 then W else max W dp) ≤ 60 := by split <;> omega
    have emx : (if (if k = 0 then W else max W dp) < dp then dp else (if k = 0 then W else max W dp)) = max W dp := by
      simp only [Nat.max_def]
      repeat (first | omega | split)
    show ∃ m' : VM, L_Md_runsAll_2 _ _ _ _ _ _ = _ ∧ _
    generalize hv : (if k = 0 then W else max W dp) = v at i3 b1 emx
    by_cases c : v < dp
    · rw [if_pos c] at emx
      rw [← emx] at ih ⊢
      rw [E_Md_runsAll_2]
      simp (disch := omega) only [E_Md_runsAll_3, mK_0 H, mR_31 H, mR_48 H, mK_15 H, mN_15 H, mK_26 H, mN_26 H, okO_ov, aR_ov, aN_ov, gd_true, gd_in, iI_cl, Int.toNat_natCast, letT_eq, sI_ov H.1, sL_ov H.1, aI_ov H.1, aL_ov H.1, sV_ne, sV_2, i3, h26, h15, i4, ej, l_1, iI_lt, iI_add, iI_s]
      rw [if_pos (by omega), if_pos (by omega)]
      exact ih
    · rw [if_neg c] at emx
      rw [← emx] at ih ⊢
      rw [E_Md_runsAll_2]
      simp (disch := omega) only [E_Md_runsAll_3, mK_0 H, mR_31 H, mR_48 H, mK_15 H, mN_15 H, mK_26 H, mN_26 H, okO_ov, aR_ov, aN_ov, gd_true, gd_in, iI_cl, Int.toNat_natCast, letT_eq, sI_ov H.1, sL_ov H.1, aI_ov H.1, aL_ov H.1, sV_ne, sV_2, i3, h26, h15, i4, ej, l_1, iI_lt, iI_add, iI_s]
      rw [if_pos (by omega), if_neg (by omega)]
      exact ih
  · rw [List.take_length] at i4
    rw [if_neg (by omega)] at i3
    refine ⟨m1, ?_, i1, i2, i3, i4⟩
    show L_Md_runsAll_2 _ _ _ _ _ _ = _
    rw [E_Md_runsAll_2]
    simp (disch := omega) only [iI_lt]
    rw [if_neg (by omega)]
theorem Q_Md_ra {d : TD} {A : Nat → Nat} {σ : AM} (H : LM A σ) (hd : wfD d) {way : Nat} (hw : way ≤ 2) : ∀ (n dp f : Nat), dp + n = 60 → n < f → ∀ (m : VM) (l : List Nat) (a W T : Nat), MT d m → wl d l → 0 < l.length → a + l.length ≤ 16384 → Seg (m.1 26) a l → W ≤ 60 → m.1 0 50 = iI (W : Int) → m.2 0 51 = jI (T : Int) → ∃ m' : VM, Q_Md_runsAll f (A 0) (iI (way : Int)) (iI (a : Int)) (iI ((a + l.length : Nat) : Int)) (iI (dp : Int)) (ov 40 A m σ) = some ((), (ov 40 A (m') σ)) ∧ OnR m m' ∧ (∀ j, (j < a ∨ a + l.length ≤ j) → m'.1 26 j = m.1 26 j) ∧ m'.1 0 50 = iI ((max W (trW d way (60 - dp) l) : Nat) : Int) ∧ m'.2 0 51 = jI ((T + trS d way (60 - dp) l : Nat) : Int) := by
  have hW2 := hd.2.2.2.2.2.2
  have hNL := NL_le d
  have hS := sN_le hd
  intro n
  induction n with
  | zero =>
    intro dp f hdp hf m l a W T hT hl h0 ha hs hW h50 h51
    obtain rfl : dp = 60 := hdp
    obtain ⟨f, rfl⟩ : ∃ g, f = g + 1 := ⟨f - 1, by omega⟩
    obtain ⟨m', e, k1, k2, k3, k4⟩ := Md_ra2 H hd hT (Q_Md_runsAll f) hl h0 ha hs (dp := 60) (Nat.le_refl _) hW h50 h51
    refine ⟨m', ?_, k1, fun j _ => by rw [k2], k3, k4⟩
    show mw _ (L_Md_runsAll_0 _ _ _ _ _ _ _) = _
    replace e : L_Md_runsAll_2 (Q_Md_runsAll f) (A 0) (iI ((a + l.length : Nat) : Int)) (iI 60) (iI (a : Int)) _ = _ := e
    rw [E_Md_runsAll_0]
    show mw _ (if _ then _ else if iI 60 = _ then _ else _) = _
    simp only [E_Md_runsAll_1, l_60, e, ↓reduceIte, ite_self, mw_ov]
    exact (congrArg (mw _) e).trans (mw_ov _ _ _ _ _ _)
  | succ n ih =>
    intro dp f hdp hf m l a W T hT hl h0 ha hs hW h50 h51
    obtain ⟨f, rfl⟩ : ∃ g, f = g + 1 := ⟨f - 1, by omega⟩
    have elen : ((a + l.length : Nat) : Int) - (a : Int) = (l.length : Int) := by omega
    by_cases c : 1 < l.length
    · obtain ⟨s, hs1, hs2, hs3⟩ := nx_ok hd way hl c
      have hcl := of_decide_eq_true hs3
      obtain ⟨m2, e2, k2⟩ := p_Md_nextOf H hd hT hl ha hs hw
      rw [hs1] at e2
      have hT2 := MT_K (OnN_KM k2) hT
      obtain ⟨m3, P, R, e3, k3, s1, s2, s3, s4, s5, s6⟩ := p_Md_divides H hd hT2 hl ha (by rw [k2.1 26 (by decide) (by decide)]; exact hs) (s := s) (by omega)
      have hT3 := MT_K (OnS_KM rfl k3) hT2
      have hP : P.length = cL d l s := by rw [s3.length_eq, ← List.countP_eq_length_filter]; rfl
      have hK := tr_knot (d := d) (way := way) (dp := dp) (by omega) c hs1 s4 s3
      have g50 : m3.1 0 50 = iI (W : Int) := by rw [k3.1 0 (by decide), k2.1 0 (by decide) (by decide)]; exact h50
      have g51 : m3.2 0 51 = jI (T : Int) := by rw [k3.2, k2.2]; exact h51
      obtain ⟨m4, e4, q1, q2, q3, q4⟩ := ih (dp + 1) f (by omega) (by omega) m3 P a W T hT3 (wl_perm s3.symm (wl_flt _ hl)) (by omega) (by omega) s1 hW g50 g51
      have hT4 := MT_K (OnR_KM q1) hT3
      have hs4 : Seg (m4.1 26) (a + P.length) R := Seg_congr (fun j h1 h2 => q2 j (Or.inr h1)) s2
      obtain ⟨m5, e5, r1, r2, r3, r4⟩ := ih (dp + 1) f (by omega) (by omega) m4 R (a + P.length) _ _ hT4 (wl_perm s4.symm (wl_flt _ hl)) (by omega) (by omega) hs4 (Nat.max_le.mpr ⟨hW, trW_le d way _ _⟩) q3 q4
      rw [show a + P.length + R.length = a + l.length by omega] at e5 r2
      refine ⟨m5, ?_, OnR_t (OnR_t (OnN_R k2) (OnS_R k3)) (OnR_t q1 r1), fun j hj => ?_, ?_, ?_⟩
      · show mw _ (L_Md_runsAll_0 _ _ _ _ _ _ _) = _
        rw [E_Md_runsAll_0]
        simp (disch := omega) only [iI_sub, elen, iI_eq, l_1, l_60, mK_0 H, okO_ov, gd_true, bnd_some, e2, e3, iI_add, iI_s, e4, e5]
        rw [if_neg (by omega), if_neg (by omega), mw_ov]
      · rw [r2 j (by omega), q2 j (by omega), s6 j hj, k2.1 26 (by decide) (by decide)]
      · rw [r3, hK.1]
        congr 2
        simp only [Nat.max_def]
        repeat (first | omega | split)
      · rw [r4, hK.2]
        congr 2
        omega
    · have e1 : l.length = 1 := by omega
      have hlf := tr_leaf d way (dp := dp) (by omega) (l := l) (fun z => c z.1)
      obtain ⟨m', e, k1, k2, k3, k4⟩ := Md_ra2 H hd hT (Q_Md_runsAll f) hl h0 ha hs (dp := dp) (by omega) hW h50 h51
      refine ⟨m', ?_, k1, fun j _ => by rw [k2], by rw [hlf.1]; exact k3, by rw [hlf.2]; exact k4⟩
      show mw _ (L_Md_runsAll_0 _ _ _ _ _ _ _) = _
      rw [E_Md_runsAll_0]
      simp (disch := omega) only [E_Md_runsAll_1, iI_sub, elen, iI_eq, l_1, e]
      rw [if_pos (by omega), mw_ov]
theorem p_Md_findRuns {d : TD} {b : BD} {A : Nat → Nat} {σ : AM} {m : VM} (M : MS0 d b A σ m) {a : Int} (h1 : -2147483648 ≤ a) (h2 : a < 2147483648) : ∃ (m' : VM) (r : Bool), M_Md_findRuns (A 0) (iI a) (ov 40 A m σ) = some (bZ r, (ov 40 A (m') σ)) ∧ KM m m' ∧ (r = true ↔ (0 ≤ a ∧ a ≤ 2) ∧ nLf d b ≠ 0) ∧ (r = true → m'.1 0 50 = iI (trW d a.toNat 60 (lefts d b) : Int) ∧ m'.2 0 51 = jI (trS d a.toNat 60 (lefts d b) : Int) ∧ m'.1 0 47 = iI (wLf d b : Int)) := by
  have H := M.1
  have hd := M.2.1
  have hw := q_Md_isWay (ov 40 A m σ) h1 h2
  unfold M_Md_findRuns
  by_cases q : 0 ≤ a ∧ a ≤ 2
  · rw [decide_eq_true q] at hw
    obtain ⟨m1, e1, k1, l1, M1, s1⟩ := p_Md_takesLeft M
    have h5 := Lf_5 M1 l1
    obtain ⟨y, rfl⟩ := Int.eq_ofNat_of_zero_le q.1
    have kk : KM m1 (sW (sV m1 0 50 (iI 0)) 0 51 0) := KM_W (KM_V (KM_r _) _ (by decide)) _ _ (by decide)
    have e46 : (sW (sV m1 0 50 (iI 0)) 0 51 0).1 0 46 = iI (nLf d b : Int) := by simp (disch := decide) only [sV_eq, sW_eq, sV_ne, sW_ne, sV_2, sW_1, Nat.reduceEqDiff, ↓reduceIte]; exact h5.1
    by_cases c : nLf d b = 0
    · refine ⟨sW (sV m1 0 50 (iI 0)) 0 51 0, false, ?_, KM_t k1 kk, ⟨fun z => absurd z (by decide), fun z => absurd c z.2⟩, fun z => absurd z (by decide)⟩
      rw [E_Md_findRuns_0]
      simp (disch := omega) only [E_Md_findRuns_1, E_Md_findRuns_2, hw, bnd_some, l_0, l_1, bZ_0, reduceCtorEq, ↓reduceIte, mK_0 H, okO_ov, gd_true, e1, letT_eq, sI_ov H.1, sL_ov H.1, aI_ov H.1, e46, iI_lt, isB_0, isB_1]
      rw [if_neg (by omega), if_neg (by omega), mw_ov]
      rfl
    · obtain ⟨m2, e2, q1, q2, q3, q4⟩ := Q_Md_ra H hd (way := y) (by omega) 60 0 80 rfl (by decide) (sW (sV m1 0 50 (iI 0)) 0 51 0) (lefts d b) 0 0 0 (MT_K kk M1.2.2.1) (wl_lefts d b) (by show 0 < nLf d b; omega) (by show 0 + nLf d b ≤ _; omega) (by rw [sW_1, sV_ne _ _ _ _ (by decide)]; exact s1) (by omega) (by simp (disch := decide) only [sV_eq, sW_eq, sV_ne, sW_ne, sV_2, sW_1, Nat.reduceEqDiff, ↓reduceIte]; rfl) (by simp (disch := decide) only [sV_eq, sW_eq, sV_ne, sW_ne, sV_2, sW_1, Nat.reduceEqDiff, ↓reduceIte]; rfl)
      rw [show 0 + (lefts d b).length = nLf d b from Nat.zero_add _] at e2
      replace e2 : M_Md_runsAll (A 0) (iI (y : Int)) (iI 0) (iI (nLf d b : Int)) (iI 0) _ = _ := e2
      have f46 : m2.1 0 46 = iI (nLf d b : Int) := by rw [q1.2.1 46 (by decide)]; exact e46
      refine ⟨m2, true, ?_, KM_t k1 (KM_t kk (OnR_KM q1)), ⟨fun _ => ⟨q, c⟩, fun _ => rfl⟩, fun _ => ⟨?_, ?_, ?_⟩⟩
      · rw [E_Md_findRuns_0]
        simp (disch := omega) only [E_Md_findRuns_1, E_Md_findRuns_2, hw, bnd_some, l_0, l_1, bZ_0, reduceCtorEq, ↓reduceIte, mK_0 H, okO_ov, gd_true, e1, letT_eq, sI_ov H.1, sL_ov H.1, aI_ov H.1, e46, iI_lt, isB_0, isB_1, e2, f46]
        rw [if_pos (by omega), if_pos (by omega), mw_ov]
        rfl
      · rw [q3, Nat.zero_max]; rfl
      · rw [q4, Nat.zero_add]; rfl
      · rw [q1.2.1 47 (by decide)]; simp (disch := decide) only [sV_eq, sW_eq, sV_ne, sW_ne, sV_2, sW_1, Nat.reduceEqDiff, ↓reduceIte]; exact l1.2.2.2.1
  · rw [decide_eq_false q] at hw
    refine ⟨m, false, ?_, KM_r m, ⟨fun z => absurd z (by decide), fun z => absurd z.1 q⟩, fun z => absurd z (by decide)⟩
    rw [E_Md_findRuns_0]
    simp (disch := omega) only [hw, bnd_some, l_0, bZ_0, ↓reduceIte, mw_ov]
    rfl
theorem m_worst {d : TD} {b : BD} {A : Nat → Nat} {σ : AM} {m : VM} (M : MS0 d b A σ m) {a : Int} (h1 : -2147483648 ≤ a) (h2 : a < 2147483648) : Mf A σ m (M_Md_worst (A 0) (iI a) (ov 40 A m σ)) (iI (worstS d b a)) := by
  have M0 := MS0_K (KM_0 m) M
  have H := M.1
  obtain ⟨m1, r, e1, k1, hr, hv⟩ := p_Md_findRuns M0 h1 h2
  refine ⟨m1, ?_, KM_t (KM_0 m) k1⟩
  unfold M_Md_worst worstS
  cases er : r
  · subst er
    rw [if_neg (fun z => absurd (hr.mpr z) (by decide)), E_Md_worst_0]
    simp (disch := omega) only [E_Md_worst_1, mK_0 H, okO_ov, gd_true, letT_eq, sI_ov H.1, l_0, l_1, iI_neg, e1, bnd_some, bZ_0, ↓reduceIte, mw_ov]
  · subst er
    rw [if_pos (hr.mp rfl), E_Md_worst_0]
    simp (disch := omega) only [E_Md_worst_1, mK_0 H, okO_ov, gd_true, letT_eq, sI_ov H.1, l_0, l_1, iI_neg, e1, bnd_some, bZ_0, reduceCtorEq, ↓reduceIte, aI_ov H.1, (hv rfl).1, mw_ov]
theorem m_mean {d : TD} {b : BD} {A : Nat → Nat} {σ : AM} {m : VM} (M : MS0 d b A σ m) {a c : Int} (h1 : -2147483648 ≤ a) (h2 : a < 2147483648) (h3 : -2147483648 ≤ c) (h4 : c < 2147483648) : Mf A σ m (M_Md_mean (A 0) (iI a) (iI c) (ov 40 A m σ)) (iI (meanS d b a c)) := by
  have M0 := MS0_K (KM_0 m) M
  have H := M.1
  have hd := M.2.1
  have hW := hd.2.2.2.2.2.2
  have hq := q_Md_isWhat (a := c) (ov 40 A (sV m 0 0 (iI 0)) σ) h3 h4
  unfold M_Md_mean meanS
  by_cases q : 0 ≤ c ∧ c ≤ 1
  · rw [decide_eq_true q] at hq
    obtain ⟨m1, r, e1, k1, hr, hv⟩ := p_Md_findRuns M0 h1 h2
    refine ⟨m1, ?_, KM_t (KM_0 m) k1⟩
    cases er : r
    · subst er
      rw [if_neg (fun z => absurd (hr.mpr ⟨z.1, z.2.2⟩) (by decide)), E_Md_mean_0]
      simp (disch := omega) only [E_Md_mean_1, E_Md_mean_2, mK_0 H, okO_ov, gd_true, letT_eq, sI_ov H.1, l_0, l_1, iI_neg, hq, e1, bnd_some, bZ_0, reduceCtorEq, ↓reduceIte, mw_ov]
    · subst er
      obtain ⟨v1, v2, v3⟩ := hv rfl
      obtain ⟨z1, z2⟩ := hr.mp rfl
      obtain ⟨y, rfl⟩ := Int.eq_ofNat_of_zero_le z1.1
      obtain ⟨x, rfl⟩ := Int.eq_ofNat_of_zero_le q.1
      have b1 := trS_le d y 60 (lefts d b)
      have b2 := wl_sh hd (wl_lefts d b)
      have b3 := wLf_le d b
      have b4 : 0 < wLf d b := Nat.pos_of_ne_zero fun z => z2 ((wLf_0 d b).mp z)
      have j2 := q_Md_lowest (x := trS d y 60 (lefts d b)) (y := wLf d b) (what := x) (by omega) (by omega) b4 (by omega) (ov 40 A m1 σ)
      have ej : (iI (wLf d b : Int)).toInt64 = jI (wLf d b : Int) := iI_j (by omega) (by omega)
      rw [Int.toNat_natCast] at v2
      rw [if_pos ⟨z1, q, z2⟩, E_Md_mean_0]
      simp (disch := omega) only [E_Md_mean_1, E_Md_mean_2, mK_0 H, okO_ov, gd_true, letT_eq, sI_ov H.1, l_0, l_1, iI_neg, hq, e1, bnd_some, bZ_0, reduceCtorEq, ↓reduceIte, aI_ov H.1, aL_ov H.1, v2, v3, ej, j2, mw_ov, Int.toNat_natCast]
  · rw [decide_eq_false q] at hq
    refine ⟨sV m 0 0 (iI 0), ?_, KM_0 m⟩
    rw [if_neg (fun z => q z.2.1), E_Md_mean_0]
    simp (disch := omega) only [E_Md_mean_1, E_Md_mean_2, mK_0 H, okO_ov, gd_true, letT_eq, sI_ov H.1, l_0, l_1, iI_neg, hq, bnd_some, bZ_0, ↓reduceIte, mw_ov]
