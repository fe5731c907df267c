/-! ===== the reference tells a tower ===== -/
def OnZ (m m' : VM) : Prop := (∀ c, c ∉ [0, 10, 11, 13, 15, 16, 17, 18, 19, 20] → m'.1 c = m.1 c) ∧ (∀ j, j ≠ 26 → j ≠ 29 → m'.1 0 j = m.1 0 j) ∧ (∀ c, c ∉ [12, 14] → m'.2 c = m.2 c)
theorem OnZ_t {a b c : VM} (h : OnZ a b) (k : OnZ b c) : OnZ a c := ⟨fun i hi => (k.1 i hi).trans (h.1 i hi), fun i h1 h2 => (k.2.1 i h1 h2).trans (h.2.1 i h1 h2), fun i hi => (k.2.2 i hi).trans (h.2.2 i hi)⟩
theorem OnZ_r (m : VM) : OnZ m m := ⟨fun _ _ => rfl, fun _ _ _ => rfl, fun _ _ => rfl⟩
theorem OnZ_Y {m m' : VM} (h : OnY m m') : OnZ m m' := ⟨fun i hi => h.1 i (fun z => hi (by
  simp only [List.mem_cons, List.not_mem_nil, or_false] at z ⊢
  omega)), fun j _ h2 => h.2.1 j h2, h.2.2⟩
theorem OnZ_0 (m : VM) {j : Nat} (v : Int32) (hj : j = 26 ∨ j = 29) : OnZ m (sV m 0 j v) := ⟨fun i hi => by rw [sV_ne _ _ _ _ (fun z => hi (by rw [z]; decide))], fun i h1 h2 => by rw [sV_eq, if_neg (by omega)], fun _ _ => rfl⟩
theorem OnZ_20 (m : VM) (j : Nat) (v : Int32) : OnZ m (sV m 20 j v) := ⟨fun i hi => by rw [sV_ne _ _ _ _ (fun z => hi (by rw [z]; decide))], fun i h1 h2 => by rw [sV_ne _ _ _ _ (by decide)], fun _ _ => rfl⟩
theorem OnZ_17 (m : VM) (j : Nat) (v : Int32) : OnZ m (sV m 17 j v) := ⟨fun i hi => by rw [sV_ne _ _ _ _ (fun z => hi (by rw [z]; decide))], fun i h1 h2 => by rw [sV_ne _ _ _ _ (by decide)], fun _ _ => rfl⟩
theorem TCx_Z {x : XS} {m m' : VM} (h : OnZ m m') (k : TCx x m) : TCx x m' := TCx_e (h.1 6 (by decide)) (h.1 8 (by decide)) (h.1 9 (by decide)) k
theorem p_laysAll {t : PD} {x : XS} {A : Nat → Nat} {σ : AM} (H : LM A σ) (hx : xOk t x) (hf : fOk x) (hp : (mxS x + 1) ^ (xsN x).length ≤ 16384) {m : VM} (hC : TCx x m) (h10 : m.1 0 10 = iI ((xsN x).length : Int)) (h11 : m.1 0 11 = iI (mxS x : Int)) (h12 : m.1 0 12 = iI ((xsB x).getD 10 : Int)) (h13 : m.1 0 13 = iI ((xsA x).length : Int)) : ∃ m' : VM, M_Md_laysAll (A 0) (ov 40 A m σ) = some ((), (ov 40 A (m') σ)) ∧ OnZ m m' ∧ MT (twD x) m' := by
  have hd := wf_tw hx hp
  have hn6 := hx.2.1.1
  have hW : dW (twD x) ≤ 16384 := hd.2.2.2.2.2.2
  have l0 : ∀ k : Nat, iI (k : Int) + (1 : Int32) = iI ((k + 1 : Nat) : Int) := fun k => by rw [l_1, iI_add, iI_s]
  -- how many weights
  have s1 : ∃ m1 : VM, L_Md_laysAll_1 (A 0) (iI ((0 : Nat) : Int)) (ov 40 A (sV m 0 26 (iI 1)) σ) = L_Md_laysAll_2 (A 0) (iI 0) (ov 40 A (sV m1 0 29 (iI 0)) σ) ∧ OnZ m m1 ∧ m1.1 0 26 = iI (dW (twD x) : Int) := by
    refine up_loopI (fun k mm => L_Md_laysAll_1 (A 0) (iI (k : Int)) (ov 40 A mm σ)) (fun k mm => OnZ m mm ∧ mm.1 0 26 = iI (((mxS x + 1) ^ k : Nat) : Int)) (fun X => ∃ m1 : VM, X = L_Md_laysAll_2 (A 0) (iI 0) (ov 40 A (sV m1 0 29 (iI 0)) σ) ∧ OnZ m m1 ∧ m1.1 0 26 = iI (dW (twD x) : Int)) (xsN x).length (fun k mm hk ⟨i1, i2⟩ ih => ?_) (fun mm ⟨i1, i2⟩ => ?_) 0 _ (Nat.zero_le _) ⟨OnZ_0 m _ (Or.inl rfl), by simp (disch := decide) only [sV_eq, sW_eq, sV_ne, sW_ne, sV_2, sW_1, Nat.reduceEqDiff, ↓reduceIte]; rfl⟩
    · have e10 : mm.1 0 10 = iI ((xsN x).length : Int) := (i1.2.1 10 (by decide) (by decide)).trans h10
      have e11 : mm.1 0 11 = iI (mxS x : Int) := (i1.2.1 11 (by decide) (by decide)).trans h11
      have c1 : iI (k : Int) < iI ((xsN x).length : Int) := by rw [iI_lt (by omega) (by omega) (by omega) (by omega)]; omega
      show ∃ m1 : VM, L_Md_laysAll_1 _ _ _ = _ ∧ _
      have em : iI (((mxS x + 1) ^ k : Nat) : Int) * iI ((mxS x + 1 : Nat) : Int) = iI (((mxS x + 1) ^ (k + 1) : Nat) : Int) := by rw [iI_mul, Nat.pow_succ]; congr 1
      have step : L_Md_laysAll_1 (A 0) (iI (k : Int)) (ov 40 A mm σ) = L_Md_laysAll_1 (A 0) (iI ((k + 1 : Nat) : Int)) (ov 40 A (sV mm 0 26 (iI (((mxS x + 1) ^ (k + 1) : Nat) : Int))) σ) := by
        rw [E_Md_laysAll_1, okO_ov, mK_0 H, gd_true, aI_ov H.1 _ _ (by omega), e10, if_pos c1, aI_ov H.1 _ _ (by omega), i2, aI_ov H.1 _ _ (by omega), e11, l0, em, sI_ov H.1 _ _ (by omega), letT_eq, l0]
      rw [step]
      exact ih _ ⟨OnZ_t i1 (OnZ_0 _ _ (Or.inl rfl)), by simp (disch := decide) only [sV_eq, sW_eq, sV_ne, sW_ne, sV_2, sW_1, Nat.reduceEqDiff, ↓reduceIte]⟩
    · have e10 : mm.1 0 10 = iI ((xsN x).length : Int) := (i1.2.1 10 (by decide) (by decide)).trans h10
      have c1 : ¬ iI ((xsN x).length : Int) < iI ((xsN x).length : Int) := by rw [iI_lt (by omega) (by omega) (by omega) (by omega)]; omega
      refine ⟨mm, ?_, i1, i2⟩
      show L_Md_laysAll_1 _ _ _ = _
      rw [E_Md_laysAll_1, okO_ov, mK_0 H, gd_true, aI_ov H.1 _ _ (by omega), e10, if_neg c1, l_0, sI_ov H.1 _ _ (by omega), letT_eq]
  obtain ⟨m1, e1, o1, f26⟩ := s1
  replace e1 : L_Md_laysAll_1 (A 0) (iI 0) _ = _ := e1
  -- no slot is taken
  have s2 : ∃ m2 : VM, L_Md_laysAll_2 (A 0) (iI ((0 : Nat) : Int)) (ov 40 A (sV m1 0 29 (iI 0)) σ) = L_Md_laysAll_3 (A 0) (iI 0) (ov 40 A m2 σ) ∧ OnZ m m2 ∧ m2.1 0 26 = iI (dW (twD x) : Int) ∧ m2.1 0 29 = iI 0 ∧ ∀ j, j < 32768 → m2.1 17 j = iI (-1) := by
    refine up_loopI (fun k mm => L_Md_laysAll_2 (A 0) (iI (k : Int)) (ov 40 A mm σ)) (fun k mm => OnZ m mm ∧ mm.1 0 26 = iI (dW (twD x) : Int) ∧ mm.1 0 29 = iI 0 ∧ ∀ j, j < k → mm.1 17 j = iI (-1)) (fun X => ∃ m2 : VM, X = L_Md_laysAll_3 (A 0) (iI 0) (ov 40 A m2 σ) ∧ OnZ m m2 ∧ m2.1 0 26 = iI (dW (twD x) : Int) ∧ m2.1 0 29 = iI 0 ∧ ∀ j, j < 32768 → m2.1 17 j = iI (-1)) 32768 (fun k mm hk ⟨i1, i2, i3, i4⟩ ih => ?_) (fun mm ⟨i1, i2, i3, i4⟩ => ?_) 0 _ (Nat.zero_le _) ⟨OnZ_t o1 (OnZ_0 _ _ (Or.inr rfl)), by simp (disch := decide) only [sV_eq, sW_eq, sV_ne, sW_ne, sV_2, sW_1, Nat.reduceEqDiff, ↓reduceIte]; exact f26, by simp (disch := decide) only [sV_eq, sW_eq, sV_ne, sW_ne, sV_2, sW_1, Nat.reduceEqDiff, ↓reduceIte], fun j hj => absurd hj (Nat.not_lt_zero j)⟩
    · have c1 : iI (k : Int) < (32768 : Int32) := by rw [l_32768, iI_lt (by omega) (by omega) (by omega) (by omega)]; omega
      have ln : ((-1) : Int32) = iI (-1) := by decide
      show ∃ m2 : VM, L_Md_laysAll_2 _ _ _ = _ ∧ _
      have step : L_Md_laysAll_2 (A 0) (iI (k : Int)) (ov 40 A mm σ) = L_Md_laysAll_2 (A 0) (iI ((k + 1 : Nat) : Int)) (ov 40 A (sV mm 17 k (iI (-1))) σ) := by
        rw [E_Md_laysAll_2, if_pos c1, okO_ov, aR_ov, aN_ov, mK_0 H, gd_true, mR_33 H, mK_17 H, gd_true, mN_17 H, gd_in (by omega) (by omega) (by omega), iI_cl (by omega) (by omega), Int.toNat_natCast, ln, sI_ov H.1 _ _ (by omega), letT_eq, l0]
      rw [step]
      refine ih _ ⟨OnZ_t i1 (OnZ_17 _ _ _), by simp (disch := decide) only [sV_eq, sW_eq, sV_ne, sW_ne, sV_2, sW_1, Nat.reduceEqDiff, ↓reduceIte]; exact i2, by simp (disch := decide) only [sV_eq, sW_eq, sV_ne, sW_ne, sV_2, sW_1, Nat.reduceEqDiff, ↓reduceIte]; exact i3, fun j hj => ?_⟩
      rw [sV_eq]
      by_cases e : j = k
      · rw [if_pos e]
      · rw [if_neg e]; exact i4 j (by omega)
    · have c1 : ¬ iI ((32768 : Nat) : Int) < (32768 : Int32) := by rw [l_32768, iI_lt (by omega) (by omega) (by omega) (by omega)]; omega
      refine ⟨mm, ?_, i1, i2, i3, i4⟩
      show L_Md_laysAll_2 _ _ _ = _
      rw [E_Md_laysAll_2, if_neg c1, l_0]
  obtain ⟨m2, e2, o2, g26, g29, g17⟩ := s2
  replace e2 : L_Md_laysAll_2 (A 0) (iI 0) _ = _ := e2
  -- all weights
  have s3 : ∃ m3 : VM, L_Md_laysAll_3 (A 0) (iI ((0 : Nat) : Int)) (ov 40 A m2 σ) = L_Md_laysAll_5 (A 0) (iI 0) (ov 40 A m3 σ) ∧ OnY m2 m3 ∧ LyI x (dW (twD x)) m3 := by
    refine up_loopI (fun k mm => L_Md_laysAll_3 (A 0) (iI (k : Int)) (ov 40 A mm σ)) (fun k mm => OnY m2 mm ∧ LyI x k mm) (fun X => ∃ m3 : VM, X = L_Md_laysAll_5 (A 0) (iI 0) (ov 40 A m3 σ) ∧ OnY m2 m3 ∧ LyI x (dW (twD x)) m3) (dW (twD x)) (fun k mm hk ⟨i1, i2⟩ ih => ?_) (fun mm ⟨i1, i2⟩ => ?_) 0 _ (Nat.zero_le _) ⟨OnY_r _, fun v hv => absurd hv (Nat.not_lt_zero v), fun v hv => absurd hv (Nat.not_lt_zero v), g29, fun k hk => absurd hk (Nat.not_lt_zero k), fun k hk => absurd hk (Nat.not_lt_zero k), HT_0 _ _ g17⟩
    · have oz := OnZ_t o2 (OnZ_Y i1)
      have e26 : mm.1 0 26 = iI (dW (twD x) : Int) := (i1.2.1 26 (by decide)).trans g26
      obtain ⟨m', e, o, i⟩ := ly_step H hx hf hp (TCx_Z oz hC) ((oz.2.1 10 (by decide) (by decide)).trans h10) ((oz.2.1 11 (by decide) (by decide)).trans h11) ((oz.2.1 12 (by decide) (by decide)).trans h12) ((oz.2.1 13 (by decide) (by decide)).trans h13) e26 hk i2
      show ∃ m3 : VM, L_Md_laysAll_3 _ _ _ = _ ∧ _
      rw [e]
      exact ih m' ⟨OnY_t i1 o, i⟩
    · have e26 : mm.1 0 26 = iI (dW (twD x) : Int) := (i1.2.1 26 (by decide)).trans g26
      have c1 : ¬ iI (dW (twD x) : Int) < iI (dW (twD x) : Int) := by rw [iI_lt (by omega) (by omega) (by omega) (by omega)]; omega
      refine ⟨mm, ?_, i1, i2⟩
      show L_Md_laysAll_3 _ _ _ = _
      rw [E_Md_laysAll_3, okO_ov, mK_0 H, gd_true, aI_ov H.1 _ _ (by omega), e26, if_neg c1, l_0]
  obtain ⟨m3, e3, o3, ly⟩ := s3
  replace e3 : L_Md_laysAll_3 (A 0) (iI 0) _ = _ := e3
  have oz3 := OnZ_t o2 (OnZ_Y o3)
  have hsN := sN_le hd
  -- costs
  have s4 : ∃ m4 : VM, L_Md_laysAll_5 (A 0) (iI ((0 : Nat) : Int)) (ov 40 A m3 σ) = some ((), (ov 40 A m4 σ)) ∧ (∀ c, c ∉ [10, 11, 20] → m4.1 c = m3.1 c) ∧ m4.2 = m3.2 ∧ ∀ s, s < sN (twD x) → m4.1 20 s = coX x s := by
    refine up_loopI (fun k mm => L_Md_laysAll_5 (A 0) (iI (k : Int)) (ov 40 A mm σ)) (fun k mm => (∀ c, c ∉ [10, 11, 20] → mm.1 c = m3.1 c) ∧ mm.2 = m3.2 ∧ ∀ s, s < k → mm.1 20 s = coX x s) (fun X => ∃ m4 : VM, X = some ((), (ov 40 A m4 σ)) ∧ (∀ c, c ∉ [10, 11, 20] → m4.1 c = m3.1 c) ∧ m4.2 = m3.2 ∧ ∀ s, s < sN (twD x) → m4.1 20 s = coX x s) (sN (twD x)) (fun k mm hk ⟨i1, i2, i3⟩ ih => ?_) (fun mm ⟨i1, i2, i3⟩ => ?_) 0 _ (Nat.zero_le _) ⟨fun _ _ => rfl, rfl, fun s hs => absurd hs (Nat.not_lt_zero s)⟩
    · have e10 : mm.1 0 10 = iI ((xsN x).length : Int) := by rw [i1 0 (by decide)]; exact (oz3.2.1 10 (by decide) (by decide)).trans h10
      have r0 := q_Md_setsG H hn6 e10
      replace r0 : M_Md_sets (A 0) (ov 40 A mm σ) = some (iI (sN (twD x) : Int), (ov 40 A mm σ)) := r0
      obtain ⟨m', e, o⟩ := p_costOf H hx hf (m := mm) (TCx_e (i1 6 (by decide)) (i1 8 (by decide)) (i1 9 (by decide)) (TCx_Z oz3 hC)) e10 (s := k) hk
      have c1 : iI (k : Int) < iI (sN (twD x) : Int) := by rw [iI_lt (by omega) (by omega) (by omega) (by omega)]; omega
      show ∃ m4 : VM, L_Md_laysAll_5 _ _ _ = _ ∧ _
      have step : L_Md_laysAll_5 (A 0) (iI (k : Int)) (ov 40 A mm σ) = L_Md_laysAll_5 (A 0) (iI ((k + 1 : Nat) : Int)) (ov 40 A (sV m' 20 k (coX x k)) σ) := by
        rw [E_Md_laysAll_5, okO_ov, mK_0 H, gd_true, r0, bnd_some, if_pos c1, okO_ov, aR_ov, mK_0 H, gd_true, mR_36 H, mK_20 H, gd_true, e, bnd_some, okO_ov, mK_20 H, gd_true, aN_ov, mN_20 H, gd_in (by omega) (by omega) (by omega), iI_cl (by omega) (by omega), Int.toNat_natCast, sI_ov H.1 _ _ (by omega), letT_eq, l0]
      rw [step]
      refine ih _ ⟨fun c hc => ?_, by rw [sV_2, o.2]; exact i2, fun s hs => ?_⟩
      · rw [sV_ne _ _ _ _ (fun z => hc (by rw [z]; decide)), o.1 c (fun z => hc (by rw [z]; decide)) (fun z => hc (by rw [z]; decide))]; exact i1 c hc
      · rw [sV_eq]
        by_cases e : s = k
        · rw [if_pos e, e]
        · rw [if_neg e, o.1 20 (by decide) (by decide)]; exact i3 s (by omega)
    · have e10 : mm.1 0 10 = iI ((xsN x).length : Int) := by rw [i1 0 (by decide)]; exact (oz3.2.1 10 (by decide) (by decide)).trans h10
      have r0 := q_Md_setsG H hn6 e10
      replace r0 : M_Md_sets (A 0) (ov 40 A mm σ) = some (iI (sN (twD x) : Int), (ov 40 A mm σ)) := r0
      have c1 : ¬ iI (sN (twD x) : Int) < iI (sN (twD x) : Int) := by rw [iI_lt (by omega) (by omega) (by omega) (by omega)]; omega
      refine ⟨mm, ?_, i1, i2, i3⟩
      show L_Md_laysAll_5 _ _ _ = _
      rw [E_Md_laysAll_5, okO_ov, mK_0 H, gd_true, r0, bnd_some, if_neg c1]
  obtain ⟨m4, e4, p1, p2, p3⟩ := s4
  replace e4 : L_Md_laysAll_5 (A 0) (iI 0) _ = _ := e4
  have oz4 : OnZ m m4 := OnZ_t oz3 ⟨fun c hc => p1 c (fun z => hc (by
    simp only [List.mem_cons, List.not_mem_nil, or_false] at z ⊢
    omega)), fun j _ _ => by rw [p1 0 (by decide)], fun c _ => by rw [p2]⟩
  refine ⟨m4, ?_, oz4, ?_⟩
  · unfold M_Md_laysAll
    rw [E_Md_laysAll_0, okO_ov, mK_0 H, gd_true, l_1, sI_ov H.1 _ _ (by omega), letT_eq, l_0, e1, e2, e3, e4, mw_ov]
  · obtain ⟨y1, y2, y3, y4, y5, y6⟩ := ly
    refine ⟨⟨(oz4.2.1 10 (by decide) (by decide)).trans h10, (oz4.2.1 11 (by decide) (by decide)).trans h11, (oz4.2.1 12 (by decide) (by decide)).trans h12, (oz4.2.1 13 (by decide) (by decide)).trans h13, ?_, ?_⟩, ?_, ?_, ?_, ?_, p3⟩
    · rw [p1 0 (by decide), o3.2.1 26 (by decide)]; exact g26
    · rw [p1 0 (by decide)]; exact y3
    · rw [p2]; exact y1
    · rw [p1 13 (by decide)]; exact y2
    · rw [p2]; exact y4
    · rw [p1 15 (by decide)]; exact y5
