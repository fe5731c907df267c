/-! ===== the class builds all lists ===== -/
theorem qt_all {A : Nat → Nat} {σ : AM} (H : LC A σ) {m : VM} {d : TD} (hd : wfD d) (h7 : m.1 10 7 = iI (dT d : Int)) (h8 : m.1 10 8 = iI (dM d : Int)) : M_Tw_all (A 10) (ov 68 A m σ) = some (iI (dW d : Int), (ov 68 A m σ)) := by
  have h6 := hd.1
  have l0 : ∀ k : Nat, iI (k : Int) + (1 : Int32) = iI ((k + 1 : Nat) : Int) := fun k => by rw [l_1, iI_add, iI_s]
  have lp := up_loop (fun k => L_Tw_all_1 (A 10) (iI (((dM d + 1) ^ k : Nat) : Int)) (iI (k : Int)) (ov 68 A m σ)) (dT d) (some (iI (dW d : Int), (ov 68 A m σ))) (fun k hk ih => by
    have c1 : iI (k : Int) < iI (dT d : Int) := by rw [iI_lt (by omega) (by omega) (by omega) (by omega)]; omega
    have em : iI (((dM d + 1) ^ k : Nat) : Int) * iI ((dM d + 1 : Nat) : Int) = iI (((dM d + 1) ^ (k + 1) : Nat) : Int) := by rw [iI_mul, Nat.pow_succ]; exact congrArg iI (by rw [← Int.natCast_mul])
    show L_Tw_all_1 _ _ _ _ = _
    rw [E_Tw_all_1, okO_ov, cK_10 H, gd_true, aI_ov H.1 _ _ (by omega), h7, if_pos c1, aI_ov H.1 _ _ (by omega), h8, l0, em, letT_eq, l0]
    exact ih) (by
    have c1 : ¬ iI (dT d : Int) < iI (dT d : Int) := Int32.lt_irrefl
    show L_Tw_all_1 _ _ _ _ = _
    rw [E_Tw_all_1, okO_ov, cK_10 H, gd_true, aI_ov H.1 _ _ (by omega), h7, if_neg c1]
    rfl) 0 (Nat.zero_le _)
  rw [Nat.pow_zero] at lp
  replace lp : L_Tw_all_1 (A 10) (iI 1) (iI 0) (ov 68 A m σ) = _ := lp
  unfold M_Tw_all
  rw [E_Tw_all_0, l_0, l_1, lp, mw_ov]
theorem sum_0 (d : TD) : sumN 6 (dg d 0) = 0 := by
  have : ∀ n, sumN n (dg d 0) = 0 := fun n => by
    induction n with
    | zero => rfl
    | succ n ih => rw [sumN_s, ih, dg_0]
  exact this 6
theorem half_iI {T : Nat} (h : T ≤ 6) : iI (T : Int) / (2 : Int32) = iI ((T / 2 : Nat) : Int) := by
  have : ∀ T : Fin 7, iI (T.val : Int) / (2 : Int32) = iI ((T.val / 2 : Nat) : Int) := by decide +kernel
  exact this ⟨T, by omega⟩
theorem p_build {t : PD} {x : XS} {A : Nat → Nat} {σ : AM} (H : LC A σ) (hx : xOk t x) (hf : fOk x) (hp : (mxS x + 1) ^ (xsN x).length ≤ 16384) {m : VM} (hC : CTx x m) {z u : Nat} (hM : RmI z u A σ) : ∃ (A' : Nat → Nat) (σ' : AM) (m' : VM), M_Ls_build (A 17) (ov 68 A m σ) = some ((), ov 68 A' m' σ') ∧ LC A' σ' ∧ LD (twD x) A' σ' ∧ RmI (z + 6) u A' σ' ∧ Ext A σ A' σ' ∧ (∀ k, k ∉ [21, 22, 23, 24, 25, 26] → A' k = A k) ∧ (∀ c, c < 68 → c ∉ [16, 17, 18, 19, 20, 21, 22, 23, 24, 25, 26] → m'.1 c = m.1 c) ∧ (∀ c, c < 68 → c ∉ [21, 22, 23, 24, 25, 26] → m'.2 c = m.2 c) ∧ m'.1 17 11 = iI (NL (twD x) : Int) ∧ m'.1 17 12 = iI (nMay (twD x) : Int) ∧ (∀ k, k < NL (twD x) → m'.2 21 k = LL (twD x) k) ∧ (∀ k, k < NL (twD x) → m'.1 22 k = iI (sh (twD x) k : Int)) ∧ ∀ w, w < dW (twD x) → m'.1 23 w = if mayX x w = true then iI (num (twD x) w : Int) else iI (-1) := by
  have hd := wf_tw hx hp
  have h6 := hd.1
  have hW16 := hd.2.2.2.2.2.2
  have hWp := dW_pos (twD x)
  have g7 : m.1 10 7 = iI (dT (twD x) : Int) := hC.1.1
  have g8 : m.1 10 8 = iI (dM (twD x) : Int) := hC.1.2.1
  have g9 : m.1 10 9 = iI (dB (twD x) : Int) := hC.1.2.2.1
  have ea := qt_all H hd g7 g8
  obtain ⟨A1, σ1, m1, k, e1, H1, a1, c1, c2, c3, R1, n1, x1, k1, k2, k3, k4, k5, k6⟩ := p_room H m hM (show 1 ≤ dW (twD x) by omega) hW16
  have A17 : A1 17 = A 17 := a1 17 (by decide)
  -- nothing yet
  have f10 : ∀ j, (sV (sV m1 17 11 (iI 0)) 17 12 (iI 0)).1 10 j = m.1 10 j := fun j => by rw [sV_ne _ _ _ _ (by decide), sV_ne _ _ _ _ (by decide), c1 10 (by decide) (by decide)]
  have et := q_Tw_things (LTt H1) (sV (sV m1 17 11 (iI 0)) 17 12 (iI 0))
  rw [f10, g7] at et
  obtain ⟨A2, σ2, m2, e2, H2, a2, d1, d2, R2, x2, n2, d3⟩ := p_low H1 hd (m := sV (sV m1 17 11 (iI 0)) 17 12 (iI 0)) (by rw [f10]; exact g7) (by rw [f10]; exact g8) (by rw [f10]; exact g9) R1
  have B17 : A2 17 = A1 17 := a2 17 (by decide)
  have x12 := Ext_t x1 x2
  have hfl := q_fill2 H2.1 m2 (c := 18) (by decide) (H2.2.2.1 (18, 101) (by decide)) (by rw [cN_18 H2]; omega) (iI 0)
  rw [cN_18 H2] at hfl
  have fc : ∀ c, c < 68 → c ∉ [17, 18, 19, 21, 22, 23, 24, 25, 26] → (fillV m2 18 6 (iI 0)).1 c = m.1 c := fun c h1 h2 => by
    simp only [List.mem_cons, List.not_mem_nil, or_false, not_or] at h2
    rw [fillV_ne _ _ _ _ h2.2.1, d1 c h1 (by simp only [List.mem_cons, List.not_mem_nil, or_false, not_or]; omega), sV_ne _ _ _ _ h2.1, sV_ne _ _ _ _ h2.1, c1 c h1 (by simp only [List.mem_cons, List.not_mem_nil, or_false, not_or]; omega)]
  have fl : ∀ c, c < 68 → c ∉ [21, 22, 23, 24, 25, 26] → (fillV m2 18 6 (iI 0)).2 c = m.2 c := fun c h1 h2 => by
    simp only [List.mem_cons, List.not_mem_nil, or_false, not_or] at h2
    rw [fillV_2, (d2 c h1 (by omega)).1, sV_2, sV_2, c2 c h1 (by simp only [List.mem_cons, List.not_mem_nil, or_false, not_or]; omega)]
  have f17 : ∀ j, (fillV m2 18 6 (iI 0)).1 17 j = (sV (sV m1 17 11 (iI 0)) 17 12 (iI 0)).1 17 j := fun j => by rw [fillV_ne _ _ _ _ (by decide), d1 17 (by decide) (by decide)]
  have hC2 : CTx x (fillV m2 18 6 (iI 0)) := CTx_e (fc 10 (by decide) (by decide)) (fc 12 (by decide) (by decide)) (fc 13 (by decide) (by decide)) (fc 14 (by decide) (by decide)) hC
  have N21 : aN σ2 (A2 21) = aN σ1 (A1 21) := (d2 21 (by decide) (by decide)).2
  have N25 : aN σ2 (A2 25) = aN σ1 (A1 25) := (d2 25 (by decide) (by decide)).2
  have h10' : (fillV m2 18 6 (iI 0)).1 17 10 = iI ((2 ^ k : Nat) : Int) := by rw [f17]; simp (disch := decide) only [sV_eq, sW_eq, sV_ne, sW_ne, sV_2, sW_1, Nat.reduceEqDiff, ↓reduceIte]; exact k4
  have I0 : BdI x k 0 (fillV m2 18 6 (iI 0)) := by
    refine ⟨fun _ t ht => ?_, fun h => absurd (Nat.zero_mod _) h, ?_, fun q hq => absurd hq (Nat.not_lt_zero q), fun q hq => absurd hq (Nat.not_lt_zero q), HT_0 _ _ (fun j hj => ?_), fun v hv => absurd hv (Nat.not_lt_zero v), ?_⟩
    · show (if 18 = 18 ∧ t < 6 then iI 0 else m2.1 18 t) = _
      rw [if_pos ⟨rfl, by omega⟩, dg_0]; rfl
    · rw [f17]; simp (disch := decide) only [sV_eq, sW_eq, sV_ne, sW_ne, sV_2, sW_1, Nat.reduceEqDiff, ↓reduceIte]; rfl
    · rw [fillV_ne _ _ _ _ (by decide), d1 25 (by decide) (by decide), sV_ne _ _ _ _ (by decide), sV_ne _ _ _ _ (by decide)]
      exact k6 j (by omega)
    · rw [f17]; simp (disch := decide) only [sV_eq, sW_eq, sV_ne, sW_ne, sV_2, sW_1, Nat.reduceEqDiff, ↓reduceIte]; rfl
  have lp : ∃ m3 : VM, L_Ls_build_1 (A2 17) (iI (dW (twD x) : Int)) (iI ((dT (twD x) / 2 : Nat) : Int)) (iI (lwN (twD x) : Int)) (iI (sumN 6 (dg (twD x) 0) : Int)) (iI ((0 % lwN (twD x) : Nat) : Int)) (iI ((0 : Nat) : Int)) (ov 68 A2 (fillV m2 18 6 (iI 0)) σ2) = some ((), ov 68 A2 m3 σ2) ∧ OnBd (fillV m2 18 6 (iI 0)) m3 ∧ BdI x k (dW (twD x)) m3 := by
    refine up_loopI (β := VM × Int32) (fun w s => L_Ls_build_1 (A2 17) (iI (dW (twD x) : Int)) (iI ((dT (twD x) / 2 : Nat) : Int)) (iI (lwN (twD x) : Int)) s.2 (iI ((w % lwN (twD x) : Nat) : Int)) (iI (w : Int)) (ov 68 A2 s.1 σ2)) (fun w s => OnBd (fillV m2 18 6 (iI 0)) s.1 ∧ BdI x k w s.1 ∧ (w < dW (twD x) → s.2 = iI (sumN 6 (dg (twD x) w) : Int))) (fun X => ∃ m3 : VM, X = some ((), ov 68 A2 m3 σ2) ∧ OnBd (fillV m2 18 6 (iI 0)) m3 ∧ BdI x k (dW (twD x)) m3) (dW (twD x)) (fun w s hw ⟨i1, i2, i3⟩ ih => ?_) (fun s ⟨i1, i2, i3⟩ => ?_) 0 (fillV m2 18 6 (iI 0), iI (sumN 6 (dg (twD x) 0) : Int)) (Nat.zero_le _) ⟨OnBd_r _, I0, fun _ => rfl⟩
    · obtain ⟨m', v, e, O, I, hv⟩ := bd_step H2 hx hf hp (m := s.1) (CTx_e (i1.1 10 (by decide)) (i1.1 12 (by decide)) (i1.1 13 (by decide)) (i1.1 14 (by decide)) hC2) k2 (by rw [i1.2.1 10 (by decide) (by decide)]; exact h10') (by rw [N25]; exact k5) k3 (by rw [N21]; exact n1) R2.2.2.1 n2 R2.2.2.2.2.1 (fun i hi => by rw [i1.1 26 (by decide), fillV_ne _ _ _ _ (by decide)]; exact d3 i hi) hw i2
      show ∃ m3 : VM, L_Ls_build_1 _ _ _ _ s.2 _ _ _ = _ ∧ _
      rw [i3 hw, e]
      exact ih (m', v) ⟨OnBd_t i1 O, I, hv⟩
    · have c0 : ¬ iI (dW (twD x) : Int) < iI (dW (twD x) : Int) := Int32.lt_irrefl
      refine ⟨s.1, ?_, i1, i2⟩
      show L_Ls_build_1 _ _ _ _ _ _ _ _ = _
      rw [E_Ls_build_1, if_neg c0]
  obtain ⟨m3, e3, O3, b1, b2, b3, b4, b5, b6, b7, b8⟩ := lp
  rw [sum_0, Nat.zero_mod] at e3
  replace e3 : L_Ls_build_1 (A2 17) (iI (dW (twD x) : Int)) (iI ((dT (twD x) / 2 : Nat) : Int)) (iI (lwN (twD x) : Int)) (iI 0) (iI 0) (iI 0) (ov 68 A2 (fillV m2 18 6 (iI 0)) σ2) = _ := e3
  refine ⟨A2, σ2, m3, ?_, H2, ⟨by rw [N21]; exact n1, R2.2.2.1⟩, R2, x12, fun q hq => ?_, fun c h1 h2 => ?_, fun c h1 h2 => ?_, b3, b8, b4, b5, b7⟩
  · unfold M_Ls_build
    rw [E_Ls_build_0, okO_ov, aR_ov, cK_17 H, gd_true, cR_17_0 H, cK_10 H, gd_true, ea, bnd_some, okO_ov, cK_17 H, gd_true, e1, bnd_some, ← A17, okO_ov, cK_17 H1, gd_true, l_0, sI_ov H1.1 _ _ (by omega), letT_eq, sI_ov H1.1 _ _ (by omega), letT_eq, okO_ov, aR_ov, cR_17_0 H1, cK_10 H1, gd_true, et, bnd_some, half_iI h6, letT_eq, okO_ov, cK_17 H1, gd_true, e2, bnd_some, ← B17, okO_ov, aR_ov, cK_17 H2, gd_true, cR_17_1 H2, cK_18 H2, gd_true, hfl, bnd_some, e3]
    exact mw_of x12.2.1 x12.2.2.1
  · simp only [List.mem_cons, List.not_mem_nil, or_false, not_or] at hq
    rw [a2 q hq.2.2.2.2.2, a1 q (by simp only [List.mem_cons, List.not_mem_nil, or_false, not_or]; omega)]
  · simp only [List.mem_cons, List.not_mem_nil, or_false, not_or] at h2
    rw [O3.1 c (by simp only [List.mem_cons, List.not_mem_nil, or_false, not_or]; omega)]
    exact fc c h1 (by simp only [List.mem_cons, List.not_mem_nil, or_false, not_or]; omega)
  · have h3 := h2
    simp only [List.mem_cons, List.not_mem_nil, or_false, not_or] at h3
    rw [O3.2.2 c h3.1]; exact fl c h1 h2
