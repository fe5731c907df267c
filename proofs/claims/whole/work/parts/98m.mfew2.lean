/-! ===== fewest, fewestFor: the reference's answer ===== -/
theorem Md_ff2 {d : TD} {b : BD} {A : Nat → Nat} {σ : AM} {m : VM} (M : MS0 d b A σ m) (hl : LeftM d b m) (hn : nLf d b ≤ 12) (v : Int32) {s : Nat} (hs : s < sN d) (h31 : m.1 31 s = iI 0) : ∃ m' : VM, L_Md_findFewest_2 (A 0) v (iI (s : Int)) (iI ((0 : Nat) : Int)) (ov 40 A m σ) = L_Md_findFewest_1 (A 0) v (iI ((s + 1 : Nat) : Int)) (ov 40 A (m') σ) ∧ OnS 31 m m' ∧ (∀ t, t ≠ s → m'.1 31 t = m.1 31 t) ∧ m'.1 31 s = iI (rmV d b s : Int) := by
  have H := M.1
  have hd := M.2.1
  have hN := sN_le hd
  have h5 := Lf_5 M hl
  refine up_loopI (fun k mm => L_Md_findFewest_2 (A 0) v (iI (s : Int)) (iI (k : Int)) (ov 40 A mm σ)) (fun k mm => OnS 31 m mm ∧ (∀ t, t ≠ s → mm.1 31 t = m.1 31 t) ∧ mm.1 31 s = iI ((mkN k (fun i => bt (xL d b i) s) : Nat) : Int)) (fun X => ∃ m' : VM, X = L_Md_findFewest_1 (A 0) v (iI ((s + 1 : Nat) : Int)) (ov 40 A (m') σ) ∧ OnS 31 m m' ∧ (∀ t, t ≠ s → m'.1 31 t = m.1 31 t) ∧ m'.1 31 s = iI (rmV d b s : Int)) (nLf d b) (fun k mm hk ⟨i1, i2, i3⟩ ih => ?_) (fun mm ⟨i1, i2, i3⟩ => ?_) 0 m (Nat.zero_le _) ⟨OnS_r _ _, fun _ _ => rfl, h31⟩
  · obtain ⟨x1, x2, x3, x4⟩ := Lf_x M hl hk
    have e46 : mm.1 0 46 = iI (nLf d b : Int) := by rw [i1.1 0 (by decide)]; exact h5.1
    have e25 : mm.1 25 k = iI (lf d b k : Int) := by rw [i1.1 25 (by decide)]; exact x1
    have e14 : mm.2 14 (lf d b k) = xL d b k := by rw [i1.2]; exact x3
    have hsh := iI_shl1 (t := k) (by omega)
    have hr := q_Md_doesRing (xL d b k) (s := s) (by omega)
    have ih := ih (sV mm 31 s (iI ((mkN (k + 1) (fun i => bt (xL d b i) s) : Nat) : Int))) ⟨⟨fun c hc => by rw [sV_ne _ _ _ _ hc]; exact i1.1 c hc, i1.2⟩, fun t ht => by rw [sV_eq, if_neg ht]; exact i2 t ht, by rw [sV_eq, if_pos rfl]⟩
    rw [show mkN (k + 1) (fun i => bt (xL d b i) s) = if bt (xL d b k) s = true then mkN k (fun i => bt (xL d b i) s) ||| 2 ^ k else mkN k (fun i => bt (xL d b i) s) from rfl] at ih
    show ∃ m' : VM, L_Md_findFewest_2 _ _ _ _ _ = _ ∧ _
    have or00 : ∀ x : Nat, iI (x : Int) ||| iI 0 = iI (x : Int) := fun x => by
      rw [show iI 0 = iI ((0 : Nat) : Int) from rfl, iI_or, Nat.or_zero]
    cases q : bt (xL d b k) s
    · rw [q] at ih hr
      rw [if_neg (by decide)] at ih
      rw [E_Md_findFewest_2]
      simp (disch := omega) only [E_Md_findFewest_3, mK_0 H, mR_58 H, mR_30 H, mR_45 H, mK_31 H, mN_31 H, mK_14 H, mN_14 H, mK_25 H, mN_25 H, okO_ov, aR_ov, aN_ov, gd_true, gd_in, iI_cl, Int.toNat_natCast, aI_ov H.1, aL_ov H.1, sI_ov H.1, letT_eq, e46, e25, e14, hr, i3, bnd_some, bZ_0, l_0, l_1, or00, iI_lt, iI_add, iI_s, ↓reduceIte]
      rw [if_pos (by omega)]
      exact ih
    · rw [q] at ih hr
      rw [if_pos rfl] at ih
      rw [E_Md_findFewest_2]
      simp (disch := omega) only [E_Md_findFewest_3, mK_0 H, mR_58 H, mR_30 H, mR_45 H, mK_31 H, mN_31 H, mK_14 H, mN_14 H, mK_25 H, mN_25 H, okO_ov, aR_ov, aN_ov, gd_true, gd_in, iI_cl, Int.toNat_natCast, aI_ov H.1, aL_ov H.1, sI_ov H.1, letT_eq, e46, e25, e14, hr, i3, bnd_some, bZ_0, l_0, l_1, l_31, hsh, iI_or, iI_lt, iI_add, iI_s, reduceCtorEq, ↓reduceIte]
      rw [if_pos (by omega)]
      exact ih
  · have e46 : mm.1 0 46 = iI (nLf d b : Int) := by rw [i1.1 0 (by decide)]; exact h5.1
    refine ⟨mm, ?_, i1, i2, i3⟩
    show L_Md_findFewest_2 _ _ _ _ _ = _
    rw [E_Md_findFewest_2]
    simp (disch := omega) only [mK_0 H, okO_ov, gd_true, aI_ov H.1, e46, iI_lt, l_1, iI_add, iI_s]
    rw [if_neg (by omega)]
theorem OnS31_KM {m m' : VM} (h : OnS 31 m m') : KM m m' := ⟨fun j _ => by rw [h.1 0 (by decide)], fun c hc => h.1 c (fun e => by subst e; revert hc; decide), fun c _ => by rw [h.2]⟩
theorem LeftM_S {d : TD} {b : BD} {c : Nat} (hc : c = 30 ∨ c = 31 ∨ c = 32) {m m' : VM} (h : OnS c m m') (l : LeftM d b m) : LeftM d b m' := by
  obtain ⟨a1, a2, a3, a4, a5⟩ := l
  exact ⟨by rw [h.2]; exact a1, by rw [h.2]; exact a2, by rw [h.1 0 (by omega)]; exact a3, by rw [h.1 0 (by omega)]; exact a4, by rw [h.1 25 (by omega)]; exact a5⟩
theorem p_Md_findFewest {d : TD} {b : BD} {A : Nat → Nat} {σ : AM} {m : VM} (M : MS0 d b A σ m) (hl : LeftM d b m) (hn : nLf d b ≤ 12) {q w : Nat} (h30 : ∀ i, i < nLf d b → m.1 30 i = ansV d b q w i) {c : Int} (hc1 : 0 ≤ c) (hc2 : c ≤ 1) : ∃ m' : VM, M_Md_findFewest (A 0) (iI c) (ov 40 A m σ) = some (iI (fewA d b q w c), (ov 40 A (m') σ)) ∧ KM m m' := by
  have H := M.1
  have hd := M.2.1
  have hN := sN_le hd
  have h5 := Lf_5 M hl
  have h4 : 2 ^ nLf d b ≤ 4096 := Nat.le_trans (Nat.pow_le_pow_right (by omega) hn) (by decide)
  have hp : 0 < 2 ^ nLf d b := Nat.pow_pos (by omega)
  have hsh := iI_shl1 (t := nLf d b) (by omega)
  have e1 : ((2 ^ nLf d b : Nat) : Int) - 1 = ((2 ^ nLf d b - 1 : Nat) : Int) := by omega
  have hD := dst_rm (d := d) b
  have hA : 2 ^ nLf d b - 1 < 2 ^ nLf d b := by omega
  have hlo : ∀ s, sN d ≤ s → rmV d b s = 0 := fun s hs => rmV_low hd b hs
  generalize hans : ansV d b q w = ans at h30
  have hfw := fw_le (ans := ans) hn hD hA
  generalize hV : fw (nLf d b) ans (rmV d b) (2 ^ nLf d b - 1) = V at *
  -- behind the tables
  have l7 : V ≠ 0 → ∀ mm, mfK d (nLf d b) ans (rmV d b) mm → KM m mm → ∃ m' : VM, L_Md_findFewest_7 (A 0) (iI ((2 ^ nLf d b - 1 : Nat) : Int)) (iI (V : Int)) (iI 0) (ov 40 A mm σ) = some (iI (fewA d b q w 1), (ov 40 A (m') σ)) ∧ KM m m' := by
    intro c0 mm hmm hkk
    have hna : ¬ alk (nLf d b) ans (2 ^ nLf d b - 1) = true := fun z => c0 (by rw [← hV, fw_e hA, if_pos z])
    obtain ⟨mm1, ⟨s0, hs0, mm2⟩, mm3⟩ := fw_min (ans := ans) hn hD hA hna
    rw [hV] at mm1 mm2 mm3
    have ls : ∃ s, s < 64 ∧ byV (fw (nLf d b) ans (rmV d b)) (rmV d b) (2 ^ nLf d b - 1) s = V ∧ ∀ t, t < s → byV (fw (nLf d b) ans (rmV d b)) (rmV d b) (2 ^ nLf d b - 1) t ≠ V := by
      have : ∀ n, n < 64 → byV (fw (nLf d b) ans (rmV d b)) (rmV d b) (2 ^ nLf d b - 1) n = V → ∃ s, s ≤ n ∧ byV (fw (nLf d b) ans (rmV d b)) (rmV d b) (2 ^ nLf d b - 1) s = V ∧ ∀ t, t < s → byV (fw (nLf d b) ans (rmV d b)) (rmV d b) (2 ^ nLf d b - 1) t ≠ V := by
        intro n
        induction n using Nat.strongRecOn with
        | ind n ihn =>
          intro h1 h2
          by_cases z : ∃ t, t < n ∧ byV (fw (nLf d b) ans (rmV d b)) (rmV d b) (2 ^ nLf d b - 1) t = V
          · obtain ⟨t, z1, z2⟩ := z
            obtain ⟨s, y1, y2, y3⟩ := ihn t z1 (by omega) z2
            exact ⟨s, by omega, y2, y3⟩
          · exact ⟨n, Nat.le_refl _, h2, fun t ht y => z ⟨t, ht, y⟩⟩
      obtain ⟨s, y1, y2, y3⟩ := this s0 hs0 mm2.symm
      exact ⟨s, by omega, y2, y3⟩
    obtain ⟨s, hs, hsv, hsm⟩ := ls
    have efs : fewA d b q w 1 = (s : Int) := by
      unfold fewA
      rw [if_neg (by decide), hans, hV, if_neg c0]
      exact fsN_of hs (decide_eq_true hsv) (fun t ht => decide_eq_false (hsm t ht))
    have hsN : s < sN d := by
      rcases Nat.lt_or_ge s (sN d) with z | z
      · exact z
      · have : byV (fw (nLf d b) ans (rmV d b)) (rmV d b) (2 ^ nLf d b - 1) s = 99 := if_pos (Or.inl (by rw [hlo s z, Nat.and_zero]))
        omega
    rw [efs]
    refine up_loopI (fun t mx => L_Md_findFewest_7 (A 0) (iI ((2 ^ nLf d b - 1 : Nat) : Int)) (iI (V : Int)) (iI (t : Int)) (ov 40 A mx σ)) (fun t mx => mfK d (nLf d b) ans (rmV d b) mx ∧ KM m mx) (fun X => ∃ m' : VM, X = some (iI (s : Int), (ov 40 A (m') σ)) ∧ KM m m') s (fun t mx ht ⟨i1, i2⟩ ih => ?_) (fun mx ⟨i1, i2⟩ => ?_) 0 mm (Nat.zero_le _) ⟨hmm, hkk⟩
    all_goals
      have stepB : ∀ t, t < sN d → ∃ m' : VM, M_Md_by (A 0) (iI ((2 ^ nLf d b - 1 : Nat) : Int)) (iI (t : Int)) (ov 40 A mx σ) = some (iI (byV (fw (nLf d b) ans (rmV d b)) (rmV d b) (2 ^ nLf d b - 1) t : Int), (ov 40 A (m') σ)) ∧ OnS 32 mx m' ∧ memo (nLf d b) 32 (fw (nLf d b) ans (rmV d b)) m' := by
        intro t ht
        have hpc := pcN_le (nLf d b) (2 ^ nLf d b - 1)
        obtain ⟨m2, e2, r2⟩ := Md_by0 H hd hn hD (Q_Md_by_Md_fewestBy 79) hA ht (fun z1 z2 => by
          have p := parts_pc hA z1 z2
          exact ⟨Md_few H hd hn hD hlo 12 79 _ (and_lt hA _) (by omega) (by decide), Md_few H hd hn hD hlo 12 79 _ (sdf_lt hA _) (by omega) (by decide)⟩) i1
        refine ⟨m2, ?_, r2⟩
        show mw _ (L_Md_by_0 _ _ _ _ _) = _
        exact (congrArg (mw _) e2).trans (mw_ov _ _ _ _ _ _)
      have hbv : ∀ t, byV (fw (nLf d b) ans (rmV d b)) (rmV d b) (2 ^ nLf d b - 1) t ≤ 99 := fun t => by
        unfold byV
        have y1 := fw_le (ans := ans) hn hD (and_lt hA (rmV d b t))
        have y2 := fw_le (ans := ans) hn hD (sdf_lt hA (rmV d b t))
        split <;> omega
    · obtain ⟨m2, e2, k1, k2⟩ := stepB t (by omega)
      have hb := hbv t
      have hne := hsm t ht
      have ih := ih m2 ⟨mfK_S i1 k1 k2, KM_t i2 (OnS32_KM k1)⟩
      show ∃ m' : VM, L_Md_findFewest_7 _ _ _ _ _ = _ ∧ _
      rw [E_Md_findFewest_7]
      simp (disch := omega) only [mK_0 H, okO_ov, gd_true, bnd_some, e2, iI_eq, l_1, iI_add, iI_s]
      rw [if_neg (by omega)]
      exact ih
    · obtain ⟨m2, e2, k1, k2⟩ := stepB s hsN
      rw [hsv] at e2
      refine ⟨m2, ?_, KM_t i2 (OnS32_KM k1)⟩
      show L_Md_findFewest_7 _ _ _ _ _ = _
      rw [E_Md_findFewest_7]
      simp (disch := omega) only [mK_0 H, okO_ov, gd_true, bnd_some, e2, ↓reduceIte]
  have l4 : ∀ m1, KM m m1 → m1.1 0 46 = iI (nLf d b : Int) → (∀ i, i < nLf d b → m1.1 30 i = ans i) → (∀ s, s < sN d → m1.1 31 s = iI (rmV d b s : Int)) → ∃ m' : VM, L_Md_findFewest_4 (A 0) (iI c) (iI ((2 ^ nLf d b - 1 : Nat) : Int)) (iI 0) (ov 40 A m1 σ) = some (iI (fewA d b q w c), (ov 40 A (m') σ)) ∧ KM m m' := by
    intro m1 g1 g2 g3 g4
    refine up_loopI (fun k mm => L_Md_findFewest_4 (A 0) (iI c) (iI ((2 ^ nLf d b - 1 : Nat) : Int)) (iI (k : Int)) (ov 40 A mm σ)) (fun k mm => OnS 32 m1 mm ∧ ∀ S, S < k → mm.1 32 S = iI (-1)) (fun X => ∃ m' : VM, X = some (iI (fewA d b q w c), (ov 40 A (m') σ)) ∧ KM m m') (2 ^ nLf d b) (fun k mm hk ⟨i1, i2⟩ ih => ?_) (fun mm ⟨i1, i2⟩ => ?_) 0 m1 (Nat.zero_le _) ⟨OnS_r _ _, fun j hj => absurd hj (Nat.not_lt_zero j)⟩
    · have ih := ih (sV mm 32 k (iI (-1))) ⟨⟨fun x hx => by rw [sV_ne _ _ _ _ hx]; exact i1.1 x hx, i1.2⟩, fun S hS => by
        rw [sV_eq]
        by_cases e : S = k
        · rw [if_pos e]
        · rw [if_neg e]; exact i2 S (by omega)⟩
      show ∃ m' : VM, L_Md_findFewest_4 _ _ _ _ _ = _ ∧ _
      rw [E_Md_findFewest_4]
      simp (disch := omega) only [mK_0 H, mR_59 H, mK_32 H, mN_32 H, okO_ov, aR_ov, aN_ov, gd_true, gd_in, iI_cl, Int.toNat_natCast, sI_ov H.1, letT_eq, l_1, iI_neg, iI_lt, iI_add, iI_s]
      rw [if_neg (by omega)]
      exact ih
    · have hK : KM m mm := KM_t g1 (OnS32_KM i1)
      have hmf : mfK d (nLf d b) ans (rmV d b) mm := ⟨MT_K hK M.2.2.1, by rw [i1.1 0 (by decide)]; exact g2, fun i hi => by rw [i1.1 30 (by decide)]; exact g3 i hi, fun s hs => by rw [i1.1 31 (by decide)]; exact g4 s hs, fun S hS => Or.inl (i2 S hS)⟩
      have hpc := pcN_le (nLf d b) (2 ^ nLf d b - 1)
      obtain ⟨m2, e2, k1, k2⟩ := Md_few H hd hn hD hlo (ans := ans) 12 80 (2 ^ nLf d b - 1) hA (by omega) (by decide) mm hmf
      rw [hV] at e2
      replace e2 : M_Md_fewestBy (A 0) (iI ((2 ^ nLf d b - 1 : Nat) : Int)) _ = _ := e2
      have K2 := KM_t hK (OnS32_KM k1)
      show ∃ m' : VM, L_Md_findFewest_4 _ _ _ _ _ = _ ∧ _
      rw [E_Md_findFewest_4]
      simp (disch := omega) only [E_Md_findFewest_5, E_Md_findFewest_6, mK_0 H, okO_ov, gd_true, bnd_some, e2, l_0, l_1, iI_neg, iI_lt, iI_eq]
      rw [if_pos (by omega)]
      by_cases z : c = 0
      · refine ⟨m2, ?_, K2⟩
        rw [if_pos z, if_pos z, z]
        unfold fewA
        rw [if_pos rfl, hans, hV]
      · have z1 : c = 1 := by omega
        rw [if_neg z]
        by_cases c0 : V = 0
        · refine ⟨m2, ?_, K2⟩
          rw [if_pos (by omega), if_neg z]
          unfold fewA
          rw [if_neg z, hans, hV, if_pos c0]
        · rw [if_neg (by omega), z1]
          exact l7 c0 m2 (mfK_S hmf k1 k2) K2
  have l1 : ∃ m' : VM, L_Md_findFewest_1 (A 0) (iI c) (iI ((0 : Nat) : Int)) (ov 40 A m σ) = some (iI (fewA d b q w c), (ov 40 A (m') σ)) ∧ KM m m' := by
    refine up_loopI (fun s mm => L_Md_findFewest_1 (A 0) (iI c) (iI (s : Int)) (ov 40 A mm σ)) (fun s mm => OnS 31 m mm ∧ ∀ t, t < s → mm.1 31 t = iI (rmV d b t : Int)) (fun X => ∃ m' : VM, X = some (iI (fewA d b q w c), (ov 40 A (m') σ)) ∧ KM m m') (sN d) (fun s mm hs ⟨i1, i2⟩ ih => ?_) (fun mm ⟨i1, i2⟩ => ?_) 0 m (Nat.zero_le _) ⟨OnS_r _ _, fun j hj => absurd hj (Nat.not_lt_zero j)⟩
    · have o2 : OnS 31 m (sV mm 31 s (iI 0)) := ⟨fun x hx => by rw [sV_ne _ _ _ _ hx]; exact i1.1 x hx, i1.2⟩
      obtain ⟨m3, e3, j1, j2, j3⟩ := Md_ff2 (MS0_K (OnS31_KM o2) M) (LeftM_S (Or.inr (Or.inl rfl)) o2 hl) hn (iI c) hs (by rw [sV_eq, if_pos rfl])
      replace e3 : L_Md_findFewest_2 (A 0) (iI c) (iI (s : Int)) (iI 0) _ = _ := e3
      have ih := ih m3 ⟨OnS_t o2 j1, fun t ht => by
        by_cases e : t = s
        · rw [e]; exact j3
        · rw [j2 t e, sV_eq, if_neg e]; exact i2 t (by omega)⟩
      have hT1 := MT_K (OnS31_KM i1) M.2.2.1
      show ∃ m' : VM, L_Md_findFewest_1 _ _ _ _ = _ ∧ _
      rw [E_Md_findFewest_1]
      simp (disch := omega) only [mK_0 H, mR_58 H, mK_31 H, mN_31 H, okO_ov, aR_ov, aN_ov, gd_true, gd_in, iI_cl, Int.toNat_natCast, sI_ov H.1, letT_eq, bnd_some, q_Md_sets H hd hT1, l_0, iI_lt, e3]
      rw [if_pos (by omega)]
      exact ih
    · have hT1 := MT_K (OnS31_KM i1) M.2.2.1
      have e46 : mm.1 0 46 = iI (nLf d b : Int) := by rw [i1.1 0 (by decide)]; exact h5.1
      have := l4 mm (OnS31_KM i1) e46 (fun i hi => by rw [i1.1 30 (by decide)]; exact h30 i hi) i2
      show ∃ m' : VM, L_Md_findFewest_1 _ _ _ _ = _ ∧ _
      rw [E_Md_findFewest_1]
      simp (disch := omega) only [mK_0 H, okO_ov, gd_true, bnd_some, q_Md_sets H hd hT1, l_0, l_1, l_31, iI_lt, aI_ov H.1, e46, hsh, iI_sub, e1, letT_eq]
      rw [if_neg (by omega)]
      exact this
  obtain ⟨m', e, k⟩ := l1
  refine ⟨m', ?_, k⟩
  unfold M_Md_findFewest
  rw [E_Md_findFewest_0]
  exact (congrArg (mw _) e).trans (mw_ov _ _ _ _ _ _)
theorem OnS30_KM {m m' : VM} (h : OnS 30 m m') : KM m m' := ⟨fun j _ => by rw [h.1 0 (by decide)], fun c hc => h.1 c (fun e => by subst e; revert hc; decide), fun c _ => by rw [h.2]⟩
theorem Md_ff3 {d : TD} {b : BD} {A : Nat → Nat} {σ : AM} {m : VM} (M : MS0 d b A σ m) (hl : LeftM d b m) (hn : nLf d b ≤ 12) {q w : Int} (hq : qOk d q w) (hw1 : -2147483648 ≤ w) (hw2 : w < 2147483648) (v : Int32) {k : Nat} (hk : k < nLf d b) : L_Md_fewestFor_3 (A 0) (iI q) (iI w) v (iI (k : Int)) (ov 40 A m σ) = L_Md_fewestFor_3 (A 0) (iI q) (iI w) v (iI ((k + 1 : Nat) : Int)) (ov 40 A (sV m 30 k (ansV d b q.toNat w.toNat k)) σ) := by
  have H := M.1
  have hd := M.2.1
  have hT := M.2.2.1
  have hN := sN_le hd
  have hT6 := hd.1
  have h5 := Lf_5 M hl
  obtain ⟨x1, x2, x3, x4⟩ := Lf_x M hl hk
  have lo := xL_low hd b k
  have f5 : ∀ s0 : Int32, (if q = 0 then iI (k : Int) else if q = 4 then iI (pcl (xL d b k) : Int) else if s0 = iI 0 then iI 0 else iI 1) = ansV d b q.toNat w.toNat k → L_Md_fewestFor_5 (A 0) (iI q) (iI w) v (iI (k : Int)) (xL d b k) s0 (ov 40 A m σ) = L_Md_fewestFor_3 (A 0) (iI q) (iI w) v (iI ((k + 1 : Nat) : Int)) (ov 40 A (sV m 30 k (ansV d b q.toNat w.toNat k)) σ) := by
    intro s0 he
    rw [← he]
    have hrc := q_Md_ringCount H hd hT lo
    have hq5 : -2147483648 ≤ q ∧ q < 2147483648 := by rcases hq with z | z | z | z | z <;> omega
    rw [E_Md_fewestFor_5]
    simp (disch := omega) only [E_Md_fewestFor_6, mK_0 H, mR_57 H, mK_30 H, mN_30 H, okO_ov, aR_ov, aN_ov, gd_true, gd_in, iI_cl, Int.toNat_natCast, sI_ov H.1, letT_eq, bnd_some, hrc, l_0, l_1, l_4, iI_eq, iI_add, iI_s]
    by_cases c0 : q = 0
    · rw [if_pos c0, if_pos c0]
    · rw [if_neg c0, if_neg c0]
      by_cases c4 : q = 4
      · rw [if_pos c4, if_pos c4]
      · rw [if_neg c4, if_neg c4]
        by_cases cs : s0 = iI 0
        · rw [if_pos cs, if_pos cs]
        · rw [if_neg cs, if_neg cs]
  have bzi : ∀ p : Bool, (if bZ p = iI 0 then iI 0 else iI 1) = bZ p := fun p => by cases p <;> rfl
  rcases hq with rfl | rfl | ⟨rfl, h1, h2⟩ | ⟨rfl, h1, h2, h3, h4⟩ | ⟨rfl, h1, h2⟩
  · have := f5 (iI 0) ((if_pos rfl).trans rfl)
    rw [E_Md_fewestFor_3]
    simp (disch := omega) only [E_Md_fewestFor_4, mK_0 H, mR_30 H, mR_45 H, mK_14 H, mN_14 H, mK_25 H, mN_25 H, okO_ov, aR_ov, aN_ov, gd_true, gd_in, iI_cl, Int.toNat_natCast, aI_ov H.1, aL_ov H.1, letT_eq, h5.1, x1, x3, l_0, l_1, l_2, l_3, iI_lt, iI_eq, Int.reduceEq, ↓reduceIte]
    rw [if_pos (by omega)]
    exact this
  · have := f5 (iI 0) (((if_neg (by decide)).trans (if_pos rfl)).trans rfl)
    rw [E_Md_fewestFor_3]
    simp (disch := omega) only [E_Md_fewestFor_4, mK_0 H, mR_30 H, mR_45 H, mK_14 H, mN_14 H, mK_25 H, mN_25 H, okO_ov, aR_ov, aN_ov, gd_true, gd_in, iI_cl, Int.toNat_natCast, aI_ov H.1, aL_ov H.1, letT_eq, h5.1, x1, x3, l_0, l_1, l_2, l_3, iI_lt, iI_eq, Int.reduceEq, ↓reduceIte]
    rw [if_pos (by omega)]
    exact this
  · obtain ⟨n, rfl⟩ := Int.eq_ofNat_of_zero_le h1
    have hmt := q_Md_doesMatter H hd hT lo (t := n) (by omega)
    have := f5 (bZ (mtr (xL d b k) n)) (((if_neg (by decide)).trans ((if_neg (by decide)).trans (bzi _))).trans rfl)
    rw [E_Md_fewestFor_3]
    simp (disch := omega) only [mK_0 H, mR_30 H, mR_45 H, mK_14 H, mN_14 H, mK_25 H, mN_25 H, okO_ov, aR_ov, aN_ov, gd_true, gd_in, iI_cl, Int.toNat_natCast, aI_ov H.1, aL_ov H.1, letT_eq, h5.1, x1, x3, l_0, l_1, l_2, l_3, iI_lt, iI_eq, Int.reduceEq, ↓reduceIte, bnd_some, hmt]
    rw [if_pos (by omega)]
    exact this
  · obtain ⟨n, rfl⟩ := Int.eq_ofNat_of_zero_le h1
    rw [Int.toNat_natCast] at h2 h3 h4 f5 ⊢
    have e1 : iI (n : Int) / iI 6 = iI ((n / 6 : Nat) : Int) := iI_div (a := n) (b := 6) (by omega) (by omega)
    have e2 : iI (n : Int) - iI ((n / 6 : Nat) : Int) * iI 6 = iI ((n % 6 : Nat) : Int) := iI_mod (a := n) (b := 6) (by omega) (by omega)
    have hmt := q_Md_areAlike H hd hT lo h2 h3
    have := f5 (bZ (alB (xL d b k) (n / 6) (n % 6))) (((if_neg (by decide)).trans ((if_neg (by decide)).trans (bzi _))).trans rfl)
    rw [E_Md_fewestFor_3]
    simp (disch := omega) only [mK_0 H, mR_30 H, mR_45 H, mK_14 H, mN_14 H, mK_25 H, mN_25 H, okO_ov, aR_ov, aN_ov, gd_true, gd_in, iI_cl, Int.toNat_natCast, aI_ov H.1, aL_ov H.1, letT_eq, h5.1, x1, x3, l_0, l_1, l_2, l_3, l_6, iI_lt, iI_eq, Int.reduceEq, ↓reduceIte, bnd_some, e1, e2, hmt]
    rw [if_pos (by omega)]
    exact this
  · obtain ⟨n, rfl⟩ := Int.eq_ofNat_of_zero_le h1
    have hmt := q_Md_doesRing (xL d b k) (s := n) (by omega) (ov 40 A m σ)
    rw [Int.toNat_natCast] at f5 ⊢
    have ea : ansV d b (Int.toNat 3) n k = bZ (bt (xL d b k) n) := rfl
    rw [ea] at f5 ⊢
    cases q : bt (xL d b k) n
    · rw [q] at hmt f5
      have := f5 (iI 0) (((if_neg (by decide)).trans ((if_neg (by decide)).trans (if_pos rfl))).trans rfl)
      rw [E_Md_fewestFor_3]
      simp (disch := omega) only [E_Md_fewestFor_4, mK_0 H, mR_30 H, mR_45 H, mK_14 H, mN_14 H, mK_25 H, mN_25 H, okO_ov, aR_ov, aN_ov, gd_true, gd_in, iI_cl, Int.toNat_natCast, aI_ov H.1, aL_ov H.1, letT_eq, h5.1, x1, x3, l_0, l_1, l_2, l_3, iI_lt, iI_eq, Int.reduceEq, ↓reduceIte, bnd_some, hmt, bZ_0]
      rw [if_pos (by omega)]
      exact this
    · rw [q] at hmt f5
      have := f5 (iI 1) (((if_neg (by decide)).trans ((if_neg (by decide)).trans (if_neg (by decide)))).trans rfl)
      rw [E_Md_fewestFor_3]
      simp (disch := omega) only [mK_0 H, mR_30 H, mR_45 H, mK_14 H, mN_14 H, mK_25 H, mN_25 H, okO_ov, aR_ov, aN_ov, gd_true, gd_in, iI_cl, Int.toNat_natCast, aI_ov H.1, aL_ov H.1, letT_eq, h5.1, x1, x3, l_0, l_1, l_2, l_3, iI_lt, iI_eq, Int.reduceEq, reduceCtorEq, ↓reduceIte, bnd_some, hmt, bZ_0]
      rw [if_pos (by omega)]
      exact this
theorem m_fewestFor {d : TD} {b : BD} {A : Nat → Nat} {σ : AM} {m : VM} (M : MS0 d b A σ m) {q w c : Int} (h1 : -2147483648 ≤ q) (h2 : q < 2147483648) (h3 : -2147483648 ≤ w) (h4 : w < 2147483648) (h5 : -2147483648 ≤ c) (h6 : c < 2147483648) : ∃ r : Int, Mf A σ m (M_Md_fewestFor (A 0) (iI q) (iI w) (iI c) (ov 40 A m σ)) (iI r) ∧ fewR d b q w c r := by
  have M0 := MS0_K (KM_0 m) M
  have H := M.1
  have hd := M.2.1
  have hq := q_Md_isWhat (a := c) (ov 40 A (sV m 0 0 (iI 0)) σ) h5 h6
  unfold M_Md_fewestFor
  by_cases qc : 0 ≤ c ∧ c ≤ 1
  · rw [decide_eq_true qc] at hq
    obtain ⟨rq, eq, hrq⟩ := q_Md_isQuestion H hd M0.2.2.1 h1 h2 h3 h4
    cases er : rq
    · rw [er] at eq
      refine ⟨-1, ⟨_, ?_, KM_0 m⟩, ⟨fun z => absurd ((hrq.mpr z.1).symm.trans er) (by decide), fun _ => rfl⟩⟩
      rw [E_Md_fewestFor_0]
      simp (disch := omega) only [E_Md_fewestFor_1, mK_0 H, okO_ov, gd_true, letT_eq, sI_ov H.1, l_0, l_1, iI_neg, hq, eq, bnd_some, bZ_0, reduceCtorEq, ↓reduceIte, mw_ov]
    · rw [er] at eq
      have ok := hrq.mp er
      obtain ⟨m1, e1, k1, l1, M1⟩ := p_findL M
      have h5' := Lf_5 M1 l1
      by_cases c1 : nLf d b = 0 ∨ 12 < nLf d b
      · refine ⟨-1, ⟨m1, ?_, k1⟩, ⟨fun z => by have := z.2.2; omega, fun _ => rfl⟩⟩
        rw [E_Md_fewestFor_0]
        simp (disch := omega) only [E_Md_fewestFor_2, mK_0 H, okO_ov, gd_true, letT_eq, sI_ov H.1, l_0, l_1, l_12, iI_neg, hq, eq, bnd_some, bZ_0, reduceCtorEq, ↓reduceIte, e1, aI_ov H.1, h5'.1, iI_eq, iI_lt]
        by_cases z : nLf d b = 0
        · rw [if_pos (by omega), mw_ov]
        · rw [if_neg (by omega), if_pos (by omega), mw_ov]
      · have n12 : nLf d b ≤ 12 := by omega
        have lp : ∃ m' : VM, L_Md_fewestFor_3 (A 0) (iI q) (iI w) (iI c) (iI ((0 : Nat) : Int)) (ov 40 A m1 σ) = some (iI (fewA d b q.toNat w.toNat c), (ov 40 A (m') σ)) ∧ KM m m' := by
          refine up_loopI (fun k mm => L_Md_fewestFor_3 (A 0) (iI q) (iI w) (iI c) (iI (k : Int)) (ov 40 A mm σ)) (fun k mm => OnS 30 m1 mm ∧ ∀ i, i < k → mm.1 30 i = ansV d b q.toNat w.toNat i) (fun X => ∃ m' : VM, X = some (iI (fewA d b q.toNat w.toNat c), (ov 40 A (m') σ)) ∧ KM m m') (nLf d b) (fun k mm hk ⟨i1, i2⟩ ih => ?_) (fun mm ⟨i1, i2⟩ => ?_) 0 m1 (Nat.zero_le _) ⟨OnS_r _ _, fun j hj => absurd hj (Nat.not_lt_zero j)⟩
          · have ih := ih (sV mm 30 k (ansV d b q.toNat w.toNat k)) ⟨⟨fun x hx => by rw [sV_ne _ _ _ _ hx]; exact i1.1 x hx, i1.2⟩, fun i hi => by
              rw [sV_eq]
              by_cases e : i = k
              · rw [if_pos e, e]
              · rw [if_neg e]; exact i2 i (by omega)⟩
            show ∃ m' : VM, L_Md_fewestFor_3 _ _ _ _ _ _ = _ ∧ _
            rw [Md_ff3 (MS0_K (OnS30_KM i1) M1) (LeftM_S (Or.inl rfl) i1 l1) n12 ok h3 h4 _ hk]
            exact ih
          · have l2 := LeftM_S (Or.inl rfl) i1 l1
            obtain ⟨m3, e3, k3⟩ := p_Md_findFewest (MS0_K (OnS30_KM i1) M1) l2 n12 i2 qc.1 qc.2
            refine ⟨m3, ?_, KM_t k1 (KM_t (OnS30_KM i1) k3)⟩
            show L_Md_fewestFor_3 _ _ _ _ _ _ = _
            rw [E_Md_fewestFor_3]
            simp (disch := omega) only [mK_0 H, okO_ov, gd_true, aI_ov H.1, l2.2.2.1, iI_lt, bnd_some, e3]
            rw [if_neg (by omega)]
        obtain ⟨m', e, k⟩ := lp
        replace e : L_Md_fewestFor_3 (A 0) (iI q) (iI w) (iI c) (iI 0) _ = _ := e
        refine ⟨_, ⟨m', ?_, k⟩, ⟨fun _ => rfl, fun z => absurd ⟨ok, qc, by omega, n12⟩ z⟩⟩
        rw [E_Md_fewestFor_0]
        simp (disch := omega) only [mK_0 H, okO_ov, gd_true, letT_eq, sI_ov H.1, l_0, l_1, l_12, iI_neg, hq, eq, bnd_some, bZ_0, reduceCtorEq, ↓reduceIte, e1, aI_ov H.1, h5'.1, iI_eq, iI_lt, e]
        rw [if_neg (by omega), if_neg (by omega), mw_ov]
  · rw [decide_eq_false qc] at hq
    refine ⟨-1, ⟨_, ?_, KM_0 m⟩, ⟨fun z => absurd z.2.1 qc, fun _ => rfl⟩⟩
    rw [E_Md_fewestFor_0]
    simp (disch := omega) only [E_Md_fewestFor_1, mK_0 H, okO_ov, gd_true, letT_eq, sI_ov H.1, l_0, l_1, iI_neg, hq, bnd_some, bZ_0, ↓reduceIte, mw_ov]
theorem m_fewest {d : TD} {b : BD} {A : Nat → Nat} {σ : AM} {m : VM} (M : MS0 d b A σ m) {c : Int} (h5 : -2147483648 ≤ c) (h6 : c < 2147483648) : ∃ r : Int, Mf A σ m (M_Md_fewest (A 0) (iI c) (ov 40 A m σ)) (iI r) ∧ fewR d b 0 0 c r := by
  obtain ⟨r, ⟨m', e, k⟩, hr⟩ := m_fewestFor M (q := 0) (w := 0) (c := c) (by decide) (by decide) (by decide) (by decide) h5 h6
  refine ⟨r, ⟨m', ?_, k⟩, hr⟩
  unfold M_Md_fewest
  rw [E_Md_fewest_0]
  simp only [mK_0 M.1, okO_ov, gd_true, l_0, e, bnd_some, mw_ov]
