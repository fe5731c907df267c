/-! ===== the reference cuts the TAPE: the outer loop ===== -/
def tkA (t : PD) (k : Nat) (m : VM) : Prop := ∀ i, i < k → tkE t i m
theorem tkE_w {t : PD} {k i : Nat} {m : VM} (h : tkE t i m) (hi : i ≠ k) (s p : Int32) (v : Int64) : tkE t i (sW (sV (sV m 3 k p) 2 k s) 4 k v) := by
  obtain ⟨h1, h2, h3⟩ := h
  refine ⟨?_, ?_, fun z => ?_⟩
  · rw [sW_1, sV_eq, if_neg hi, sV_ne _ _ _ _ (by decide)]; exact h1
  · rw [sW_1, sV_ne _ _ _ _ (by decide), sV_eq, if_neg hi]; exact h2
  · rw [sW_eq, if_neg hi]; exact h3 z
theorem tkE_n {t : PD} {k : Nat} {m : VM} (s : Int32) (v : Int64) (hs : s = iI (soK t k : Int)) (hv : vaE t k v) : tkE t k (sW (sV (sV m 3 k (iI (plT t k : Int))) 2 k s) 4 k v) := by
  refine ⟨?_, ?_, fun _ => ?_⟩
  · rw [sW_1, sV_eq, if_pos rfl]; exact hs
  · rw [sW_1, sV_ne _ _ _ _ (by decide), sV_eq, if_pos rfl]
  · rw [sW_eq, if_pos rfl]; exact hv
theorem tkA_s {t : PD} {k : Nat} {m : VM} (h : tkA t k m) (s : Int32) (v : Int64) (hs : s = iI (soK t k : Int)) (hv : vaE t k v) : tkA t (k + 1) (sW (sV (sV m 3 k (iI (plT t k : Int))) 2 k s) 4 k v) := fun i hi => by
  by_cases e : i = k
  · rw [e]; exact tkE_n s v hs hv
  · exact tkE_w (h i (by omega)) e _ _ _
theorem tpM_w {t : PD} {k : Nat} {m : VM} (h : tpM t m) (p : Int32) : tpM t (sV m 3 k p) := ⟨by rw [sV_ne _ _ _ _ (by decide)]; exact h.1, fun j hj => by rw [sV_ne _ _ _ _ (by decide)]; exact h.2 j hj⟩
theorem tpM_c {t : PD} {m m' : VM} (h : tpM t m) (k : OnC m m') (h3 : m'.1 0 3 = m.1 0 3) : tpM t m' := ⟨by rw [h3]; exact h.1, fun j hj => by rw [k.1 1 (by decide) (by decide) (by decide)]; exact h.2 j hj⟩
theorem wk_b (l : List Nat) : 3 ≤ wk l 10 ∧ wk l 10 ≤ 13 := by
  have : ∀ n, n ≤ 10 → 3 ≤ wk l n ∧ wk l n ≤ 13 := by
    intro n
    induction n with
    | zero => intro _; exact ⟨Nat.le_refl _, by show 3 ≤ 13; omega⟩
    | succ n ih =>
      intro h
      have := ih (by omega)
      show 3 ≤ (if wlT n = l then 4 + n else wk l n) ∧ (if wlT n = l then 4 + n else wk l n) ≤ 13
      split <;> omega
  exact this 10 (Nat.le_refl _)
theorem sg_b {c : Nat} (h : isSg c = true) : 40 ≤ c ∧ c ≤ 61 := by
  unfold isSg at h
  have h := of_decide_eq_true h
  simp only [List.mem_cons, List.not_mem_nil, or_false] at h
  omega
theorem lt_no {c : Nat} (h : c < 97) : isLt c = false := by unfold isLt; rw [decide_eq_false (by omega)]; rfl
theorem lt_dg {c : Nat} (h : isLt c = true) : isDg c = false := by
  have := lt_b h
  unfold isDg; rw [decide_eq_false (show ¬ c ≤ 57 by omega), Bool.and_false]
theorem kd_0 {t : PD} {k : Nat} (h : kdT t k = 0) : plT t k = t.1 := by
  have h1 := pl_le t k
  rcases Nat.lt_or_ge (plT t k) t.1 with z | z
  · unfold kdT kT0 at h
    rw [if_pos z] at h
    have := (wk_b (wdT t (plT t k) (eT t (plT t k)))).1
    by_cases c1 : isLt (t.2 (plT t k)) = true
    · rw [if_pos c1] at h; split at h <;> omega
    · rw [if_neg c1] at h
      by_cases c2 : isDg (t.2 (plT t k)) = true
      · rw [if_pos c2] at h; split at h <;> omega
      · rw [if_neg c2] at h
        by_cases c3 : isSg (t.2 (plT t k)) = true
        · rw [if_pos c3] at h; have := sg_b c3; omega
        · rw [if_neg c3] at h; omega
  · omega
theorem kd_e {t : PD} {k : Nat} (h : plT t k = t.1) : kdT t k = 0 := by unfold kdT kT0; rw [if_neg (by omega)]
/-- all tokens are cut -/
def cuT (t : PD) (m : VM) : Prop := ∀ k, kOk t k → tkE t k m
theorem Md_cutO {t : PD} {A : Nat → Nat} {σ : AM} (H : LM A σ) (ht : wfT t) {m : VM} : ∀ n j k mm, t.1 ≤ j + n → j ≤ t.1 → enT t isBl j = plT t k → kOk t k → tkA t k mm → OnC m mm → tpM t mm → mm.1 0 2 = iI 0 → ∃ m' : VM, L_Md_cutAll_1 (A 0) (iI (k : Int)) (iI (j : Int)) (ov 40 A mm σ) = some ((), (ov 40 A (m') σ)) ∧ OnC m m' ∧ m'.1 0 2 = iI 0 ∧ m'.1 0 7 = iI 0 ∧ m'.1 0 8 = iI 0 ∧ cuT t m' := by
  have hn := ht.1
  intro n
  induction n with
  | zero =>
    intro j k mm h1 h2 h3 h4 h5 h6 h7 h8
    have hj : j = t.1 := by omega
    subst hj
    have hk := kOk_le ht h4
    have hp : plT t k = t.1 := by rw [← h3]; exact en_n (by omega)
    refine ⟨sV (sV (sV (sV mm 2 k (iI 0)) 3 k (iI (t.1 : Int))) 0 7 (iI 0)) 0 8 (iI 0), ?_, OnC_0 (OnC_0 (OnC_3 (OnC_2 h6 _ _) _ _) _ (by decide)) _ (by decide), by simp (disch := decide) only [sV_eq, sW_eq, sV_ne, sW_ne, sV_2, sW_1, Nat.reduceEqDiff, ↓reduceIte]; exact h8, by simp (disch := decide) only [sV_eq, sW_eq, sV_ne, sW_ne, sV_2, sW_1, Nat.reduceEqDiff, ↓reduceIte], by simp (disch := decide) only [sV_eq, sW_eq, sV_ne, sW_ne, sV_2, sW_1, Nat.reduceEqDiff, ↓reduceIte], fun i hi => ?_⟩
    · have e3 : (sV mm 2 k (iI 0)).1 0 3 = iI (t.1 : Int) := by simp (disch := decide) only [sV_eq, sW_eq, sV_ne, sW_ne, sV_2, sW_1, Nat.reduceEqDiff, ↓reduceIte]; exact h7.1
      rw [E_Md_cutAll_1]
      simp (disch := omega) only [mK_0 H, mR_4 H, mK_2 H, mN_2 H, mR_5 H, mK_3 H, mN_3 H, okO_ov, aR_ov, aN_ov, gd_true, gd_in, iI_cl, Int.toNat_natCast, aI_ov H.1, sI_ov H.1, letT_eq, h7.1, e3, l_0, iI_lt]
      rw [if_neg (by omega)]
    · have hik : i ≤ k := by
        rcases Nat.lt_or_ge k i with z | z
        · have := hi k z; omega
        · exact z
      by_cases e : i = k
      · subst e
        refine ⟨?_, ?_, fun z => absurd (kd_e hp) z⟩
        · rw [sV_ne _ _ _ _ (by decide), sV_ne _ _ _ _ (by decide), sV_ne _ _ _ _ (by decide), sV_eq, if_pos rfl]
          unfold soK; rw [if_pos (kd_e hp)]; rfl
        · rw [sV_ne _ _ _ _ (by decide), sV_ne _ _ _ _ (by decide), sV_eq, if_pos rfl, hp]
      · obtain ⟨g1, g2, g3⟩ := h5 i (by omega)
        refine ⟨?_, ?_, g3⟩
        · rw [sV_ne _ _ _ _ (by decide), sV_ne _ _ _ _ (by decide), sV_ne _ _ _ _ (by decide), sV_eq, if_neg e]; exact g1
        · rw [sV_ne _ _ _ _ (by decide), sV_ne _ _ _ _ (by decide), sV_eq, if_neg e, sV_ne _ _ _ _ (by decide)]; exact g2
  | succ n ih =>
    intro j k mm h1 h2 h3 h4 h5 h6 h7 h8
    by_cases hj : j < t.1
    · have hk := kOk_le ht h4
      have hlt := tp_lt ht hj
      have hc := h7.2 j hj
      by_cases hb : isBl (t.2 j) = true
      · have ih := ih (j + 1) k mm (by omega) (by omega) (by rw [← en_1 hj hb]; exact h3) h4 h5 h6 h7 h8
        have hb2 : t.2 j = 10 ∨ t.2 j = 32 := by
          unfold isBl at hb
          rw [Bool.or_eq_true] at hb
          exact hb.imp of_decide_eq_true of_decide_eq_true
        rw [E_Md_cutAll_1]
        simp (disch := omega) only [E_Md_cutAll_2, mK_0 H, mR_1 H, mK_1 H, mN_1 H, okO_ov, aR_ov, aN_ov, gd_true, gd_in, iI_cl, Int.toNat_natCast, aI_ov H.1, letT_eq, h7.1, hc, l_1, l_10, l_32, iI_lt, iI_eq, iI_add, iI_s]
        rw [if_pos (by omega)]
        by_cases c1 : t.2 j = 10
        · rw [if_pos (by omega)]; exact ih
        · rw [if_neg (by omega), if_pos (by omega)]; exact ih
      · have hb0 : isBl (t.2 j) = false := by cases q : isBl (t.2 j); rfl; exact absurd q hb
        have hp : plT t k = j := by rw [← h3]; exact en_0 hb0
        have hb2 : ¬ t.2 j = 10 ∧ ¬ t.2 j = 32 := by
          refine ⟨fun z => hb ?_, fun z => hb ?_⟩ <;> rw [z] <;> decide
        have k1 : kOk t (k + 1) := fun i hi => by
          by_cases e : i = k
          · rw [e]; omega
          · exact h4 i (by omega)
        have T3 := tpM_w (k := k) h7 (iI (j : Int))
        have O3 := OnC_3 h6 k (iI (j : Int))
        have hgt := eT_gt hj
        have hle := eT_le (t := t) (a := j) (by omega)
        have nx : ∀ (s : Int32) (v : Int64), s = iI (soK t k : Int) → vaE t k v → ∃ m' : VM, L_Md_cutAll_1 (A 0) (iI ((k + 1 : Nat) : Int)) (iI (eT t j : Int)) (ov 40 A (sW (sV (sV mm 3 k (iI (j : Int))) 2 k s) 4 k v) σ) = some ((), (ov 40 A (m') σ)) ∧ OnC m m' ∧ m'.1 0 2 = iI 0 ∧ m'.1 0 7 = iI 0 ∧ m'.1 0 8 = iI 0 ∧ cuT t m' := fun s v hs hv => by
          refine ih (eT t j) (k + 1) _ (by omega) hle (by rw [← hp]; rfl) k1 ?_ (OnC_W (OnC_2 O3 _ _) _ _) ?_ ?_
          · have := tkA_s h5 s v hs hv
            rw [hp] at this; exact this
          · refine ⟨?_, fun i hi => ?_⟩
            · rw [sW_1, sV_ne _ _ _ _ (by decide)]; exact T3.1
            · rw [sW_1, sV_ne _ _ _ _ (by decide)]; exact T3.2 i hi
          · rw [sW_1, sV_ne _ _ _ _ (by decide), sV_ne _ _ _ _ (by decide)]; exact h8
        have hql := fun σ => q_Md_isLetter (c := t.2 j) (by omega) σ
        have hqd := fun σ => q_Md_isDigit (c := t.2 j) (by omega) σ
        have hqs := fun σ => q_Md_isSignOf (c := t.2 j) (by omega) σ
        have hkd : kdT t k = kT0 t j := by unfold kdT; rw [hp]
        by_cases cl : isLt (t.2 j) = true
        · rw [cl] at hql
          have ee : eT t j = enT t isLt j := by unfold eT; rw [if_pos hj, if_pos cl]
          obtain ⟨v, e1, e2⟩ := Md_cutW H ht hj (k := k) (by omega) T3
          have hkd2 : kdT t k = if 8 < eT t j - j then 1 else wk (wdT t j (eT t j)) 10 := by rw [hkd]; unfold kT0; rw [if_pos hj, if_pos cl]
          rw [ee] at hkd2
          have hwk := wk_b (wdT t j (enT t isLt j))
          have hn2 : ¬ kdT t k = 2 ∧ ¬ 14 ≤ kdT t k := by rw [hkd2]; split <;> omega
          have g := nx (iI ((if 8 < enT t isLt j - j then 4 else 1 : Nat) : Int)) v (by
            unfold soK; rw [hkd2]
            by_cases c8 : 8 < enT t isLt j - j
            · rw [if_pos c8, if_pos c8]; rfl
            · rw [if_neg c8, if_neg c8, if_neg (by omega), if_neg (by omega), if_neg (by omega), if_pos (by omega)]) ⟨fun z => by
              have z3 := z.2.2
              rw [hp, ee] at z3
              unfold wdK; rw [hp, ee]; exact e2 z3, fun z => absurd z hn2.1, fun z => absurd z hn2.2⟩
          rw [ee, ← e1] at g
          rw [E_Md_cutAll_1]
          simp (disch := omega) only [mK_0 H, mR_1 H, mK_1 H, mN_1 H, mR_5 H, mK_3 H, mN_3 H, okO_ov, aR_ov, aN_ov, gd_true, gd_in, iI_cl, Int.toNat_natCast, aI_ov H.1, sI_ov H.1, letT_eq, h7.1, hc, hql, bnd_some, bZ_0, l_0, l_10, l_32, iI_lt, iI_eq, reduceCtorEq, ↓reduceIte]
          rw [if_pos (by omega), if_neg (by omega), if_neg (by omega)]
          exact g
        · have cl0 : isLt (t.2 j) = false := by cases q : isLt (t.2 j); rfl; exact absurd q cl
          rw [cl0] at hql
          have nW : ¬ kW t (plT t k) := fun z => by rw [hp] at z; exact cl z.2.1
          by_cases cd : isDg (t.2 j) = true
          · rw [cd] at hqd
            have ee : eT t j = enT t isDg j := by unfold eT; rw [if_pos hj, if_neg cl, if_pos cd]
            obtain ⟨v, e1, e2⟩ := Md_cutN H ht hj (k := k) (by omega) T3
            have hkd2 : kdT t k = if 4 < eT t j - j then 1 else 2 := by rw [hkd]; unfold kT0; rw [if_pos hj, if_neg cl, if_pos cd]
            have hn2 : ¬ 14 ≤ kdT t k := by rw [hkd2]; split <;> omega
            have g := nx (iI ((if 4 < enT t isDg j - j then 4 else 2 : Nat) : Int)) v (by
              unfold soK; rw [hkd2, ee]
              by_cases c8 : 4 < enT t isDg j - j
              · rw [if_pos c8, if_pos c8]; rfl
              · rw [if_neg c8, if_neg c8]; rfl) ⟨fun z => absurd z nW, fun z => by
                have z3 : ¬ 4 < eT t j - j := fun y => by rw [hkd2, if_pos y] at z; omega
                rw [ee] at z3
                rw [← nv_i ht z (by
                  unfold wdK; rw [hp, ee]
                  exact wd_in fun i i1 i2 => en_in i1 i2)]
                unfold wdK; rw [hp, ee]; exact e2 (by omega), fun z => absurd z hn2⟩
            rw [ee, ← e1] at g
            rw [E_Md_cutAll_1]
            simp (disch := omega) only [mK_0 H, mR_1 H, mK_1 H, mN_1 H, mR_5 H, mK_3 H, mN_3 H, okO_ov, aR_ov, aN_ov, gd_true, gd_in, iI_cl, Int.toNat_natCast, aI_ov H.1, sI_ov H.1, letT_eq, h7.1, hc, hql, hqd, bnd_some, bZ_0, l_0, l_10, l_32, iI_lt, iI_eq, reduceCtorEq, ↓reduceIte]
            rw [if_pos (by omega), if_neg (by omega), if_neg (by omega)]
            exact g
          · have cd0 : isDg (t.2 j) = false := by cases q : isDg (t.2 j); rfl; exact absurd q cd
            rw [cd0] at hqd
            have ee : eT t j = j + 1 := by unfold eT; rw [if_pos hj, if_neg cl, if_neg cd]
            have hkd2 : kdT t k = if isSg (t.2 j) = true then t.2 j else 1 := by rw [hkd]; unfold kT0; rw [if_pos hj, if_neg cl, if_neg cd]
            have g := nx (iI ((if isSg (t.2 j) = true then 3 else 4 : Nat) : Int)) (iI (t.2 j : Int)).toInt64 (by
              unfold soK; rw [hkd2]
              by_cases c8 : isSg (t.2 j) = true
              · have := sg_b c8
                rw [if_pos c8, if_pos c8, if_neg (by omega), if_neg (by omega), if_neg (by omega), if_neg (by omega)]
              · rw [if_neg c8, if_neg c8]; rfl) ⟨fun z => absurd z nW, fun z => by
                exfalso
                rw [hkd2] at z
                split at z
                · rename_i c8; have := sg_b c8; omega
                · omega, fun z => by
                rw [hkd2] at z ⊢
                split at z
                · rename_i c8; rw [if_pos c8]
                · omega⟩
            rw [ee] at g
            rw [E_Md_cutAll_1]
            simp (disch := omega) only [E_Md_cutAll_11, E_Md_cutAll_12, mK_0 H, mR_1 H, mK_1 H, mN_1 H, mR_5 H, mK_3 H, mN_3 H, mR_4 H, mK_2 H, mN_2 H, mR_6 H, mK_4 H, mN_4 H, okO_ov, aR_ov, aN_ov, gd_true, gd_in, iI_cl, Int.toNat_natCast, aI_ov H.1, sI_ov H.1, sL_ov H.1, letT_eq, h7.1, hc, hql, hqd, hqs, bnd_some, bZ_0, l_0, l_1, l_3, l_4, l_10, l_32, iI_lt, iI_eq, iI_add, iI_s, reduceCtorEq, ↓reduceIte]
            rw [if_pos (by omega), if_neg (by omega), if_neg (by omega)]
            by_cases c8 : isSg (t.2 j) = true
            · rw [if_pos c8] at g
              rw [if_neg (by rw [c8]; decide)]; exact g
            · rw [if_neg c8] at g
              rw [if_pos (by cases q : isSg (t.2 j); rfl; exact absurd q c8)]; exact g
    · exact ih j k mm (by omega) h2 h3 h4 h5 h6 h7 h8
theorem m_cutAll {t : PD} {A : Nat → Nat} {σ : AM} (H : LM A σ) (ht : wfT t) {m : VM} (hT : MTp t m) : ∃ m' : VM, M_Md_cutAll (A 0) (ov 40 A m σ) = some ((), (ov 40 A (m') σ)) ∧ OnC m m' ∧ m'.1 0 2 = iI 0 ∧ m'.1 0 7 = iI 0 ∧ m'.1 0 8 = iI 0 ∧ cuT t m' := by
  have hn := ht.1
  have e2 : (sV m 0 3 (iI (t.1 : Int))).1 0 2 = iI (t.1 : Int) := by simp (disch := decide) only [sV_eq, sW_eq, sV_ne, sW_ne, sV_2, sW_1, Nat.reduceEqDiff, ↓reduceIte]; exact hT.1
  obtain ⟨m', e, g⟩ := Md_cutO H ht (m := m) t.1 0 0 (sV (sV m 0 3 (iI (t.1 : Int))) 0 2 (iI 0)) (by omega) (by omega) rfl (fun j hj => absurd hj (Nat.not_lt_zero j)) (fun j hj => absurd hj (Nat.not_lt_zero j)) (OnC_0 (OnC_0 (OnC_r m) _ (by decide)) _ (by decide)) ⟨by simp (disch := decide) only [sV_eq, sW_eq, sV_ne, sW_ne, sV_2, sW_1, Nat.reduceEqDiff, ↓reduceIte], fun j hj => by rw [sV_ne _ _ _ _ (by decide), sV_ne _ _ _ _ (by decide)]; exact hT.2 j hj⟩ (by simp (disch := decide) only [sV_eq, sW_eq, sV_ne, sW_ne, sV_2, sW_1, Nat.reduceEqDiff, ↓reduceIte])
  replace e : L_Md_cutAll_1 (A 0) (iI 0) (iI 0) _ = _ := e
  refine ⟨m', ?_, g⟩
  unfold M_Md_cutAll
  rw [E_Md_cutAll_0]
  simp (disch := omega) only [mK_0 H, okO_ov, gd_true, aI_ov H.1, sI_ov H.1, letT_eq, hT.1, l_0, e, mw_ov]
