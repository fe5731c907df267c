/-! ===== the reference cuts the TAPE: all of it ===== -/
def soK (t : PD) (k : Nat) : Nat := if kdT t k = 0 then 0 else if kdT t k = 1 then 4 else if kdT t k = 2 then 2 else if kdT t k ≤ 13 then 1 else 3
def vaE (t : PD) (k : Nat) (v : Int64) : Prop := (kW t (plT t k) → v = mw64 (wdK t k)) ∧ (kdT t k = 2 → v = (iI (vlK t k : Int)).toInt64) ∧ (14 ≤ kdT t k → v = (iI (kdT t k : Int)).toInt64)
def tkE (t : PD) (k : Nat) (m : VM) : Prop := m.1 2 k = iI (soK t k : Int) ∧ m.1 3 k = iI (plT t k : Int) ∧ (¬ kdT t k = 0 → vaE t k (m.2 4 k))
/-- what cutting may change -/
def OnC (m m' : VM) : Prop := (∀ c, c ≠ 0 → c ≠ 2 → c ≠ 3 → m'.1 c = m.1 c) ∧ (∀ j, j ∉ [2, 3, 7, 8] → m'.1 0 j = m.1 0 j) ∧ ∀ c, c ≠ 4 → m'.2 c = m.2 c
theorem OnC_r (m : VM) : OnC m m := ⟨fun _ _ _ _ => rfl, fun _ _ => rfl, fun _ _ => rfl⟩
theorem OnC_t {a b c : VM} (h : OnC a b) (k : OnC b c) : OnC a c := ⟨fun i h1 h2 h3 => (k.1 i h1 h2 h3).trans (h.1 i h1 h2 h3), fun i hi => (k.2.1 i hi).trans (h.2.1 i hi), fun i hi => (k.2.2 i hi).trans (h.2.2 i hi)⟩
theorem OnC_2 {m m' : VM} (h : OnC m m') (j : Nat) (v : Int32) : OnC m (sV m' 2 j v) := ⟨fun c h1 h2 h3 => by rw [sV_ne _ _ _ _ h2]; exact h.1 c h1 h2 h3, fun i hi => by rw [sV_ne _ _ _ _ (by decide)]; exact h.2.1 i hi, h.2.2⟩
theorem OnC_3 {m m' : VM} (h : OnC m m') (j : Nat) (v : Int32) : OnC m (sV m' 3 j v) := ⟨fun c h1 h2 h3 => by rw [sV_ne _ _ _ _ h3]; exact h.1 c h1 h2 h3, fun i hi => by rw [sV_ne _ _ _ _ (by decide)]; exact h.2.1 i hi, h.2.2⟩
theorem OnC_0 {m m' : VM} (h : OnC m m') {j : Nat} (v : Int32) (hj : j ∈ [2, 3, 7, 8]) : OnC m (sV m' 0 j v) := ⟨fun c h1 h2 h3 => by rw [sV_ne _ _ _ _ h1]; exact h.1 c h1 h2 h3, fun i hi => by rw [sV_eq, if_neg (fun z => hi (by rw [z]; exact hj))]; exact h.2.1 i hi, h.2.2⟩
theorem OnC_W {m m' : VM} (h : OnC m m') (j : Nat) (v : Int64) : OnC m (sW m' 4 j v) := ⟨h.1, h.2.1, fun c hc => by rw [sW_ne _ _ _ _ hc]; exact h.2.2 c hc⟩
/-- numbers as the reference counts -/
def nv64 (l : List Nat) : Int64 := l.foldl (fun v (c : Nat) => 10 * v + (iI (c : Int)).toInt64 - 48) 0
theorem nv_app (l : List Nat) (c : Nat) : nv64 (l ++ [c]) = 10 * nv64 l + (iI (c : Int)).toInt64 - 48 := by unfold nv64; rw [List.foldl_append]; rfl
theorem nv_eq {l : List Nat} (h : ∀ c ∈ l, isDg c = true) : nv64 l = jI (nmB 10 (fun c => c - 48) l : Int) := by
  induction l using revI with
  | nil => rfl
  | step l c ih =>
    have hc := dg_b (h c (List.mem_append_right _ (List.mem_singleton.mpr rfl)))
    rw [nv_app, ih (fun x hx => h x (List.mem_append_left _ hx)), nm_app, iI_j (by omega) (by omega)]
    show jI 10 * jI _ + jI _ - jI 48 = _
    rw [jI_mul, jI_add, jI_sub]
    congr 1
    omega
theorem nv_i {t : PD} {k : Nat} (ht : wfT t) (h : kdT t k = 2) (hd : ∀ c ∈ wdK t k, isDg c = true) : nv64 (wdK t k) = (iI (vlK t k : Int)).toInt64 := by
  have hv := vl_lt h ht
  rw [nv_eq hd, iI_j (by omega) (by omega)]
  rfl
def tpM (t : PD) (m : VM) : Prop := m.1 0 3 = iI (t.1 : Int) ∧ ∀ j, j < t.1 → m.1 1 j = iI (t.2 j : Int)
theorem Md_cutW {t : PD} {A : Nat → Nat} {σ : AM} (H : LM A σ) (ht : wfT t) {a k : Nat} (ha : a < t.1) (hk : k < 1002) {m : VM} (hT : tpM t m) : ∃ v : Int64, L_Md_cutAll_3 (A 0) (iI (k : Int)) (iI (a : Int)) (iI (a : Int)) 0 (ov 40 A m σ) = L_Md_cutAll_1 (A 0) (iI ((k + 1 : Nat) : Int)) (iI (enT t isLt a : Int)) (ov 40 A (sW (sV m 2 k (iI ((if 8 < enT t isLt a - a then 4 else 1 : Nat) : Int))) 4 k v) σ) ∧ (enT t isLt a - a ≤ 8 → v = mw64 (wdT t a (enT t isLt a))) := by
  have hn := ht.1
  have hel : enT t isLt a ≤ t.1 := en_le _ (by omega)
  have heg : a ≤ enT t isLt a := en_ge _ _ _
  have fin : ∀ v : Int64, (enT t isLt a - a ≤ 8 → v = mw64 (wdT t a (enT t isLt a))) → ∃ v' : Int64, L_Md_cutAll_5 (A 0) (iI (k : Int)) (iI (enT t isLt a : Int)) (iI (a : Int)) v (ov 40 A m σ) = L_Md_cutAll_1 (A 0) (iI ((k + 1 : Nat) : Int)) (iI (enT t isLt a : Int)) (ov 40 A (sW (sV m 2 k (iI ((if 8 < enT t isLt a - a then 4 else 1 : Nat) : Int))) 4 k v') σ) ∧ (enT t isLt a - a ≤ 8 → v' = mw64 (wdT t a (enT t isLt a))) := fun v hv => by
    refine ⟨v, ?_, hv⟩
    rw [E_Md_cutAll_5]
    simp (disch := omega) only [E_Md_cutAll_6, E_Md_cutAll_12, mK_0 H, mR_4 H, mK_2 H, mN_2 H, mR_6 H, mK_4 H, mN_4 H, okO_ov, aR_ov, aN_ov, gd_true, gd_in, iI_cl, Int.toNat_natCast, sI_ov H.1, sL_ov H.1, letT_eq, l_1, l_4, l_8, iI_sub, iI_lt, iI_add, iI_s]
    by_cases c : 8 < enT t isLt a - a
    · rw [if_pos (by omega), if_pos c]; rfl
    · rw [if_neg (by omega), if_neg c]; rfl
  have lp : ∀ n j v, j + n = enT t isLt a → a ≤ j → (j - a ≤ 8 → v = mw64 (wdT t a j)) → ∃ v' : Int64, L_Md_cutAll_3 (A 0) (iI (k : Int)) (iI (j : Int)) (iI (a : Int)) v (ov 40 A m σ) = L_Md_cutAll_1 (A 0) (iI ((k + 1 : Nat) : Int)) (iI (enT t isLt a : Int)) (ov 40 A (sW (sV m 2 k (iI ((if 8 < enT t isLt a - a then 4 else 1 : Nat) : Int))) 4 k v') σ) ∧ (enT t isLt a - a ≤ 8 → v' = mw64 (wdT t a (enT t isLt a))) := by
    intro n
    induction n with
    | zero =>
      intro j v hj haj hv
      obtain rfl : j = enT t isLt a := hj
      have f := fin v hv
      rw [E_Md_cutAll_3]
      by_cases c : enT t isLt a < t.1
      · have hno := en_no (p := isLt) (show a ≤ t.1 by omega) c
        have hlt := tp_lt ht c
        have hq := fun σ => q_Md_isLetter (c := t.2 (enT t isLt a)) (by omega) σ
        rw [hno] at hq
        have h2 := hT.2 _ c
        simp (disch := omega) only [mK_0 H, mR_1 H, mK_1 H, mN_1 H, okO_ov, aR_ov, aN_ov, gd_true, gd_in, iI_cl, Int.toNat_natCast, aI_ov H.1, hT.1, h2, hq, bnd_some, bZ_0, l_0, iI_lt, ↓reduceIte, ite_self]
        exact f
      · simp (disch := omega) only [mK_0 H, okO_ov, gd_true, aI_ov H.1, hT.1, iI_lt]
        rw [if_neg (by omega)]
        exact f
    | succ n ih =>
      intro j v hj haj hv
      have c : j < t.1 := by omega
      have hyes : isLt (t.2 j) = true := en_in haj (by omega)
      have hlt := tp_lt ht c
      have hq := fun σ => q_Md_isLetter (c := t.2 j) (by omega) σ
      rw [hyes] at hq
      have hr := fun σ => q_Md_rank hyes σ
      have h2 := hT.2 _ c
      rw [E_Md_cutAll_3]
      simp (disch := omega) only [E_Md_cutAll_4, mK_0 H, mR_1 H, mK_1 H, mN_1 H, okO_ov, aR_ov, aN_ov, gd_true, gd_in, iI_cl, Int.toNat_natCast, aI_ov H.1, hT.1, h2, hq, hr, bnd_some, bZ_0, l_0, l_1, l_8, iI_lt, iI_sub, iI_add, iI_s, reduceCtorEq, ↓reduceIte]
      rw [if_pos (by omega)]
      by_cases c8 : j - a < 8
      · rw [if_pos (by omega)]
        refine ih (j + 1) _ (by omega) (by omega) (fun _ => ?_)
        rw [wd_s haj, mw_app, hv (by omega)]
      · rw [if_neg (by omega)]
        exact ih (j + 1) v (by omega) (by omega) (fun z => by omega)
  exact lp (enT t isLt a - a) a 0 (by omega) (Nat.le_refl _) (fun _ => by rw [wd_0]; rfl)
theorem Md_cutN {t : PD} {A : Nat → Nat} {σ : AM} (H : LM A σ) (ht : wfT t) {a k : Nat} (ha : a < t.1) (hk : k < 1002) {m : VM} (hT : tpM t m) : ∃ v : Int64, L_Md_cutAll_7 (A 0) (iI (k : Int)) (iI (a : Int)) (iI (a : Int)) 0 (ov 40 A m σ) = L_Md_cutAll_1 (A 0) (iI ((k + 1 : Nat) : Int)) (iI (enT t isDg a : Int)) (ov 40 A (sW (sV m 2 k (iI ((if 4 < enT t isDg a - a then 4 else 2 : Nat) : Int))) 4 k v) σ) ∧ (enT t isDg a - a ≤ 4 → v = nv64 (wdT t a (enT t isDg a))) := by
  have hn := ht.1
  have hel : enT t isDg a ≤ t.1 := en_le _ (by omega)
  have heg : a ≤ enT t isDg a := en_ge _ _ _
  have fin : ∀ v : Int64, (enT t isDg a - a ≤ 4 → v = nv64 (wdT t a (enT t isDg a))) → ∃ v' : Int64, L_Md_cutAll_9 (A 0) (iI (k : Int)) (iI (enT t isDg a : Int)) (iI (a : Int)) v (ov 40 A m σ) = L_Md_cutAll_1 (A 0) (iI ((k + 1 : Nat) : Int)) (iI (enT t isDg a : Int)) (ov 40 A (sW (sV m 2 k (iI ((if 4 < enT t isDg a - a then 4 else 2 : Nat) : Int))) 4 k v') σ) ∧ (enT t isDg a - a ≤ 4 → v' = nv64 (wdT t a (enT t isDg a))) := fun v hv => by
    refine ⟨v, ?_, hv⟩
    rw [E_Md_cutAll_9]
    simp (disch := omega) only [E_Md_cutAll_10, E_Md_cutAll_12, mK_0 H, mR_4 H, mK_2 H, mN_2 H, mR_6 H, mK_4 H, mN_4 H, okO_ov, aR_ov, aN_ov, gd_true, gd_in, iI_cl, Int.toNat_natCast, sI_ov H.1, sL_ov H.1, letT_eq, l_1, l_2, l_4, iI_sub, iI_lt, iI_add, iI_s]
    by_cases c : 4 < enT t isDg a - a
    · rw [if_pos (by omega), if_pos c]; rfl
    · rw [if_neg (by omega), if_neg c]; rfl
  have lp : ∀ n j v, j + n = enT t isDg a → a ≤ j → (j - a ≤ 4 → v = nv64 (wdT t a j)) → ∃ v' : Int64, L_Md_cutAll_7 (A 0) (iI (k : Int)) (iI (j : Int)) (iI (a : Int)) v (ov 40 A m σ) = L_Md_cutAll_1 (A 0) (iI ((k + 1 : Nat) : Int)) (iI (enT t isDg a : Int)) (ov 40 A (sW (sV m 2 k (iI ((if 4 < enT t isDg a - a then 4 else 2 : Nat) : Int))) 4 k v') σ) ∧ (enT t isDg a - a ≤ 4 → v' = nv64 (wdT t a (enT t isDg a))) := by
    intro n
    induction n with
    | zero =>
      intro j v hj haj hv
      obtain rfl : j = enT t isDg a := hj
      have f := fin v hv
      rw [E_Md_cutAll_7]
      by_cases c : enT t isDg a < t.1
      · have hno := en_no (p := isDg) (show a ≤ t.1 by omega) c
        have hlt := tp_lt ht c
        have hq := fun σ => q_Md_isDigit (c := t.2 (enT t isDg a)) (by omega) σ
        rw [hno] at hq
        have h2 := hT.2 _ c
        simp (disch := omega) only [mK_0 H, mR_1 H, mK_1 H, mN_1 H, okO_ov, aR_ov, aN_ov, gd_true, gd_in, iI_cl, Int.toNat_natCast, aI_ov H.1, hT.1, h2, hq, bnd_some, bZ_0, l_0, iI_lt, ↓reduceIte, ite_self]
        exact f
      · simp (disch := omega) only [mK_0 H, okO_ov, gd_true, aI_ov H.1, hT.1, iI_lt]
        rw [if_neg (by omega)]
        exact f
    | succ n ih =>
      intro j v hj haj hv
      have c : j < t.1 := by omega
      have hyes : isDg (t.2 j) = true := en_in haj (by omega)
      have hlt := tp_lt ht c
      have hq := fun σ => q_Md_isDigit (c := t.2 j) (by omega) σ
      rw [hyes] at hq
      have h2 := hT.2 _ c
      rw [E_Md_cutAll_7]
      simp (disch := omega) only [E_Md_cutAll_8, mK_0 H, mR_1 H, mK_1 H, mN_1 H, okO_ov, aR_ov, aN_ov, gd_true, gd_in, iI_cl, Int.toNat_natCast, aI_ov H.1, hT.1, h2, hq, bnd_some, bZ_0, l_0, l_1, l_4, iI_lt, iI_sub, iI_add, iI_s, reduceCtorEq, ↓reduceIte]
      rw [if_pos (by omega)]
      by_cases c8 : j - a < 4
      · rw [if_pos (by omega)]
        refine ih (j + 1) _ (by omega) (by omega) (fun _ => ?_)
        rw [wd_s haj, nv_app, hv (by omega)]
      · rw [if_neg (by omega)]
        exact ih (j + 1) v (by omega) (by omega) (fun z => by omega)
  exact lp (enT t isDg a - a) a 0 (by omega) (Nat.le_refl _) (fun _ => by rw [wd_0]; rfl)
