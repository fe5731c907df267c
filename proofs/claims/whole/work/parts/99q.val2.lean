/-! ===== the class's formulas, whole; the reference's ===== -/
theorem Tw_val {n : Nat} {A : Nat → Nat} {σ : AM} (H : LC A σ) (hI : Inj n A) (hn : 68 ≤ n) {rc : Nat} (hrc : rc < n) (hrk : okO σ (A rc) 101 = true) (hrn : aN σ (A rc) = 6) (hr16 : rc ≠ 16) {m : VM} {line s : Nat} (hl5 : line < 5) {l : List Nat} (hs : m.1 13 line = iI (s : Int)) (he : m.1 14 line = iI ((s + l.length : Nat) : Int)) (hco : ∀ j, j < l.length → m.1 12 (s + j) = iI (l.getD j 0 : Int)) (hb : s + l.length ≤ 1000) {T : Nat} (hT : T ≤ 6) (hok : okCd T 0 l 1) (wh : Int32) : ∃ m' : VM, M_Tw_value (A 10) (iI (line : Int)) (A rc) wh (ov n A m σ) = some (vaF (m.1 rc) wh l, ov n A m' σ) ∧ On1 16 m m' := by
  have lp : ∀ r i (S : SK) mm, i + r.length = s + l.length → (∀ j, j < r.length → m.1 12 (i + j) = iI (r.getD j 0 : Int)) → okCd T S.1 r 1 → S.1 ≤ 32 → On1 16 m mm → Skk 16 S mm → ∃ m' : VM, L_Tw_value_1 (A 10) (iI (line : Int)) (A rc) wh (iI (S.1 : Int)) (iI (i : Int)) (ov n A mm σ) = some ((ruV (m.1 rc) wh S r).2 0, ov n A m' σ) ∧ On1 16 m m' := by
    intro r
    induction r with
    | nil =>
      intro i S mm hi hc hok hS hO hK
      have hi : i + 0 = s + l.length := hi
      have hS1 : S.1 = 1 := hok
      refine ⟨mm, ?_, hO⟩
      have e14 : mm.1 14 line = iI ((s + l.length : Nat) : Int) := by rw [hO.1 14 (by decide)]; exact he
      have e0 : mm.1 16 0 = S.2 0 := hK 0 (by omega)
      rw [val_e H hI hn (A rc) hl5 hb (by omega) (by omega) e14, e0]
      rfl
    | cons c r ih =>
      intro i S mm hi hc hok hS hO hK
      have hi : i + (r.length + 1) = s + l.length := hi
      have e14 : mm.1 14 line = iI ((s + l.length : Nat) : Int) := by rw [hO.1 14 (by decide)]; exact he
      have e12 : mm.1 12 i = iI (c : Int) := by rw [hO.1 12 (by decide)]; exact hc 0 (by show 0 < r.length + 1; omega)
      have hc2 : ∀ j, j < r.length → m.1 12 (i + 1 + j) = iI (r.getD j 0 : Int) := fun j hj => by
        have := hc (j + 1) (by show j + 1 < r.length + 1; omega)
        rw [show i + 1 + j = i + (j + 1) by omega]; exact this
      have erc : mm.1 rc = m.1 rc := hO.1 rc hr16
      have hh := st_h (f := m.1 rc) (wh := wh) (S := S) (c := c)
      have go : ∀ mm', On1 16 m mm' → Skk 16 (stV (m.1 rc) wh S c) mm' → okCd T (stV (m.1 rc) wh S c).1 r 1 → (stV (m.1 rc) wh S c).1 ≤ 32 → ∃ m' : VM, L_Tw_value_1 (A 10) (iI (line : Int)) (A rc) wh (iI ((stV (m.1 rc) wh S c).1 : Int)) (iI ((i + 1 : Nat) : Int)) (ov n A mm' σ) = some ((ruV (m.1 rc) wh S (c :: r)).2 0, ov n A m' σ) ∧ On1 16 m m' := fun mm' o1 o2 o3 o4 => ih (i + 1) (stV (m.1 rc) wh S c) mm' (by omega) hc2 o3 o4 o1 o2
      rcases okCd_c hok with ⟨h1, h2, h3, h4⟩ | ⟨h1, h2, h3⟩ | ⟨h1, h2, h3, h4⟩
      · rw [if_pos h1] at hh
        have g := go _ (On1_V hO S.1 (opV (m.1 rc) wh c)) (Skk_op hK h1) (by rw [hh]; exact h4) (by omega)
        rw [hh] at g
        rw [val_o H hI hn hrc hrk hrn hl5 hb (by omega) e14 e12 h1 h2 hT h3 wh, erc]
        exact g
      · rw [if_neg (by omega), if_pos h1] at hh
        subst h1
        have g := go _ (On1_V hO (S.1 - 1) (if S.2 (S.1 - 1) = iI 0 then iI 1 else iI 0)) (Skk_not hK) (by rw [hh]; exact h3) (by omega)
        rw [hh] at g
        rw [val_n H hI hn (A rc) hl5 hb (by omega) e14 e12 h2 hS wh, hK (S.1 - 1) (by omega)]
        exact g
      · rw [if_neg (by omega), if_neg (by omega)] at hh
        have g := go _ (On1_V hO (S.1 - 2) (jnV c (S.2 (S.1 - 2)) (S.2 (S.1 - 1)))) (Skk_jn hK h1 h2 h3) (by rw [hh]; exact h4) (by omega)
        rw [hh] at g
        rw [val_j H hI hn (A rc) hl5 hb (by omega) e14 e12 h1 h2 h3 hS wh, hK (S.1 - 1) (by omega), hK (S.1 - 2) (by omega)]
        exact g
  obtain ⟨m', e, o⟩ := lp l s (0, fun _ => iI 0) (sV m 16 0 (iI 0)) rfl hco hok (Nat.zero_le _) (On1_V (On1_r _ _) _ _) (fun j hj => absurd hj (Nat.not_lt_zero j))
  replace e : L_Tw_value_1 (A 10) (iI (line : Int)) (A rc) wh (iI 0) (iI (s : Int)) (ov n A (sV m 16 0 (iI 0)) σ) = some (vaF (m.1 rc) wh l, ov n A m' σ) := e
  refine ⟨m', ?_, o⟩
  have e13 : (sV m 16 0 (iI 0)).1 13 line = iI (s : Int) := by rw [sV_ne _ _ _ _ (by decide)]; exact hs
  unfold M_Tw_value
  rw [E_Tw_value_0]
  simp (disch := omega) only [cK_10 H, cR_10_2 H, cK_13 H, cN_13 H, cR_10_5 H, cK_16 H, cN_16 H, okO_ov, aR_ov, aN_ov, gd_true, gd_in, iI_cl, Int.toNat_natCast, Int.reduceToNat, aI_ov hI, sI_ov hI, letT_eq, e13, l_0, e, mw_ov]
theorem wor_e {A : Nat → Nat} {σ : AM} (H : LM A σ) {mm : VM} {i : Nat} (hi : i < 2200) (e8 : mm.1 8 i = iI 0) (h : Int32) : L_Md_worthAt_1 (A 0) h (iI (i : Int)) (ov 40 A mm σ) = some (mm.1 11 0, (ov 40 A mm σ)) := by
  have c1 : iI 0 = (0 : Int32) := rfl
  rw [E_Md_worthAt_1, okO_ov, aR_ov, aN_ov, mK_0 H, gd_true, mR_20 H, mK_8 H, gd_true, mN_8 H, gd_in (by omega) (by omega) (by omega), iI_cl (by omega) (by omega), Int.toNat_natCast, aI_ov H.1 _ _ (by omega), e8, if_pos c1, mR_25 H, mK_11 H, gd_true, mN_11 H, l_0, gd_in (by omega) (by omega) (by omega), iI_cl (by omega) (by omega), aI_ov H.1 _ _ (by omega)]
  rfl
theorem wor_o {A : Nat → Nat} {σ : AM} (H : LM A σ) {mm : VM} {i c h T : Nat} (hi : i < 2200) (e8 : mm.1 8 i = iI (opR c : Int)) (e9 : mm.1 9 i = iI (agR c : Int)) (hc : 8 ≤ c) (hh : h < 1100) (hT : T ≤ 6) (hB : cdB T c) : L_Md_worthAt_1 (A 0) (iI (h : Int)) (iI (i : Int)) (ov 40 A mm σ) = L_Md_worthAt_1 (A 0) (iI ((h + 1 : Nat) : Int)) (iI ((i + 1 : Nat) : Int)) (ov 40 A (sV mm 11 h (opV (mm.1 10) (mm.1 10 6) c)) σ) := by
  unfold cdB at hB
  have l2 : iI (h : Int) + (1 : Int32) = iI ((h + 1 : Nat) : Int) := by rw [l_1, iI_add, iI_s]
  have l3 : iI (i : Int) + (1 : Int32) = iI ((i + 1 : Nat) : Int) := by rw [l_1, iI_add, iI_s]
  have fin : ∀ v : Int32, L_Md_worthAt_3 (A 0) (iI (h : Int)) (iI (i : Int)) (A 11) (iI (h : Int)) v (ov 40 A mm σ) = L_Md_worthAt_1 (A 0) (iI ((h + 1 : Nat) : Int)) (iI ((i + 1 : Nat) : Int)) (ov 40 A (sV mm 11 h v) σ) := fun v => by
    rw [E_Md_worthAt_3, okO_ov, mK_11 H, gd_true, aN_ov, mN_11 H, gd_in (by omega) (by omega) (by omega), letT_eq, iI_cl (by omega) (by omega), Int.toNat_natCast, sI_ov H.1 _ _ (by omega), E_Md_worthAt_5, l2, l3]
  by_cases c32 : 32 ≤ c
  · have ho : opR c = 1 := by
      unfold opR
      rw [if_neg (by omega), if_neg (by omega), if_neg (by omega), if_neg (by omega), if_neg (by omega), if_neg (by omega), if_neg (by omega), if_neg (by omega), if_neg (by omega), if_neg (by omega)]
    have ha : agR c = c - 32 := by
      unfold agR
      rw [if_neg (by omega), if_neg (by omega), if_neg (by omega), if_neg (by omega)]
    rw [ho] at e8
    rw [ha] at e9
    replace e8 : mm.1 8 i = iI 1 := e8
    have hv : opV (mm.1 10) (mm.1 10 6) c = iI ((c - 32 : Nat) : Int) := if_pos c32
    have c1 : ¬ iI 1 = (0 : Int32) := by decide
    have c2 : iI 1 = (1 : Int32) := by decide
    rw [hv, E_Md_worthAt_1, okO_ov, aR_ov, aN_ov, mK_0 H, gd_true, mR_20 H, mK_8 H, gd_true, mN_8 H, gd_in (by omega) (by omega) (by omega), iI_cl (by omega) (by omega), Int.toNat_natCast, aI_ov H.1 _ _ (by omega), e8, if_neg c1, letT_eq, if_pos c2, E_Md_worthAt_2, okO_ov, aR_ov, aN_ov, mK_0 H, gd_true, mR_25 H, mK_11 H, gd_true, if_pos c2, mR_21 H, mK_9 H, gd_true, mN_9 H, gd_in (by omega) (by omega) (by omega), iI_cl (by omega) (by omega), Int.toNat_natCast, aI_ov H.1 _ _ (by omega), e9, fin]
  · have hag : agR c ≤ 6 := by
      unfold agR
      rw [if_neg (by omega)]
      by_cases c8 : c = 8
      · rw [if_pos c8]; omega
      · rw [if_neg c8, if_neg (by omega), if_pos (by omega)]; omega
    have ho : opR c = 2 := by
      unfold opR
      rw [if_neg (by omega), if_neg (by omega), if_neg (by omega), if_neg (by omega), if_neg (by omega), if_neg (by omega), if_neg (by omega), if_neg (by omega), if_neg (by omega), if_pos (by omega)]
    have hv : opV (mm.1 10) (mm.1 10 6) c = mm.1 10 (agR c) := by
      unfold opV agR
      rw [if_neg c32]
      by_cases c8 : c = 8
      · rw [if_neg (by omega), if_neg (by omega), if_pos c8]
      · rw [if_pos (by omega), if_neg (by omega), if_neg c8, if_neg (by omega), if_pos (by omega)]
    rw [ho] at e8
    replace e8 : mm.1 8 i = iI 2 := e8
    have c1 : ¬ iI 2 = (0 : Int32) := by decide
    have c2 : ¬ iI 2 = (1 : Int32) := by decide
    have c3 : iI 2 = (2 : Int32) := by decide
    rw [hv, E_Md_worthAt_1, okO_ov, aR_ov, aN_ov, mK_0 H, gd_true, mR_20 H, mK_8 H, gd_true, mN_8 H, gd_in (by omega) (by omega) (by omega), iI_cl (by omega) (by omega), Int.toNat_natCast, aI_ov H.1 _ _ (by omega), e8, if_neg c1, letT_eq, if_neg c2, if_pos c3, E_Md_worthAt_2, okO_ov, aR_ov, aN_ov, mK_0 H, gd_true, mR_25 H, mK_11 H, gd_true, if_neg c2, mR_24 H, mK_10 H, gd_true, mR_21 H, mK_9 H, gd_true, mN_9 H, gd_in (by omega) (by omega) (by omega), iI_cl (by omega) (by omega), Int.toNat_natCast, aI_ov H.1 _ _ (by omega), e9, mN_10 H, gd_in (by omega) (by omega) (by omega), iI_cl (by omega) (by omega), Int.toNat_natCast, aI_ov H.1 _ _ (by omega), fin]
theorem wor_n {A : Nat → Nat} {σ : AM} (H : LM A σ) {mm : VM} {i h : Nat} (hi : i < 2200) (e8 : mm.1 8 i = iI 3) (hh1 : 1 ≤ h) (hh : h < 1100) : L_Md_worthAt_1 (A 0) (iI (h : Int)) (iI (i : Int)) (ov 40 A mm σ) = L_Md_worthAt_1 (A 0) (iI (h : Int)) (iI ((i + 1 : Nat) : Int)) (ov 40 A (sV mm 11 (h - 1) (if mm.1 11 (h - 1) = iI 0 then iI 1 else iI 0)) σ) := by
  have l3 : iI (i : Int) + (1 : Int32) = iI ((i + 1 : Nat) : Int) := by rw [l_1, iI_add, iI_s]
  have e1 : (h : Int) - 1 = ((h - 1 : Nat) : Int) := by omega
  have z1 : iI (h : Int) - (1 : Int32) = iI ((h - 1 : Nat) : Int) := by rw [l_1, iI_sub]; exact congrArg iI e1
  have fin : ∀ v : Int32, L_Md_worthAt_4 (A 0) (iI (h : Int)) (iI (i : Int)) (A 11) (iI ((h - 1 : Nat) : Int)) v (ov 40 A mm σ) = L_Md_worthAt_1 (A 0) (iI (h : Int)) (iI ((i + 1 : Nat) : Int)) (ov 40 A (sV mm 11 (h - 1) v) σ) := fun v => by
    rw [E_Md_worthAt_4, okO_ov, mK_11 H, gd_true, aN_ov, mN_11 H, gd_in (by omega) (by omega) (by omega), letT_eq, iI_cl (by omega) (by omega), Int.toNat_natCast, sI_ov H.1 _ _ (by omega), E_Md_worthAt_5, l3]
  have c1 : ¬ iI 3 = (0 : Int32) := by decide
  have c2 : ¬ iI 3 = (1 : Int32) := by decide
  have c3 : ¬ iI 3 = (2 : Int32) := by decide
  have c4 : iI 3 = (3 : Int32) := by decide
  rw [E_Md_worthAt_1, okO_ov, aR_ov, aN_ov, mK_0 H, gd_true, mR_20 H, mK_8 H, gd_true, mN_8 H, gd_in (by omega) (by omega) (by omega), iI_cl (by omega) (by omega), Int.toNat_natCast, aI_ov H.1 _ _ (by omega), e8, if_neg c1, letT_eq, if_neg c2, if_neg c3, if_pos c4, z1, mR_25 H, mK_11 H, gd_true, mN_11 H, gd_in (by omega) (by omega) (by omega), iI_cl (by omega) (by omega), Int.toNat_natCast, aI_ov H.1 _ _ (by omega), fin, fin, l_0, l_1]
  by_cases y : mm.1 11 (h - 1) = iI 0
  · rw [if_pos y, if_pos y]
  · rw [if_neg y, if_neg y]
theorem wor_j {A : Nat → Nat} {σ : AM} (H : LM A σ) {mm : VM} {i c h : Nat} (hi : i < 2200) (e8 : mm.1 8 i = iI (opR c : Int)) (h1 : 1 ≤ c) (h2 : c ≤ 7) (hh1 : 2 ≤ h) (hh : h < 1100) : L_Md_worthAt_1 (A 0) (iI (h : Int)) (iI (i : Int)) (ov 40 A mm σ) = L_Md_worthAt_1 (A 0) (iI ((h - 1 : Nat) : Int)) (iI ((i + 1 : Nat) : Int)) (ov 40 A (sV mm 11 (h - 2) (jnV c (mm.1 11 (h - 2)) (mm.1 11 (h - 1)))) σ) := by
  have qj := q_both h1 h2 (mm.1 11 (h - 2)) (mm.1 11 (h - 1)) (ov 40 A mm σ)
  have hop := op_17 h1 h2
  have hob : 4 ≤ opR c ∧ opR c ≤ 10 := by rw [hop]; repeat (first | omega | split)
  have l3 : iI (i : Int) + (1 : Int32) = iI ((i + 1 : Nat) : Int) := by rw [l_1, iI_add, iI_s]
  have e1 : (h : Int) + -1 = ((h - 1 : Nat) : Int) := by omega
  have e2 : ((h - 1 : Nat) : Int) - 1 = ((h - 2 : Nat) : Int) := by omega
  have z1 : iI (h : Int) + ((-1) : Int32) = iI ((h - 1 : Nat) : Int) := by rw [l_1, iI_neg, iI_add]; exact congrArg iI e1
  have z2 : iI ((h - 1 : Nat) : Int) - (1 : Int32) = iI ((h - 2 : Nat) : Int) := by rw [l_1, iI_sub]; exact congrArg iI e2
  have c1 : ¬ iI (opR c : Int) = (0 : Int32) := by rw [l_0, iI_eq (by omega) (by omega) (by omega) (by omega)]; omega
  have c2 : ¬ iI (opR c : Int) = (1 : Int32) := by rw [l_1, iI_eq (by omega) (by omega) (by omega) (by omega)]; omega
  have c3 : ¬ iI (opR c : Int) = (2 : Int32) := by rw [l_2, iI_eq (by omega) (by omega) (by omega) (by omega)]; omega
  have c4 : ¬ iI (opR c : Int) = (3 : Int32) := by rw [l_3, iI_eq (by omega) (by omega) (by omega) (by omega)]; omega
  rw [E_Md_worthAt_1, okO_ov, aR_ov, aN_ov, mK_0 H, gd_true, mR_20 H, mK_8 H, gd_true, mN_8 H, gd_in (by omega) (by omega) (by omega), iI_cl (by omega) (by omega), Int.toNat_natCast, aI_ov H.1 _ _ (by omega), e8, if_neg c1, letT_eq, if_neg c2, if_neg c3, if_neg c4, z1, z2, mR_25 H, mK_11 H, gd_true, mN_11 H, gd_in (by omega) (by omega) (by omega), gd_in (by omega) (by omega) (by omega), iI_cl (by omega) (by omega), Int.toNat_natCast, iI_cl (by omega) (by omega), Int.toNat_natCast, aI_ov H.1 _ _ (by omega), aI_ov H.1 _ _ (by omega), qj, bnd_some, okO_ov, mK_11 H, gd_true, aN_ov, mN_11 H, gd_in (by omega) (by omega) (by omega), letT_eq, sI_ov H.1 _ _ (by omega), E_Md_worthAt_5, l3]
theorem Md_wor {A : Nat → Nat} {σ : AM} (H : LM A σ) {m : VM} {s : Nat} {l : List Nat} (hco : ∀ j, j < l.length → m.1 8 (s + j) = iI (opR (l.getD j 0) : Int) ∧ m.1 9 (s + j) = iI (agR (l.getD j 0) : Int)) (hend : m.1 8 (s + l.length) = iI 0) (hb : s + l.length < 2200) {T : Nat} (hT : T ≤ 6) (hok : okCd T 0 l 1) : ∃ m' : VM, M_Md_worthAt (A 0) (iI (s : Int)) (ov 40 A m σ) = some (vaF (m.1 10) (m.1 10 6) l, (ov 40 A (m') σ)) ∧ On1 11 m m' := by
  have lp : ∀ r i (S : SK) mm, i + r.length = s + l.length → (∀ j, j < r.length → m.1 8 (i + j) = iI (opR (r.getD j 0) : Int) ∧ m.1 9 (i + j) = iI (agR (r.getD j 0) : Int)) → okCd T S.1 r 1 → S.1 ≤ 32 → On1 11 m mm → Skk 11 S mm → ∃ m' : VM, L_Md_worthAt_1 (A 0) (iI (S.1 : Int)) (iI (i : Int)) (ov 40 A mm σ) = some ((ruV (m.1 10) (m.1 10 6) S r).2 0, (ov 40 A (m') σ)) ∧ On1 11 m m' := by
    intro r
    induction r with
    | nil =>
      intro i S mm hi hc hok hS hO hK
      have hi : i + 0 = s + l.length := hi
      have hS1 : S.1 = 1 := hok
      refine ⟨mm, ?_, hO⟩
      have e0 : mm.1 11 0 = S.2 0 := hK 0 (by omega)
      rw [wor_e H (by omega) (by rw [hO.1 8 (by decide), show i = s + l.length by omega]; exact hend), e0]
      rfl
    | cons c r ih =>
      intro i S mm hi hc hok hS hO hK
      have hi : i + (r.length + 1) = s + l.length := hi
      have hc0 := hc 0 (by show 0 < r.length + 1; omega)
      have e8 : mm.1 8 i = iI (opR c : Int) := by rw [hO.1 8 (by decide)]; exact hc0.1
      have e9 : mm.1 9 i = iI (agR c : Int) := by rw [hO.1 9 (by decide)]; exact hc0.2
      have hc2 : ∀ j, j < r.length → m.1 8 (i + 1 + j) = iI (opR (r.getD j 0) : Int) ∧ m.1 9 (i + 1 + j) = iI (agR (r.getD j 0) : Int) := fun j hj => by
        have := hc (j + 1) (by show j + 1 < r.length + 1; omega)
        rw [show i + 1 + j = i + (j + 1) by omega]; exact this
      have erc : mm.1 10 = m.1 10 := hO.1 10 (by decide)
      have hh := st_h (f := m.1 10) (wh := m.1 10 6) (S := S) (c := c)
      have go : ∀ mm', On1 11 m mm' → Skk 11 (stV (m.1 10) (m.1 10 6) S c) mm' → okCd T (stV (m.1 10) (m.1 10 6) S c).1 r 1 → (stV (m.1 10) (m.1 10 6) S c).1 ≤ 32 → ∃ m' : VM, L_Md_worthAt_1 (A 0) (iI ((stV (m.1 10) (m.1 10 6) S c).1 : Int)) (iI ((i + 1 : Nat) : Int)) (ov 40 A (mm') σ) = some ((ruV (m.1 10) (m.1 10 6) S (c :: r)).2 0, (ov 40 A (m') σ)) ∧ On1 11 m m' := fun mm' o1 o2 o3 o4 => ih (i + 1) (stV (m.1 10) (m.1 10 6) S c) mm' (by omega) hc2 o3 o4 o1 o2
      rcases okCd_c hok with ⟨h1, h2, h3, h4⟩ | ⟨h1, h2, h3⟩ | ⟨h1, h2, h3, h4⟩
      · rw [if_pos h1] at hh
        have g := go _ (On1_V hO S.1 (opV (m.1 10) (m.1 10 6) c)) (Skk_op hK h1) (by rw [hh]; exact h4) (by omega)
        rw [hh] at g
        rw [wor_o H (by omega) e8 e9 h1 (by omega) hT h3, erc]
        exact g
      · rw [if_neg (by omega), if_pos h1] at hh
        subst h1
        have g := go _ (On1_V hO (S.1 - 1) (if S.2 (S.1 - 1) = iI 0 then iI 1 else iI 0)) (Skk_not hK) (by rw [hh]; exact h3) (by omega)
        rw [hh] at g
        rw [wor_n H (by omega) e8 h2 (by omega), hK (S.1 - 1) (by omega)]
        exact g
      · rw [if_neg (by omega), if_neg (by omega)] at hh
        have g := go _ (On1_V hO (S.1 - 2) (jnV c (S.2 (S.1 - 2)) (S.2 (S.1 - 1)))) (Skk_jn hK h1 h2 h3) (by rw [hh]; exact h4) (by omega)
        rw [hh] at g
        rw [wor_j H (by omega) e8 h1 h2 h3 (by omega), hK (S.1 - 1) (by omega), hK (S.1 - 2) (by omega)]
        exact g
  obtain ⟨m', e, o⟩ := lp l s (0, fun _ => iI 0) m rfl hco hok (Nat.zero_le _) (On1_r _ _) (fun j hj => absurd hj (Nat.not_lt_zero j))
  replace e : L_Md_worthAt_1 (A 0) (iI 0) (iI (s : Int)) (ov 40 A m σ) = some (vaF (m.1 10) (m.1 10 6) l, (ov 40 A (m') σ)) := e
  refine ⟨m', ?_, o⟩
  unfold M_Md_worthAt
  rw [E_Md_worthAt_0, l_0, e, mw_ov]
