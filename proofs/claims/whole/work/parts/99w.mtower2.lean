/-! ===== the reference takes what was told ===== -/
/-- what taking a tower leaves: tape's signs, book, marks' counts, plate's things, words -/
def OnK (m m' : VM) : Prop := (∀ c, c ∈ [1, 21, 22, 23, 24, 36, 38, 39] → m'.1 c = m.1 c) ∧ m'.2 5 = m.2 5 ∧ m'.1 0 2 = m.1 0 2
theorem OnK_t {a b c : VM} (h : OnK a b) (k : OnK b c) : OnK a c := ⟨fun i hi => (k.1 i hi).trans (h.1 i hi), k.2.1.trans h.2.1, k.2.2.trans h.2.2⟩
theorem p_takes {t : PD} {x : XS} {A : Nat → Nat} {σ : AM} (H : LM A σ) (hx : xOk t x) (hf : fOk x) (hp : (mxS x + 1) ^ (xsN x).length ≤ 16384) {m : VM} {c : List Nat} (hR : RTs x c m) (hc : c.length ≤ 1005) : ∃ m' : VM, M_Md_takesTower (A 0) (ov 40 A m σ) = some ((), (ov 40 A (m') σ)) ∧ MT (twD x) m' ∧ OnK m m' ∧ m'.1 0 37 = iI 0 ∧ m'.1 0 42 = iI 0 ∧ m'.1 0 70 = iI 0 ∧ m'.1 0 72 = iI 0 ∧ ∀ j, j < 4 → m'.1 37 j = iI 0 := by
  obtain ⟨⟨⟨r16, r17, r18⟩, rn, ra, rc0, rc1⟩, rco, rcc⟩ := hR
  obtain ⟨x1, x2, x3, x4, x5⟩ := hx
  have l0 : ∀ k : Nat, iI (k : Int) + (1 : Int32) = iI ((k + 1 : Nat) : Int) := fun k => by rw [l_1, iI_add, iI_s]
  have h15 := rn.1
  have hlt16 := oI_lt (o := xsM x) (fun v hv => by have := x3 v hv; omega)
  have hlt17 := oI_lt (o := xsB x) (fun v hv => by have := x4 v hv; omega)
  -- the fields
  have s0 : L_Md_takesTower_0 (A 0) (ov 40 A m σ) = L_Md_takesTower_3 (A 0) (iI 0) (ov 40 A (sV (sV (sV (sV m 0 10 (iI ((xsN x).length : Int))) 0 11 (iI (mxS x : Int))) 0 12 (iI ((xsB x).getD 10 : Int))) 0 13 (iI ((xsA x).length : Int))) σ) := by
    have a16 : (sV m 0 10 (iI ((xsN x).length : Int))).1 0 16 = oI (xsM x) := by simp (disch := decide) only [sV_eq, sW_eq, sV_ne, sW_ne, sV_2, sW_1, Nat.reduceEqDiff, ↓reduceIte]; exact r16
    have e1 : L_Md_takesTower_0 (A 0) (ov 40 A m σ) = L_Md_takesTower_1 (A 0) (A 0) (iI (mxS x : Int)) (ov 40 A (sV m 0 10 (iI ((xsN x).length : Int))) σ) := by
      rw [E_Md_takesTower_0, okO_ov, mK_0 H, gd_true, aI_ov H.1 _ _ (by omega), h15, sI_ov H.1 _ _ (by omega), letT_eq, aI_ov H.1 _ _ (by omega), a16]
      unfold mxS
      cases q : xsM x with
      | none =>
        rw [if_pos (show oI none < (0 : Int32) by decide)]
        have : (3 : Int32) = iI (((none : Option Nat).getD 3 : Nat) : Int) := by decide
        rw [this]
      | some v =>
        have := x3 v q
        rw [if_neg (show ¬ oI (some v) < (0 : Int32) from fun y => by
          replace y : iI (v : Int) < iI 0 := y
          rw [iI_lt (by omega) (by omega) (by omega) (by omega)] at y; omega)]
        rfl
    have a17 : (sV (sV m 0 10 (iI ((xsN x).length : Int))) 0 11 (iI (mxS x : Int))).1 0 17 = oI (xsB x) := by simp (disch := decide) only [sV_eq, sW_eq, sV_ne, sW_ne, sV_2, sW_1, Nat.reduceEqDiff, ↓reduceIte]; exact r17
    have e2 : L_Md_takesTower_1 (A 0) (A 0) (iI (mxS x : Int)) (ov 40 A (sV m 0 10 (iI ((xsN x).length : Int))) σ) = L_Md_takesTower_2 (A 0) (A 0) (iI ((xsB x).getD 10 : Int)) (ov 40 A (sV (sV m 0 10 (iI ((xsN x).length : Int))) 0 11 (iI (mxS x : Int))) σ) := by
      rw [E_Md_takesTower_1, okO_ov, mK_0 H, gd_true, sI_ov H.1 _ _ (by omega), letT_eq, okO_ov, mK_0 H, gd_true, aI_ov H.1 _ _ (by omega), a17]
      cases q : xsB x with
      | none =>
        rw [if_pos (show oI none < (0 : Int32) by decide)]
        have : (10 : Int32) = iI (((none : Option Nat).getD 10 : Nat) : Int) := by decide
        rw [this]
      | some v =>
        have := x4 v q
        rw [if_neg (show ¬ oI (some v) < (0 : Int32) from fun y => by
          replace y : iI (v : Int) < iI 0 := y
          rw [iI_lt (by omega) (by omega) (by omega) (by omega)] at y; omega)]
        rfl
    have a18 : (sV (sV (sV m 0 10 (iI ((xsN x).length : Int))) 0 11 (iI (mxS x : Int))) 0 12 (iI ((xsB x).getD 10 : Int))).1 0 18 = iI ((xsA x).length : Int) := by simp (disch := decide) only [sV_eq, sW_eq, sV_ne, sW_ne, sV_2, sW_1, Nat.reduceEqDiff, ↓reduceIte]; exact r18
    rw [e1, e2, E_Md_takesTower_2, okO_ov, mK_0 H, gd_true, sI_ov H.1 _ _ (by omega), letT_eq, okO_ov, mK_0 H, gd_true, aI_ov H.1 _ _ (by omega), a18, sI_ov H.1 _ _ (by omega), letT_eq, l_0]
  -- the lines
  have s1 : ∃ m1 : VM, L_Md_takesTower_3 (A 0) (iI ((0 : Nat) : Int)) (ov 40 A (sV (sV (sV (sV m 0 10 (iI ((xsN x).length : Int))) 0 11 (iI (mxS x : Int))) 0 12 (iI ((xsB x).getD 10 : Int))) 0 13 (iI ((xsA x).length : Int))) σ) = L_Md_takesTower_4 (A 0) (iI 0) (ov 40 A m1 σ) ∧ (∀ q, q ≠ 0 → q ≠ 6 → m1.1 q = m.1 q) ∧ (∀ j, j ∉ [10, 11, 12, 13] → m1.1 0 j = m.1 0 j) ∧ m1.2 = m.2 ∧ (m1.1 0 10 = iI ((xsN x).length : Int) ∧ m1.1 0 11 = iI (mxS x : Int) ∧ m1.1 0 12 = iI ((xsB x).getD 10 : Int) ∧ m1.1 0 13 = iI ((xsA x).length : Int)) ∧ ∀ j, j < 5 → m1.1 6 j = m.1 6 (5 + j) := by
    refine up_loopI (fun k mm => L_Md_takesTower_3 (A 0) (iI (k : Int)) (ov 40 A mm σ)) (fun k mm => (∀ q, q ≠ 0 → q ≠ 6 → mm.1 q = m.1 q) ∧ (∀ j, j ∉ [10, 11, 12, 13] → mm.1 0 j = m.1 0 j) ∧ mm.2 = m.2 ∧ (mm.1 0 10 = iI ((xsN x).length : Int) ∧ mm.1 0 11 = iI (mxS x : Int) ∧ mm.1 0 12 = iI ((xsB x).getD 10 : Int) ∧ mm.1 0 13 = iI ((xsA x).length : Int)) ∧ ∀ j, mm.1 6 j = if j < k then m.1 6 (5 + j) else m.1 6 j) (fun X => ∃ m1 : VM, X = L_Md_takesTower_4 (A 0) (iI 0) (ov 40 A m1 σ) ∧ (∀ q, q ≠ 0 → q ≠ 6 → m1.1 q = m.1 q) ∧ (∀ j, j ∉ [10, 11, 12, 13] → m1.1 0 j = m.1 0 j) ∧ m1.2 = m.2 ∧ (m1.1 0 10 = iI ((xsN x).length : Int) ∧ m1.1 0 11 = iI (mxS x : Int) ∧ m1.1 0 12 = iI ((xsB x).getD 10 : Int) ∧ m1.1 0 13 = iI ((xsA x).length : Int)) ∧ ∀ j, j < 5 → m1.1 6 j = m.1 6 (5 + j)) 5 (fun k mm hk ⟨i1, i2, i3, i4, i5⟩ ih => ?_) (fun mm ⟨i1, i2, i3, i4, i5⟩ => ?_) 0 _ (Nat.zero_le _) ⟨fun q h0 _ => by rw [sV_ne _ _ _ _ h0, sV_ne _ _ _ _ h0, sV_ne _ _ _ _ h0, sV_ne _ _ _ _ h0], fun j hj => by
      simp only [List.mem_cons, List.not_mem_nil, or_false, not_or] at hj
      rw [sV_eq, if_neg hj.2.2.2, sV_eq, if_neg hj.2.2.1, sV_eq, if_neg hj.2.1, sV_eq, if_neg hj.1], rfl, ⟨by simp (disch := decide) only [sV_eq, sW_eq, sV_ne, sW_ne, sV_2, sW_1, Nat.reduceEqDiff, ↓reduceIte], by simp (disch := decide) only [sV_eq, sW_eq, sV_ne, sW_ne, sV_2, sW_1, Nat.reduceEqDiff, ↓reduceIte], by simp (disch := decide) only [sV_eq, sW_eq, sV_ne, sW_ne, sV_2, sW_1, Nat.reduceEqDiff, ↓reduceIte], by simp (disch := decide) only [sV_eq, sW_eq, sV_ne, sW_ne, sV_2, sW_1, Nat.reduceEqDiff, ↓reduceIte]⟩, fun j => by rw [if_neg (Nat.not_lt_zero j), sV_ne _ _ _ _ (by decide), sV_ne _ _ _ _ (by decide), sV_ne _ _ _ _ (by decide), sV_ne _ _ _ _ (by decide)]⟩
    · have c1 : iI (k : Int) < (5 : Int32) := by rw [l_5, iI_lt (by omega) (by omega) (by omega) (by omega)]; omega
      have z5 : (5 : Int32) + iI (k : Int) = iI ((5 + k : Nat) : Int) := by rw [l_5, iI_add]; exact congrArg iI (by omega)
      have e6 : mm.1 6 (5 + k) = m.1 6 (5 + k) := by rw [i5, if_neg (by omega)]
      show ∃ m1 : VM, L_Md_takesTower_3 _ _ _ = _ ∧ _
      have step : L_Md_takesTower_3 (A 0) (iI (k : Int)) (ov 40 A mm σ) = L_Md_takesTower_3 (A 0) (iI ((k + 1 : Nat) : Int)) (ov 40 A (sV mm 6 k (m.1 6 (5 + k))) σ) := by
        rw [E_Md_takesTower_3, if_pos c1, okO_ov, aR_ov, aN_ov, mK_0 H, gd_true, mR_14 H, mK_6 H, gd_true, z5, mN_6 H, gd_in (by omega) (by omega) (by omega), gd_in (by omega) (by omega) (by omega), iI_cl (show (0 : Int) ≤ (k : Int) by omega) (by omega), Int.toNat_natCast, iI_cl (by omega) (by omega), Int.toNat_natCast, aI_ov H.1 _ _ (by omega), e6, sI_ov H.1 _ _ (by omega), letT_eq, l0]
      rw [step]
      refine ih _ ⟨fun q h0 h6 => by rw [sV_ne _ _ _ _ h6]; exact i1 q h0 h6, fun j hj => by rw [sV_ne _ _ _ _ (by decide)]; exact i2 j hj, i3, by rw [sV_ne _ _ _ _ (by decide)]; exact i4, fun j => ?_⟩
      rw [sV_eq, i5]
      by_cases e : j = k
      · rw [if_pos e, if_pos (by omega), e]
      · rw [if_neg e]
        by_cases y : j < k
        · rw [if_pos y, if_pos (by omega)]
        · rw [if_neg y, if_neg (by omega)]
    · have c1 : ¬ iI ((5 : Nat) : Int) < (5 : Int32) := by decide
      refine ⟨mm, ?_, i1, i2, i3, i4, fun j hj => by rw [i5, if_pos hj]⟩
      show L_Md_takesTower_3 _ _ _ = _
      rw [E_Md_takesTower_3, if_neg c1, l_0]
  obtain ⟨m1, e1, a1, a2, a3, a4, a5⟩ := s1
  replace e1 : L_Md_takesTower_3 (A 0) (iI 0) _ = _ := e1
  -- the codes
  have s2 : ∃ m2 : VM, L_Md_takesTower_4 (A 0) (iI ((0 : Nat) : Int)) (ov 40 A m1 σ) = L_Md_takesTower_5 (A 0) (iI 0) (ov 40 A (sV (sV (sV (sV m2 0 37 (iI 0)) 0 42 (iI 0)) 0 70 (iI 0)) 0 72 (iI 0)) σ) ∧ (∀ q, q ≠ 8 → q ≠ 9 → m2.1 q = m1.1 q) ∧ m2.2 = m1.2 ∧ ∀ j, j < c.length → m2.1 8 j = m.1 8 (1100 + j) ∧ m2.1 9 j = m.1 9 (1100 + j) := by
    refine up_loopI (fun k mm => L_Md_takesTower_4 (A 0) (iI (k : Int)) (ov 40 A mm σ)) (fun k mm => (∀ q, q ≠ 8 → q ≠ 9 → mm.1 q = m1.1 q) ∧ mm.2 = m1.2 ∧ ∀ j, (mm.1 8 j = if j < k then m.1 8 (1100 + j) else m.1 8 j) ∧ (mm.1 9 j = if j < k then m.1 9 (1100 + j) else m.1 9 j)) (fun X => ∃ m2 : VM, X = L_Md_takesTower_5 (A 0) (iI 0) (ov 40 A (sV (sV (sV (sV m2 0 37 (iI 0)) 0 42 (iI 0)) 0 70 (iI 0)) 0 72 (iI 0)) σ) ∧ (∀ q, q ≠ 8 → q ≠ 9 → m2.1 q = m1.1 q) ∧ m2.2 = m1.2 ∧ ∀ j, j < c.length → m2.1 8 j = m.1 8 (1100 + j) ∧ m2.1 9 j = m.1 9 (1100 + j)) c.length (fun k mm hk ⟨i1, i2, i3⟩ ih => ?_) (fun mm ⟨i1, i2, i3⟩ => ?_) 0 _ (Nat.zero_le _) ⟨fun _ _ _ => rfl, rfl, fun j => ⟨by rw [if_neg (Nat.not_lt_zero j), a1 8 (by decide) (by decide)], by rw [if_neg (Nat.not_lt_zero j), a1 9 (by decide) (by decide)]⟩⟩
    · have e22 : mm.1 0 22 = iI (c.length : Int) := by rw [i1 0 (by decide) (by decide), a2 22 (by decide)]; exact rco
      have c1 : iI (k : Int) < iI (c.length : Int) := by rw [iI_lt (by omega) (by omega) (by omega) (by omega)]; omega
      have z5 : (1100 : Int32) + iI (k : Int) = iI ((1100 + k : Nat) : Int) := by rw [l_1100, iI_add]; exact congrArg iI (by omega)
      have e8 : mm.1 8 (1100 + k) = m.1 8 (1100 + k) := by rw [(i3 _).1, if_neg (by omega)]
      have e9 : (sV mm 8 k (m.1 8 (1100 + k))).1 9 (1100 + k) = m.1 9 (1100 + k) := by rw [sV_ne _ _ _ _ (by decide), (i3 _).2, if_neg (by omega)]
      show ∃ m2 : VM, L_Md_takesTower_4 _ _ _ = _ ∧ _
      have step : L_Md_takesTower_4 (A 0) (iI (k : Int)) (ov 40 A mm σ) = L_Md_takesTower_4 (A 0) (iI ((k + 1 : Nat) : Int)) (ov 40 A (sV (sV mm 8 k (m.1 8 (1100 + k))) 9 k (m.1 9 (1100 + k))) σ) := by
        rw [E_Md_takesTower_4, okO_ov, aR_ov, aN_ov, mK_0 H, gd_true, aI_ov H.1 _ _ (by omega), e22, if_pos c1, mR_20 H, mK_8 H, gd_true, z5, mN_8 H, gd_in (by omega) (by omega) (by omega), gd_in (by omega) (by omega) (by omega), iI_cl (show (0 : Int) ≤ (k : Int) by omega) (by omega), Int.toNat_natCast, iI_cl (by omega) (by omega), Int.toNat_natCast, aI_ov H.1 _ _ (by omega), e8, sI_ov H.1 _ _ (by omega), letT_eq, okO_ov, aR_ov, aN_ov, mR_21 H, mK_9 H, gd_true, mN_9 H, gd_in (by omega) (by omega) (by omega), gd_in (by omega) (by omega) (by omega), aI_ov H.1 _ _ (by omega), e9, sI_ov H.1 _ _ (by omega), letT_eq, l0]
      rw [step]
      refine ih _ ⟨fun q h8 h9 => by rw [sV_ne _ _ _ _ h9, sV_ne _ _ _ _ h8]; exact i1 q h8 h9, i2, fun j => ⟨?_, ?_⟩⟩
      · rw [sV_ne _ _ _ _ (by decide), sV_eq, (i3 j).1]
        by_cases e : j = k
        · rw [if_pos e, if_pos (by omega), e]
        · rw [if_neg e]
          by_cases y : j < k
          · rw [if_pos y, if_pos (by omega)]
          · rw [if_neg y, if_neg (by omega)]
      · rw [sV_eq, sV_ne _ _ _ _ (by decide), (i3 j).2]
        by_cases e : j = k
        · rw [if_pos e, if_pos (by omega), e]
        · rw [if_neg e]
          by_cases y : j < k
          · rw [if_pos y, if_pos (by omega)]
          · rw [if_neg y, if_neg (by omega)]
    · have e22 : mm.1 0 22 = iI (c.length : Int) := by rw [i1 0 (by decide) (by decide), a2 22 (by decide)]; exact rco
      have c1 : ¬ iI (c.length : Int) < iI (c.length : Int) := by rw [iI_lt (by omega) (by omega) (by omega) (by omega)]; omega
      refine ⟨mm, ?_, i1, i2, fun j hj => ⟨by rw [(i3 j).1, if_pos hj], by rw [(i3 j).2, if_pos hj]⟩⟩
      show L_Md_takesTower_4 _ _ _ = _
      rw [E_Md_takesTower_4, okO_ov, mK_0 H, gd_true, aI_ov H.1 _ _ (by omega), e22, if_neg c1, l_0, sI_ov H.1 _ _ (by omega), letT_eq, sI_ov H.1 _ _ (by omega), letT_eq, sI_ov H.1 _ _ (by omega), letT_eq, sI_ov H.1 _ _ (by omega), letT_eq]
  obtain ⟨m2, e2, b1, b2, b3⟩ := s2
  replace e2 : L_Md_takesTower_4 (A 0) (iI 0) _ = _ := e2
  -- the marks
  have s3 : ∃ m3 : VM, L_Md_takesTower_5 (A 0) (iI ((0 : Nat) : Int)) (ov 40 A (sV (sV (sV (sV m2 0 37 (iI 0)) 0 42 (iI 0)) 0 70 (iI 0)) 0 72 (iI 0)) σ) = (bnd (M_Md_laysAll (A 0) (ov 40 A m3 σ)) fun _ σ7 => some ((), σ7)) ∧ (∀ q, q ≠ 37 → m3.1 q = (sV (sV (sV (sV m2 0 37 (iI 0)) 0 42 (iI 0)) 0 70 (iI 0)) 0 72 (iI 0)).1 q) ∧ m3.2 = m2.2 ∧ ∀ j, j < 4 → m3.1 37 j = iI 0 := by
    refine up_loopI (fun k mm => L_Md_takesTower_5 (A 0) (iI (k : Int)) (ov 40 A mm σ)) (fun k mm => (∀ q, q ≠ 37 → mm.1 q = (sV (sV (sV (sV m2 0 37 (iI 0)) 0 42 (iI 0)) 0 70 (iI 0)) 0 72 (iI 0)).1 q) ∧ mm.2 = m2.2 ∧ ∀ j, j < k → mm.1 37 j = iI 0) (fun X => ∃ m3 : VM, X = (bnd (M_Md_laysAll (A 0) (ov 40 A m3 σ)) fun _ σ7 => some ((), σ7)) ∧ (∀ q, q ≠ 37 → m3.1 q = (sV (sV (sV (sV m2 0 37 (iI 0)) 0 42 (iI 0)) 0 70 (iI 0)) 0 72 (iI 0)).1 q) ∧ m3.2 = m2.2 ∧ ∀ j, j < 4 → m3.1 37 j = iI 0) 4 (fun k mm hk ⟨i1, i2, i3⟩ ih => ?_) (fun mm ⟨i1, i2, i3⟩ => ?_) 0 _ (Nat.zero_le _) ⟨fun _ _ => rfl, rfl, fun j hj => absurd hj (Nat.not_lt_zero j)⟩
    · have c1 : iI (k : Int) < (4 : Int32) := by rw [l_4, iI_lt (by omega) (by omega) (by omega) (by omega)]; omega
      show ∃ m3 : VM, L_Md_takesTower_5 _ _ _ = _ ∧ _
      have step : L_Md_takesTower_5 (A 0) (iI (k : Int)) (ov 40 A mm σ) = L_Md_takesTower_5 (A 0) (iI ((k + 1 : Nat) : Int)) (ov 40 A (sV mm 37 k (iI 0)) σ) := by
        rw [E_Md_takesTower_5, if_pos c1, okO_ov, aR_ov, aN_ov, mK_0 H, gd_true, mR_73 H, mK_37 H, gd_true, mN_37 H, gd_in (by omega) (by omega) (by omega), iI_cl (by omega) (by omega), Int.toNat_natCast, l_0, sI_ov H.1 _ _ (by omega), letT_eq, l0]
      rw [step]
      refine ih _ ⟨fun q hq => by rw [sV_ne _ _ _ _ hq]; exact i1 q hq, i2, fun j hj => ?_⟩
      rw [sV_eq]
      by_cases e : j = k
      · rw [if_pos e]
      · rw [if_neg e]; exact i3 j (by omega)
    · have c1 : ¬ iI ((4 : Nat) : Int) < (4 : Int32) := by decide
      refine ⟨mm, ?_, i1, i2, i3⟩
      show L_Md_takesTower_5 _ _ _ = _
      rw [E_Md_takesTower_5, if_neg c1, okO_ov, mK_0 H, gd_true]
  obtain ⟨m3, e3, d1, d2, d3⟩ := s3
  replace e3 : L_Md_takesTower_5 (A 0) (iI 0) _ = _ := e3
  have f3 : ∀ j, j ∉ [37, 42, 70, 72] → m3.1 0 j = m1.1 0 j := fun j hj => by
    simp only [List.mem_cons, List.not_mem_nil, or_false, not_or] at hj
    rw [d1 0 (by decide), sV_eq, if_neg hj.2.2.2, sV_eq, if_neg hj.2.2.1, sV_eq, if_neg hj.2.1, sV_eq, if_neg hj.1, b1 0 (by decide) (by decide)]
  have g3 : ∀ q, q ≠ 0 → q ≠ 37 → m3.1 q = m2.1 q := fun q h0 h37 => by rw [d1 q h37, sV_ne _ _ _ _ h0, sV_ne _ _ _ _ h0, sV_ne _ _ _ _ h0, sV_ne _ _ _ _ h0]
  have h6 : ∀ j, j < 5 → m3.1 6 j = m.1 6 (5 + j) := fun j hj => by rw [g3 6 (by decide) (by decide), b1 6 (by decide) (by decide)]; exact a5 j hj
  have h89 : ∀ j, j < c.length → m3.1 8 j = m.1 8 (1100 + j) ∧ m3.1 9 j = m.1 9 (1100 + j) := fun j hj => by rw [g3 8 (by decide) (by decide), g3 9 (by decide) (by decide)]; exact b3 j hj
  have cd : ∀ (l : List Nat) (s : Nat), slc c s (l ++ [9]) → cdA l s m3 := fun l s hs => by
    obtain ⟨s1, s2⟩ := hs
    rw [List.length_append, List.length_singleton] at s1 s2
    refine ⟨by omega, fun j hj => ?_, ?_⟩
    · have := s2 j (by omega)
      rw [List.getD_eq_getElem?_getD, List.getD_eq_getElem?_getD, List.getElem?_append_left hj, ← List.getD_eq_getElem?_getD, ← List.getD_eq_getElem?_getD] at this
      rw [(h89 _ (by omega)).1, (h89 _ (by omega)).2, (rcc _ (by omega)).1, (rcc _ (by omega)).2, this]
      exact ⟨rfl, rfl⟩
    · have := s2 l.length (by omega)
      rw [getD_app2] at this
      rw [(h89 _ (by omega)).1, (rcc _ (by omega)).1, this]; rfl
  have hC : TCx x m3 := by
    refine ⟨fun i hi => ?_, fun h => ?_, fun l h => ?_⟩
    · obtain ⟨s, s1, s2⟩ := ra i hi
      exact ⟨s, by rw [h6 i (by omega)]; exact s1, cd _ _ s2⟩
    · rw [h6 4 (by omega)]; exact rc0 h
    · obtain ⟨s, s1, s2⟩ := rc1 l h
      exact ⟨s, by rw [h6 4 (by omega)]; exact s1, cd _ _ s2⟩
  obtain ⟨m4, e4, o4, t4⟩ := p_laysAll H ⟨x1, x2, x3, x4, x5⟩ hf hp hC ((f3 10 (by decide)).trans a4.1) ((f3 11 (by decide)).trans a4.2.1) ((f3 12 (by decide)).trans a4.2.2.1) ((f3 13 (by decide)).trans a4.2.2.2)
  refine ⟨m4, ?_, t4, ⟨fun q hq => ?_, ?_, ?_⟩, ?_, ?_, ?_, ?_, fun j hj => ?_⟩
  · unfold M_Md_takesTower
    rw [s0, e1, e2, e3, e4, bnd_some, mw_ov]
  · have hh : ∀ q, q ∈ [1, 21, 22, 23, 24, 36, 38, 39] → q ∉ [0, 10, 11, 13, 15, 16, 17, 18, 19, 20] ∧ q ≠ 0 ∧ q ≠ 37 ∧ q ≠ 8 ∧ q ≠ 9 ∧ q ≠ 6 := by decide
    obtain ⟨q1, q2, q3, q4, q5, q6⟩ := hh q hq
    rw [o4.1 q q1, g3 q q2 q3, b1 q q4 q5, a1 q q2 q6]
  · rw [o4.2.2 5 (by decide), d2, b2, a3]
  · rw [o4.2.1 2 (by decide) (by decide), f3 2 (by decide), a2 2 (by decide)]
  · rw [o4.2.1 37 (by decide) (by decide), d1 0 (by decide)]; simp (disch := decide) only [sV_eq, sW_eq, sV_ne, sW_ne, sV_2, sW_1, Nat.reduceEqDiff, ↓reduceIte]
  · rw [o4.2.1 42 (by decide) (by decide), d1 0 (by decide)]; simp (disch := decide) only [sV_eq, sW_eq, sV_ne, sW_ne, sV_2, sW_1, Nat.reduceEqDiff, ↓reduceIte]
  · rw [o4.2.1 70 (by decide) (by decide), d1 0 (by decide)]; simp (disch := decide) only [sV_eq, sW_eq, sV_ne, sW_ne, sV_2, sW_1, Nat.reduceEqDiff, ↓reduceIte]
  · rw [o4.2.1 72 (by decide) (by decide), d1 0 (by decide)]; simp (disch := decide) only [sV_eq, sW_eq, sV_ne, sW_ne, sV_2, sW_1, Nat.reduceEqDiff, ↓reduceIte]
  · rw [o4.1 37 (by decide)]; exact d3 j hj
theorem m_tower {t : PD} {A : Nat → Nat} {σ : AM} (H : LM A σ) (ht : wfT t) {m : VM} (hT : MTp t m) (hW : MWd m) : ∃ m' : VM, M_Md_tower (A 0) (ov 40 A m σ) = some (iI ((twS t).1 : Int), (ov 40 A (m') σ)) ∧ m'.1 0 2 = iI 0 ∧ (¬ (twS t).1 = 0 → Ks [20, 21, 22, 24, 25] m m') ∧ ((twS t).1 = 0 → wfD (twD (twS t).2) ∧ MT (twD (twS t).2) m' ∧ (∀ c, c ∈ [1, 21, 22, 23, 24, 36, 38, 39] → m'.1 c = m.1 c) ∧ m'.2 5 = m.2 5 ∧ m'.1 0 37 = iI 0 ∧ m'.1 0 42 = iI 0 ∧ m'.1 0 70 = iI 0 ∧ m'.1 0 72 = iI 0 ∧ ∀ j, j < 4 → m'.1 37 j = iI 0) := by
  obtain ⟨m1, e1, o1, f0, f2, f8, fl, ok⟩ := m_read H ht hT hW
  rw [e1]
  by_cases z : (twS t).1 = 0
  · obtain ⟨hx, c, hR, hc⟩ := ok z
    obtain ⟨hf, hp⟩ := fOk_tw ht z
    obtain ⟨m2, e2, t2, k2, g⟩ := p_takes H hx hf hp hR hc
    rw [z] at f8
    replace f8 : m1.1 0 8 = iI 0 := f8
    have c1 : ¬ (0 : Int32) < iI 0 := by decide
    refine ⟨m2, ?_, by rw [k2.2.2]; exact f2, fun y => absurd z y, fun _ => ⟨wf_tw hx hp, t2, fun q hq => ?_, by rw [k2.2.1, o1.2.2 5 (by decide)], g⟩⟩
    · rw [E_Md_tower_5, okO_ov, mK_0 H, gd_true, aI_ov H.1 _ _ (by omega), f8, if_neg c1, e2, bnd_some, mw_ov, z]; rfl
    · have hh : ∀ q, q ∈ [1, 21, 22, 23, 24, 36, 38, 39] → q ∉ [0, 2, 3, 6, 8, 9] := by decide
      rw [k2.1 q hq, o1.1 q (hh q hq)]
  · have c1 : (0 : Int32) < iI ((twS t).1 : Int) := by rw [l_0, iI_lt (by omega) (by omega) (by omega) (by omega)]; omega
    refine ⟨m1, ?_, f2, fun _ g hg => ?_, fun y => absurd y z⟩
    · rw [E_Md_tower_5, okO_ov, mK_0 H, gd_true, aI_ov H.1 _ _ (by omega), f8, if_pos c1, mw_ov]
    · have hF : ∀ g ∈ [20, 21, 22, 24, 25], ∀ q ∈ gF g, q.1 = 0 ∧ q.2 ∉ [0, 2, 3, 7, 8, 15, 16, 17, 18, 22, 23] := by decide
      have hCc : ∀ g ∈ [20, 21, 22, 24, 25], ∀ q ∈ gC g, q ∉ [0, 2, 3, 6, 8, 9] := by decide
      have hLl : ∀ g ∈ [20, 21, 22, 24, 25], ∀ q ∈ gL g, False := by decide
      have hMm : ∀ g ∈ [20, 21, 22, 24, 25], ∀ q ∈ gM g, q ∉ [4, 7] := by decide
      refine ⟨fun q hq => ?_, fun q hq => o1.1 q (hCc g hg q hq), fun q hq => absurd (hLl g hg q hq) id, fun q hq => o1.2.2 q (hMm g hg q hq)⟩
      obtain ⟨q1, q2⟩ := hF g hg q hq
      rw [q1]; exact o1.2.1 _ q2
