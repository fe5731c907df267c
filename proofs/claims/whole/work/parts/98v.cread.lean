/-! ===== the class reads tokens ===== -/
def cw64 (l : List Nat) : Int64 := l.foldl (fun v (c : Nat) => (v <<< ((iI 8).toInt64 &&& 63)) ||| (iI (c : Int)).toInt64) 0
theorem cw_app (l : List Nat) (c : Nat) : cw64 (l ++ [c]) = (cw64 l <<< ((iI 8).toInt64 &&& 63)) ||| (iI (c : Int)).toInt64 := by unfold cw64; rw [List.foldl_append]; rfl
theorem tn_push {x : Int64} {c : Nat} (hx : tn x < 2 ^ 56) (hc : c < 256) : tn ((x <<< ((iI 8).toInt64 &&& 63)) ||| (iI (c : Int)).toInt64) = tn x * 256 + c := by
  have e1 : tn ((iI (c : Int)).toInt64) = c := by
    have : ∀ c : Fin 256, tn ((iI (c.val : Int)).toInt64) = c.val := by decide +kernel
    exact this ⟨c, hc⟩
  have e2 : tn (x <<< ((iI 8).toInt64 &&& 63)) = tn x * 256 := by
    unfold tn at *
    rw [Int64.toBitVec_shiftLeft, show ((iI 8).toInt64 &&& 63).toBitVec.smod 64 = 8#64 from rfl, BitVec.shiftLeft_eq', BitVec.toNat_shiftLeft]
    show (x.toBitVec.toNat <<< 8) % 2 ^ 64 = _
    rw [Nat.shiftLeft_eq, Nat.mod_eq_of_lt (by omega)]
  have e3 : tn ((x <<< ((iI 8).toInt64 &&& 63)) ||| (iI (c : Int)).toInt64) = tn (x <<< ((iI 8).toInt64 &&& 63)) ||| tn ((iI (c : Int)).toInt64) := by
    unfold tn; rw [Int64.toBitVec_or, BitVec.toNat_or]
  rw [e3, e1, e2]
  have := Nat.two_pow_add_eq_or_of_lt (i := 8) (b := c) (by omega) (tn x)
  rw [Nat.mul_comm (tn x) 256]
  exact this.symm
theorem tn_cw : ∀ {l : List Nat}, l.length ≤ 8 → (∀ c ∈ l, isLt c = true) → tn (cw64 l) = nmB 256 gCt l := by
  intro l
  induction l using revI with
  | nil => intro _ _; decide
  | step l c ih =>
    intro h1 h2
    rw [List.length_append, List.length_singleton] at h1
    have h3 := ih (by omega) (fun x hx => h2 x (List.mem_append_left _ hx))
    have h4 := lt_b (h2 c (List.mem_append_right _ (List.mem_singleton.mpr rfl)))
    have h5 := nm_lt (B := 256) (g := gCt) l (fun x hx => by have := lt_b (h2 x (List.mem_append_left _ hx)); show x < 256; omega)
    have h6 : (256 : Nat) ^ l.length ≤ 256 ^ 7 := Nat.pow_le_pow_right (by omega) (by omega)
    rw [cw_app, tn_push (by rw [h3]; exact Nat.lt_of_lt_of_le h5 h6) (by omega), h3, nm_app]; rfl
theorem cw_inj {l r : List Nat} (l1 : l.length ≤ 8) (l2 : r.length ≤ 8) (h1 : ∀ c ∈ l, isLt c = true) (h2 : ∀ c ∈ r, isLt c = true) : cw64 l = cw64 r ↔ l = r := by
  constructor
  · intro e
    refine nmC_inj h1 h2 ?_
    rw [← tn_cw l1 h1, ← tn_cw l2 h2, e]
  · intro e; rw [e]
theorem tbW_cw : ∀ i : Fin 10, tbWORDS i.val = cw64 (wlT i.val) := by decide +kernel
/-- what reading may change -/
def OnA (m m' : VM) : Prop := (∀ c, c ≠ 1 → m'.1 c = m.1 c) ∧ (∀ j, j ∉ [3, 4, 5, 6] → m'.1 1 j = m.1 1 j) ∧ ∀ c, c ≠ 1 → m'.2 c = m.2 c
theorem OnA_r (m : VM) : OnA m m := ⟨fun _ _ => rfl, fun _ _ => rfl, fun _ _ => rfl⟩
theorem OnA_t {a b c : VM} (h : OnA a b) (k : OnA b c) : OnA a c := ⟨fun i hi => (k.1 i hi).trans (h.1 i hi), fun i hi => (k.2.1 i hi).trans (h.2.1 i hi), fun i hi => (k.2.2 i hi).trans (h.2.2 i hi)⟩
theorem OnA_V {m m' : VM} (h : OnA m m') {j : Nat} (v : Int32) (hj : j ∈ [3, 4, 5, 6]) : OnA m (sV m' 1 j v) := ⟨fun c hc => by rw [sV_ne _ _ _ _ hc]; exact h.1 c hc, fun i hi => by rw [sV_eq, if_neg (fun z => hi (by rw [z]; exact hj))]; exact h.2.1 i hi, fun c hc => h.2.2 c hc⟩
theorem OnA_W {m m' : VM} (h : OnA m m') (j : Nat) (v : Int64) : OnA m (sW m' 1 j v) := ⟨fun c hc => h.1 c hc, fun i hi => h.2.1 i hi, fun c hc => by rw [sW_ne _ _ _ _ hc]; exact h.2.2 c hc⟩
theorem CTp_A {t : PD} {m m' : VM} (h : CTp t m) (k : OnA m m') : CTp t m' := ⟨by rw [k.2.1 2 (by decide)]; exact h.1, fun j hj => by rw [k.1 2 (by decide)]; exact h.2 j hj⟩
def kW (t : PD) (a : Nat) : Prop := a < t.1 ∧ isLt (t.2 a) = true ∧ eT t a - a ≤ 8
/-- the token at a place is the one read -/
def RdA (t : PD) (a : Nat) (m : VM) : Prop := m.1 1 3 = iI (eT t a : Int) ∧ m.1 1 5 = iI (a : Int) ∧ m.1 1 4 = iI (kT0 t a : Int) ∧ (kW t a → m.2 1 7 = cw64 (wdT t a (eT t a))) ∧ (kT0 t a = 2 → m.1 1 6 = iI (nmB 10 (fun c => c - 48) (wdT t a (eT t a)) : Int))
theorem tp_lt {t : PD} (ht : wfT t) {j : Nat} (hj : j < t.1) : t.2 j < 128 := by
  rcases ht.2 j hj with z | z <;> omega
theorem wk_eq {l : List Nat} {i n : Nat} (hi : i < n) (hn : n ≤ 10) (h : wlT i = l) : wk l n = 4 + i := by
  induction n with
  | zero => omega
  | succ n ih =>
    show (if wlT n = l then 4 + n else wk l n) = 4 + i
    by_cases c : wlT n = l
    · rw [if_pos c]
      have := wl_ne ⟨n, by omega⟩ ⟨i, by omega⟩ (c.trans h.symm)
      have := congrArg Fin.val this
      simp only [] at this
      omega
    · rw [if_neg c]
      by_cases e : i = n
      · rw [e] at h; exact absurd h c
      · exact ih (by omega) (by omega)
theorem wk_no {l : List Nat} {n : Nat} (h : ∀ i, i < n → ¬ wlT i = l) : wk l n = 3 := by
  induction n with
  | zero => rfl
  | succ n ih =>
    show (if wlT n = l then 4 + n else wk l n) = 3
    rw [if_neg (h n (by omega))]
    exact ih fun i hi => h i (by omega)
theorem Rd_readWord {t : PD} {A : Nat → Nat} {σ : AM} (H : LC A σ) (ht : wfT t) {a : Nat} (ha : a < t.1) (hl : isLt (t.2 a) = true) {m : VM} (hT : CTp t m) (h3 : m.1 1 3 = iI (a : Int)) (h5 : m.1 1 5 = iI (a : Int)) : ∃ m' : VM, M_Rd_readWord (A 1) (ov 68 A m σ) = some ((), (ov 68 A (m') σ)) ∧ OnA m m' ∧ RdA t a m' := by
  have hn := ht.1
  have ee : eT t a = enT t isLt a := by unfold eT; rw [if_pos ha, if_pos hl]
  have hel : enT t isLt a ≤ t.1 := en_le _ (by omega)
  have heg : a ≤ enT t isLt a := en_ge _ _ _
  have hgt := eT_gt ha
  rw [ee] at hgt
  -- the kind
  have fin : ∀ mm, OnA m mm → mm.1 1 3 = iI (enT t isLt a : Int) → mm.1 1 5 = iI (a : Int) → mm.2 1 7 = cw64 (wdT t a (enT t isLt a)) → ∃ m' : VM, L_Rd_readWord_2 (A 1) (ov 68 A mm σ) = some ((), (ov 68 A (m') σ)) ∧ OnA m m' ∧ RdA t a m' := by
    intro mm i1 i2 i3 i4
    have hall : ∀ c ∈ wdT t a (enT t isLt a), isLt c = true := wd_in fun j h1 h2 => en_in h1 h2
    by_cases c8 : 8 < enT t isLt a - a
    · have hk : kT0 t a = 1 := by unfold kT0; rw [if_pos ha, if_pos hl, ee, if_pos c8]
      refine ⟨sV mm 1 4 (iI 1), ?_, OnA_V i1 _ (by decide), ?_⟩
      · rw [E_Rd_readWord_2]
        simp (disch := omega) only [cK_1 H, okO_ov, gd_true, aI_ov H.1, sI_ov H.1, letT_eq, i2, i3, iI_sub, iI_lt, l_8, l_1]
        rw [if_pos (by omega)]
      · unfold RdA kW
        rw [hk, ee]
        exact ⟨by simp (disch := decide) only [sV_eq, sW_eq, sV_ne, sW_ne, sV_2, sW_1, Nat.reduceEqDiff, ↓reduceIte]; exact i2, by simp (disch := decide) only [sV_eq, sW_eq, sV_ne, sW_ne, sV_2, sW_1, Nat.reduceEqDiff, ↓reduceIte]; exact i3, by simp (disch := decide) only [sV_eq, sW_eq, sV_ne, sW_ne, sV_2, sW_1, Nat.reduceEqDiff, ↓reduceIte]; rfl, fun z => by omega, fun z => by omega⟩
    · have hwl : (wdT t a (enT t isLt a)).length ≤ 8 := by rw [wd_len]; omega
      have hk : kT0 t a = wk (wdT t a (enT t isLt a)) 10 := by unfold kT0; rw [if_pos ha, if_pos hl, ee, if_neg c8]
      have lp : ∃ m' : VM, L_Rd_readWord_3 (A 1) (iI ((0 : Nat) : Int)) (ov 68 A (sV mm 1 4 (iI 3)) σ) = some ((), (ov 68 A (m') σ)) ∧ OnA m m' ∧ RdA t a m' := by
        refine up_loopI (fun k mx => L_Rd_readWord_3 (A 1) (iI (k : Int)) (ov 68 A mx σ)) (fun k mx => OnA m mx ∧ mx.1 1 3 = iI (enT t isLt a : Int) ∧ mx.1 1 5 = iI (a : Int) ∧ mx.2 1 7 = cw64 (wdT t a (enT t isLt a)) ∧ mx.1 1 4 = iI (wk (wdT t a (enT t isLt a)) k : Int)) (fun X => ∃ m' : VM, X = some ((), (ov 68 A (m') σ)) ∧ OnA m m' ∧ RdA t a m') 10 (fun k mx hk ⟨x1, x2, x3, x4, x5⟩ ih => ?_) (fun mx ⟨x1, x2, x3, x4, x5⟩ => ?_) 0 _ (Nat.zero_le _) ⟨OnA_V i1 _ (by decide), by simp (disch := decide) only [sV_eq, sW_eq, sV_ne, sW_ne, sV_2, sW_1, Nat.reduceEqDiff, ↓reduceIte]; exact i2, by simp (disch := decide) only [sV_eq, sW_eq, sV_ne, sW_ne, sV_2, sW_1, Nat.reduceEqDiff, ↓reduceIte]; exact i3, by rw [sV_2]; exact i4, by simp (disch := decide) only [sV_eq, sW_eq, sV_ne, sW_ne, sV_2, sW_1, Nat.reduceEqDiff, ↓reduceIte]; rfl⟩
        · have hw := tbW_cw ⟨k, hk⟩
          have hi := cw_inj (wlT_len ⟨k, hk⟩) hwl (wl_lt ⟨k, hk⟩) hall
          replace hw : tbWORDS k = cw64 (wlT k) := hw
          replace hi : cw64 (wlT k) = cw64 (wdT t a (enT t isLt a)) ↔ wlT k = wdT t a (enT t isLt a) := hi
          show ∃ m' : VM, L_Rd_readWord_3 _ _ _ = _ ∧ _
          have e4 : (4 : Int) + (k : Int) = ((4 + k : Nat) : Int) := by omega
          rw [E_Rd_readWord_3]
          simp (disch := omega) only [E_Rd_readWord_4, cK_1 H, okO_ov, gd_true, gd_in, iI_cl, Int.toNat_natCast, aL_ov H.1, x4, hw, lgc0, l_0, l_1, l_4, l_10, iI_lt, sI_ov H.1, letT_eq, iI_add, e4, iI_s]
          rw [if_pos (by omega)]
          by_cases c : wlT k = wdT t a (enT t isLt a)
          · rw [if_pos (hi.mpr c)]
            refine ih _ ⟨OnA_V x1 _ (by decide), by simp (disch := decide) only [sV_eq, sW_eq, sV_ne, sW_ne, sV_2, sW_1, Nat.reduceEqDiff, ↓reduceIte]; exact x2, by simp (disch := decide) only [sV_eq, sW_eq, sV_ne, sW_ne, sV_2, sW_1, Nat.reduceEqDiff, ↓reduceIte]; exact x3, by rw [sV_2]; exact x4, ?_⟩
            rw [show wk (wdT t a (enT t isLt a)) (k + 1) = 4 + k from if_pos c]
            simp (disch := decide) only [sV_eq, sW_eq, sV_ne, sW_ne, sV_2, sW_1, Nat.reduceEqDiff, ↓reduceIte]
          · rw [if_neg (fun z => c (hi.mp z))]
            refine ih _ ⟨x1, x2, x3, x4, ?_⟩
            rw [show wk (wdT t a (enT t isLt a)) (k + 1) = wk (wdT t a (enT t isLt a)) k from if_neg c]
            exact x5
        · refine ⟨mx, ?_, x1, ?_⟩
          · show L_Rd_readWord_3 _ _ _ = _
            rw [E_Rd_readWord_3]
            simp (disch := omega) only [l_10, iI_lt]
            rw [if_neg (by omega)]
          · have hk3 : 3 ≤ wk (wdT t a (enT t isLt a)) 10 := by
              have : ∀ n l, 3 ≤ wk l n := by
                intro n l
                induction n with
                | zero => exact Nat.le_refl _
                | succ n ih =>
                  show 3 ≤ (if wlT n = l then 4 + n else wk l n)
                  split <;> omega
              exact this _ _
            unfold RdA
            rw [hk, ee]
            exact ⟨x2, x3, x5, fun _ => x4, fun z => by omega⟩
      obtain ⟨m', e, r⟩ := lp
      replace e : L_Rd_readWord_3 (A 1) (iI 0) _ = _ := e
      refine ⟨m', ?_, r⟩
      rw [E_Rd_readWord_2]
      simp (disch := omega) only [cK_1 H, okO_ov, gd_true, aI_ov H.1, sI_ov H.1, letT_eq, i2, i3, iI_sub, iI_lt, l_8, l_1, l_3, l_0]
      rw [if_neg (by omega), e]
  -- the letters
  have lp : ∀ k j mm, j + k = enT t isLt a → a ≤ j → OnA m mm → mm.1 1 3 = iI (j : Int) → mm.1 1 5 = iI (a : Int) → mm.2 1 7 = cw64 (wdT t a j) → ∃ m' : VM, L_Rd_readWord_1 (A 1) (iI ((j - a : Nat) : Int)) (ov 68 A mm σ) = some ((), (ov 68 A (m') σ)) ∧ OnA m m' ∧ RdA t a m' := by
    intro k
    induction k with
    | zero =>
      intro j mm hj haj i1 i2 i3 i4
      obtain rfl : j = enT t isLt a := hj
      have f := fin mm i1 i2 i3 i4
      have hTm := CTp_A hT i1
      rw [E_Rd_readWord_1]
      by_cases c : enT t isLt a < t.1
      · have hno := en_no (p := isLt) (show a ≤ t.1 by omega) c
        have hlt := tp_lt ht c
        have hq := fun σ => q_Rd_isLetter (c := t.2 (enT t isLt a)) (by omega) σ
        rw [hno] at hq
        have h2 := hTm.2 _ c
        simp (disch := omega) only [cK_1 H, cR_1_0 H, cK_2 H, cN_2 H, okO_ov, aR_ov, aN_ov, gd_true, gd_in, iI_cl, Int.toNat_natCast, aI_ov H.1, i2, hTm.1, h2, hq, bnd_some, bZ_0, l_0, l_1000, iI_lt, ↓reduceIte, ite_self]
        exact f
      · simp (disch := omega) only [cK_1 H, okO_ov, gd_true, aI_ov H.1, i2, hTm.1, l_1000, iI_lt]
        rw [if_neg (show ¬ ((enT t isLt a : Nat) : Int) < (t.1 : Int) by omega), ite_self]
        exact f
    | succ k ih =>
      intro j mm hj haj i1 i2 i3 i4
      have hTm := CTp_A hT i1
      have c : j < t.1 := by omega
      have hyes : isLt (t.2 j) = true := en_in haj (by omega)
      have hlt := tp_lt ht c
      have hq := fun σ => q_Rd_isLetter (c := t.2 j) (by omega) σ
      rw [hyes] at hq
      have h2 := hTm.2 _ c
      have ih := ih (j + 1) (sV (sW mm 1 7 (cw64 (wdT t a (j + 1)))) 1 3 (iI ((j + 1 : Nat) : Int))) (by omega) (by omega) (OnA_V (OnA_W i1 _ _) _ (by decide)) (by simp (disch := decide) only [sV_eq, sW_eq, sV_ne, sW_ne, sV_2, sW_1, Nat.reduceEqDiff, ↓reduceIte]) (by simp (disch := decide) only [sV_eq, sW_eq, sV_ne, sW_ne, sV_2, sW_1, Nat.reduceEqDiff, ↓reduceIte]; exact i3) (by rw [sV_2, sW_eq, if_pos rfl])
      rw [wd_s haj, cw_app] at ih
      rw [show j + 1 - a = (j - a) + 1 by omega] at ih
      rw [E_Rd_readWord_1]
      simp (disch := omega) only [cK_1 H, cR_1_0 H, cK_2 H, cN_2 H, okO_ov, aR_ov, aN_ov, gd_true, gd_in, iI_cl, Int.toNat_natCast, aI_ov H.1, aL_ov H.1, sI_ov H.1, sL_ov H.1, sW_1, letT_eq, i2, i4, hTm.1, h2, hq, bnd_some, bZ_0, l_0, l_1, l_8, l_1000, iI_lt, iI_add, iI_s, reduceCtorEq, ↓reduceIte]
      rw [if_pos (by omega), if_pos (by omega)]
      exact ih
  have beg := lp (enT t isLt a - a) a (sW m 1 7 0) (by omega) (Nat.le_refl _) (OnA_W (OnA_r m) _ _) h3 h5 (by rw [sW_eq, if_pos rfl, wd_0]; rfl)
  obtain ⟨m', e, r⟩ := beg
  rw [Nat.sub_self] at e
  replace e : L_Rd_readWord_1 (A 1) (iI 0) _ = _ := e
  refine ⟨m', ?_, r⟩
  unfold M_Rd_readWord
  rw [E_Rd_readWord_0]
  simp (disch := omega) only [cK_1 H, okO_ov, gd_true, sL_ov H.1, letT_eq, l_0, e, mw_ov]
theorem nm10_lt {l : List Nat} (h : ∀ c ∈ l, isDg c = true) : nmB 10 (fun c => c - 48) l < 10 ^ l.length := nm_lt l fun c hc => by have := dg_b (h c hc); omega
/-- as the class counts, whatever it comes to -/
def vl32 (l : List Nat) : Int32 := l.foldl (fun v (c : Nat) => v * iI 10 + (iI (c : Int) - iI 48)) 0
theorem vl_app (l : List Nat) (c : Nat) : vl32 (l ++ [c]) = vl32 l * iI 10 + (iI (c : Int) - iI 48) := by unfold vl32; rw [List.foldl_append]; rfl
theorem vl_eq {l : List Nat} (h : ∀ c ∈ l, isDg c = true) : vl32 l = iI (nmB 10 (fun c => c - 48) l : Int) := by
  induction l using revI with
  | nil => rfl
  | step l c ih =>
    have hc := dg_b (h c (List.mem_append_right _ (List.mem_singleton.mpr rfl)))
    rw [vl_app, ih (fun x hx => h x (List.mem_append_left _ hx)), nm_app, iI_mul, iI_sub, iI_add]
    congr 1
    omega
theorem Rd_readNumber {t : PD} {A : Nat → Nat} {σ : AM} (H : LC A σ) (ht : wfT t) {a : Nat} (ha : a < t.1) (hl0 : isLt (t.2 a) = false) (hl : isDg (t.2 a) = true) {m : VM} (hT : CTp t m) (h3 : m.1 1 3 = iI (a : Int)) (h5 : m.1 1 5 = iI (a : Int)) : ∃ m' : VM, M_Rd_readNumber (A 1) (ov 68 A m σ) = some ((), (ov 68 A (m') σ)) ∧ OnA m m' ∧ RdA t a m' := by
  have hn := ht.1
  have hl0' : ¬ isLt (t.2 a) = true := by rw [hl0]; decide
  have ee : eT t a = enT t isDg a := by unfold eT; rw [if_pos ha, if_neg hl0', if_pos hl]
  have hel : enT t isDg a ≤ t.1 := en_le _ (by omega)
  have heg : a ≤ enT t isDg a := en_ge _ _ _
  have hall : ∀ c ∈ wdT t a (enT t isDg a), isDg c = true := wd_in fun j h1 h2 => en_in h1 h2
  have fin : ∀ mm, OnA m mm → mm.1 1 3 = iI (enT t isDg a : Int) → mm.1 1 5 = iI (a : Int) → mm.1 1 6 = vl32 (wdT t a (enT t isDg a)) → ∃ m' : VM, L_Rd_readNumber_2 (A 1) (ov 68 A mm σ) = some ((), (ov 68 A (m') σ)) ∧ OnA m m' ∧ RdA t a m' := by
    intro mm i1 i2 i3 i4
    rw [vl_eq hall] at i4
    by_cases c8 : 4 < enT t isDg a - a
    · have hk : kT0 t a = 1 := by unfold kT0; rw [if_pos ha, if_neg hl0', if_pos hl, ee, if_pos c8]
      refine ⟨sV mm 1 4 (iI 1), ?_, OnA_V i1 _ (by decide), ?_⟩
      · rw [E_Rd_readNumber_2]
        simp (disch := omega) only [E_Rd_readNumber_3, cK_1 H, okO_ov, gd_true, aI_ov H.1, sI_ov H.1, letT_eq, i2, i3, iI_sub, iI_lt, l_4, l_1]
        rw [if_pos (by omega)]
      · unfold RdA kW
        rw [hk, ee]
        exact ⟨by simp (disch := decide) only [sV_eq, sW_eq, sV_ne, sW_ne, sV_2, sW_1, Nat.reduceEqDiff, ↓reduceIte]; exact i2, by simp (disch := decide) only [sV_eq, sW_eq, sV_ne, sW_ne, sV_2, sW_1, Nat.reduceEqDiff, ↓reduceIte]; exact i3, by simp (disch := decide) only [sV_eq, sW_eq, sV_ne, sW_ne, sV_2, sW_1, Nat.reduceEqDiff, ↓reduceIte]; rfl, fun z => absurd z.2.1 hl0', fun z => by omega⟩
    · have hk : kT0 t a = 2 := by unfold kT0; rw [if_pos ha, if_neg hl0', if_pos hl, ee, if_neg c8]
      refine ⟨sV mm 1 4 (iI 2), ?_, OnA_V i1 _ (by decide), ?_⟩
      · rw [E_Rd_readNumber_2]
        simp (disch := omega) only [E_Rd_readNumber_3, cK_1 H, okO_ov, gd_true, aI_ov H.1, sI_ov H.1, letT_eq, i2, i3, iI_sub, iI_lt, l_4, l_2]
        rw [if_neg (by omega)]
      · unfold RdA kW
        rw [hk, ee]
        exact ⟨by simp (disch := decide) only [sV_eq, sW_eq, sV_ne, sW_ne, sV_2, sW_1, Nat.reduceEqDiff, ↓reduceIte]; exact i2, by simp (disch := decide) only [sV_eq, sW_eq, sV_ne, sW_ne, sV_2, sW_1, Nat.reduceEqDiff, ↓reduceIte]; exact i3, by simp (disch := decide) only [sV_eq, sW_eq, sV_ne, sW_ne, sV_2, sW_1, Nat.reduceEqDiff, ↓reduceIte]; rfl, fun z => absurd z.2.1 hl0', fun _ => by simp (disch := decide) only [sV_eq, sW_eq, sV_ne, sW_ne, sV_2, sW_1, Nat.reduceEqDiff, ↓reduceIte]; exact i4⟩
  have lp : ∀ k j mm, j + k = enT t isDg a → a ≤ j → OnA m mm → mm.1 1 3 = iI (j : Int) → mm.1 1 5 = iI (a : Int) → mm.1 1 6 = vl32 (wdT t a j) → ∃ m' : VM, L_Rd_readNumber_1 (A 1) (iI ((j - a : Nat) : Int)) (ov 68 A mm σ) = some ((), (ov 68 A (m') σ)) ∧ OnA m m' ∧ RdA t a m' := by
    intro k
    induction k with
    | zero =>
      intro j mm hj haj i1 i2 i3 i4
      obtain rfl : j = enT t isDg a := hj
      have f := fin mm i1 i2 i3 i4
      have hTm := CTp_A hT i1
      rw [E_Rd_readNumber_1]
      by_cases c : enT t isDg a < t.1
      · have hno := en_no (p := isDg) (show a ≤ t.1 by omega) c
        have hlt := tp_lt ht c
        have hq := fun σ => q_Rd_isDigit (c := t.2 (enT t isDg a)) (by omega) σ
        rw [hno] at hq
        have h2 := hTm.2 _ c
        simp (disch := omega) only [cK_1 H, cR_1_0 H, cK_2 H, cN_2 H, okO_ov, aR_ov, aN_ov, gd_true, gd_in, iI_cl, Int.toNat_natCast, aI_ov H.1, i2, hTm.1, h2, hq, bnd_some, bZ_0, l_0, l_1000, iI_lt, ↓reduceIte, ite_self]
        exact f
      · simp (disch := omega) only [cK_1 H, okO_ov, gd_true, aI_ov H.1, i2, hTm.1, l_1000, iI_lt]
        rw [if_neg (show ¬ ((enT t isDg a : Nat) : Int) < (t.1 : Int) by omega), ite_self]
        exact f
    | succ k ih =>
      intro j mm hj haj i1 i2 i3 i4
      have hTm := CTp_A hT i1
      have c : j < t.1 := by omega
      have hyes : isDg (t.2 j) = true := en_in haj (by omega)
      have hlt := tp_lt ht c
      have hq := fun σ => q_Rd_isDigit (c := t.2 j) (by omega) σ
      rw [hyes] at hq
      have h2 := hTm.2 _ c
      have ih := ih (j + 1) (sV (sV mm 1 6 (vl32 (wdT t a (j + 1)))) 1 3 (iI ((j + 1 : Nat) : Int))) (by omega) (by omega) (OnA_V (OnA_V i1 _ (by decide)) _ (by decide)) (by simp (disch := decide) only [sV_eq, sW_eq, sV_ne, sW_ne, sV_2, sW_1, Nat.reduceEqDiff, ↓reduceIte]) (by simp (disch := decide) only [sV_eq, sW_eq, sV_ne, sW_ne, sV_2, sW_1, Nat.reduceEqDiff, ↓reduceIte]; exact i3) (by simp (disch := decide) only [sV_eq, sW_eq, sV_ne, sW_ne, sV_2, sW_1, Nat.reduceEqDiff, ↓reduceIte])
      rw [wd_s haj, vl_app] at ih
      rw [show j + 1 - a = (j - a) + 1 by omega] at ih
      have h63 : (sV mm 1 6 (vl32 (wdT t a j) * iI 10 + (iI (t.2 j : Int) - iI 48))).1 1 3 = iI (j : Int) := by simp (disch := decide) only [sV_eq, sW_eq, sV_ne, sW_ne, sV_2, sW_1, Nat.reduceEqDiff, ↓reduceIte]; exact i2
      rw [E_Rd_readNumber_1]
      simp (disch := omega) only [cK_1 H, cR_1_0 H, cK_2 H, cN_2 H, okO_ov, aR_ov, aN_ov, gd_true, gd_in, iI_cl, Int.toNat_natCast, aI_ov H.1, sI_ov H.1, letT_eq, i2, i4, h63, hTm.1, h2, hq, bnd_some, bZ_0, l_0, l_1, l_10, l_48, l_1000, iI_lt, iI_add (j : Int) 1, iI_add ((j - a : Nat) : Int) 1, iI_s, reduceCtorEq, ↓reduceIte]
      rw [if_pos (by omega), if_pos (by omega)]
      exact ih
  have beg := lp (enT t isDg a - a) a (sV m 1 6 (iI 0)) (by omega) (Nat.le_refl _) (OnA_V (OnA_r m) _ (by decide)) (by simp (disch := decide) only [sV_eq, sW_eq, sV_ne, sW_ne, sV_2, sW_1, Nat.reduceEqDiff, ↓reduceIte]; exact h3) (by simp (disch := decide) only [sV_eq, sW_eq, sV_ne, sW_ne, sV_2, sW_1, Nat.reduceEqDiff, ↓reduceIte]; exact h5) (by rw [wd_0]; simp (disch := decide) only [sV_eq, sW_eq, sV_ne, sW_ne, sV_2, sW_1, Nat.reduceEqDiff, ↓reduceIte]; rfl)
  obtain ⟨m', e, r⟩ := beg
  rw [Nat.sub_self] at e
  replace e : L_Rd_readNumber_1 (A 1) (iI 0) _ = _ := e
  refine ⟨m', ?_, r⟩
  unfold M_Rd_readNumber
  rw [E_Rd_readNumber_0]
  simp (disch := omega) only [cK_1 H, okO_ov, gd_true, sI_ov H.1, letT_eq, l_0, e, mw_ov]
theorem p_Rd_advance {t : PD} {A : Nat → Nat} {σ : AM} (H : LC A σ) (ht : wfT t) {a0 : Nat} (ha : a0 ≤ t.1) {m : VM} (hT : CTp t m) (h3 : m.1 1 3 = iI (a0 : Int)) : ∃ m' : VM, M_Rd_advance (A 1) (ov 68 A m σ) = some ((), (ov 68 A (m') σ)) ∧ OnA m m' ∧ RdA t (enT t isBl a0) m' := by
  have hn := ht.1
  have hel : enT t isBl a0 ≤ t.1 := en_le _ (by omega)
  have heg : a0 ≤ enT t isBl a0 := en_ge _ _ _
  have fin : ∀ mm, OnA m mm → mm.1 1 3 = iI (enT t isBl a0 : Int) → ∃ m' : VM, L_Rd_advance_2 (A 1) (ov 68 A mm σ) = some ((), (ov 68 A (m') σ)) ∧ OnA m m' ∧ RdA t (enT t isBl a0) m' := by
    generalize enT t isBl a0 = a at *
    intro mm i1 i2
    have i1' : OnA m (sV mm 1 5 (iI (a : Int))) := OnA_V i1 _ (by decide)
    have hTm := CTp_A hT i1'
    have i2' : (sV mm 1 5 (iI (a : Int))).1 1 3 = iI (a : Int) := by simp (disch := decide) only [sV_eq, sW_eq, sV_ne, sW_ne, sV_2, sW_1, Nat.reduceEqDiff, ↓reduceIte]; exact i2
    have i3' : (sV mm 1 5 (iI (a : Int))).1 1 5 = iI (a : Int) := by simp (disch := decide) only [sV_eq, sW_eq, sV_ne, sW_ne, sV_2, sW_1, Nat.reduceEqDiff, ↓reduceIte]
    generalize hmx : sV mm 1 5 (iI (a : Int)) = mx at *
    have e0 : sV mm 1 5 (mm.1 1 3) = mx := by rw [i2]; exact hmx
    by_cases c : a < t.1
    · have hlt := tp_lt ht c
      have h2 := hTm.2 a c
      have hqL := fun σ => q_Rd_isLetter (c := t.2 a) (by omega) σ
      have hqD := fun σ => q_Rd_isDigit (c := t.2 a) (by omega) σ
      cases qL : isLt (t.2 a)
      · rw [qL] at hqL
        cases qD : isDg (t.2 a)
        · rw [qD] at hqD
          obtain ⟨r, er, r1, r2, r3⟩ := q_JStr_indexOf hlt (ov 68 A mx σ)
          have ee : eT t a = a + 1 := by unfold eT; rw [if_pos c, if_neg (by rw [qL]; decide), if_neg (by rw [qD]; decide)]
          have hk : kT0 t a = if isSg (t.2 a) = true then t.2 a else 1 := by unfold kT0; rw [if_pos c, if_neg (by rw [qL]; decide), if_neg (by rw [qD]; decide)]
          have hk2 : ¬ kT0 t a = 2 := by
            rw [hk]
            have := hT.1
            rcases ht.2 a c with z | z
            · split <;> omega
            · split <;> omega
          have rd : ∀ v : Int32, v = iI (kT0 t a : Int) → RdA t a (sV (sV mx 1 4 v) 1 3 (iI ((a + 1 : Nat) : Int))) := fun v hv => by
            subst hv
            unfold RdA kW
            rw [ee]
            exact ⟨by simp (disch := decide) only [sV_eq, sW_eq, sV_ne, sW_ne, sV_2, sW_1, Nat.reduceEqDiff, ↓reduceIte], by simp (disch := decide) only [sV_eq, sW_eq, sV_ne, sW_ne, sV_2, sW_1, Nat.reduceEqDiff, ↓reduceIte]; exact i3', by simp (disch := decide) only [sV_eq, sW_eq, sV_ne, sW_ne, sV_2, sW_1, Nat.reduceEqDiff, ↓reduceIte], fun z => absurd z.2.1 (by rw [qL]; decide), fun z => absurd z hk2⟩
          have h43 : ∀ v : Int32, (sV mx 1 4 v).1 1 3 = iI (a : Int) := fun v => by simp (disch := decide) only [sV_eq, sW_eq, sV_ne, sW_ne, sV_2, sW_1, Nat.reduceEqDiff, ↓reduceIte]; exact i2'
          refine ⟨sV (sV mx 1 4 (iI (kT0 t a : Int))) 1 3 (iI ((a + 1 : Nat) : Int)), ?_, OnA_V (OnA_V i1' _ (by decide)) _ (by decide), rd _ rfl⟩
          rw [E_Rd_advance_2]
          simp (disch := omega) only [E_Rd_advance_3, E_Rd_advance_4, cK_1 H, cR_1_0 H, cK_2 H, cN_2 H, okO_ov, aR_ov, aN_ov, gd_true, gd_in, iI_cl, Int.toNat_natCast, aI_ov H.1, sI_ov H.1, letT_eq, e0, i2', hTm.1, h2, hqL, hqD, er, bnd_some, bZ_0, l_0, l_1, iI_lt, h43, iI_add, iI_s, ↓reduceIte]
          rw [if_pos (by omega), hk]
          cases qS : isSg (t.2 a)
          · rw [qS] at r3
            have := of_decide_eq_false r3.symm
            rw [if_pos (by omega)]; rfl
          · rw [qS] at r3
            have := of_decide_eq_true r3.symm
            rw [if_neg (by omega)]; rfl
        · rw [qD] at hqD
          obtain ⟨m', e, k1, k2⟩ := Rd_readNumber H ht c qL qD hTm i2' i3'
          refine ⟨m', ?_, OnA_t i1' k1, k2⟩
          rw [E_Rd_advance_2]
          simp (disch := omega) only [E_Rd_advance_3, E_Rd_advance_4, cK_1 H, cR_1_0 H, cK_2 H, cN_2 H, okO_ov, aR_ov, aN_ov, gd_true, gd_in, iI_cl, Int.toNat_natCast, aI_ov H.1, sI_ov H.1, letT_eq, e0, i2', hTm.1, h2, hqL, hqD, e, bnd_some, bZ_0, l_0, iI_lt, reduceCtorEq, ↓reduceIte]
          rw [if_pos (by omega)]
      · rw [qL] at hqL
        obtain ⟨m', e, k1, k2⟩ := Rd_readWord H ht c qL hTm i2' i3'
        refine ⟨m', ?_, OnA_t i1' k1, k2⟩
        rw [E_Rd_advance_2]
        simp (disch := omega) only [E_Rd_advance_3, E_Rd_advance_4, cK_1 H, cR_1_0 H, cK_2 H, cN_2 H, okO_ov, aR_ov, aN_ov, gd_true, gd_in, iI_cl, Int.toNat_natCast, aI_ov H.1, sI_ov H.1, letT_eq, e0, i2', hTm.1, h2, hqL, e, bnd_some, bZ_0, l_0, iI_lt, reduceCtorEq, ↓reduceIte]
        rw [if_pos (by omega)]
    · have ee : eT t a = a := by unfold eT; rw [if_neg c]
      have hk : kT0 t a = 0 := by unfold kT0; rw [if_neg c]
      refine ⟨sV mx 1 4 (iI 0), ?_, OnA_V i1' _ (by decide), ?_⟩
      · rw [E_Rd_advance_2]
        simp (disch := omega) only [E_Rd_advance_4, cK_1 H, okO_ov, gd_true, aI_ov H.1, sI_ov H.1, letT_eq, e0, i2', hTm.1, l_0, iI_lt]
        rw [if_neg (by omega)]
      · unfold RdA kW
        rw [hk, ee]
        exact ⟨by simp (disch := decide) only [sV_eq, sW_eq, sV_ne, sW_ne, sV_2, sW_1, Nat.reduceEqDiff, ↓reduceIte]; exact i2', by simp (disch := decide) only [sV_eq, sW_eq, sV_ne, sW_ne, sV_2, sW_1, Nat.reduceEqDiff, ↓reduceIte]; exact i3', by simp (disch := decide) only [sV_eq, sW_eq, sV_ne, sW_ne, sV_2, sW_1, Nat.reduceEqDiff, ↓reduceIte]; rfl, fun z => absurd z.1 c, fun z => by omega⟩
  have lp : ∀ k j mm, j + k = enT t isBl a0 → a0 ≤ j → OnA m mm → mm.1 1 3 = iI (j : Int) → ∃ m' : VM, L_Rd_advance_1 (A 1) (iI ((j - a0 : Nat) : Int)) (ov 68 A mm σ) = some ((), (ov 68 A (m') σ)) ∧ OnA m m' ∧ RdA t (enT t isBl a0) m' := by
    intro k
    induction k with
    | zero =>
      intro j mm hj haj i1 i2
      obtain rfl : j = enT t isBl a0 := hj
      have f := fin mm i1 i2
      have hTm := CTp_A hT i1
      rw [E_Rd_advance_1]
      by_cases c : enT t isBl a0 < t.1
      · have hno := en_no (p := isBl) (show a0 ≤ t.1 by omega) c
        have hlt := tp_lt ht c
        have hq := fun σ => q_Rd_isBlank (c := t.2 (enT t isBl a0)) (by omega) σ
        rw [hno] at hq
        have h2 := hTm.2 _ c
        simp (disch := omega) only [cK_1 H, cR_1_0 H, cK_2 H, cN_2 H, okO_ov, aR_ov, aN_ov, gd_true, gd_in, iI_cl, Int.toNat_natCast, aI_ov H.1, i2, hTm.1, h2, hq, bnd_some, bZ_0, l_0, l_1000, iI_lt, ↓reduceIte, ite_self]
        exact f
      · simp (disch := omega) only [cK_1 H, okO_ov, gd_true, aI_ov H.1, i2, hTm.1, l_1000, iI_lt]
        rw [if_neg (show ¬ ((enT t isBl a0 : Nat) : Int) < (t.1 : Int) by omega), ite_self]
        exact f
    | succ k ih =>
      intro j mm hj haj i1 i2
      have hTm := CTp_A hT i1
      have c : j < t.1 := by omega
      have hyes : isBl (t.2 j) = true := en_in haj (by omega)
      have hlt := tp_lt ht c
      have hq := fun σ => q_Rd_isBlank (c := t.2 j) (by omega) σ
      rw [hyes] at hq
      have h2 := hTm.2 _ c
      have ih := ih (j + 1) (sV mm 1 3 (iI ((j + 1 : Nat) : Int))) (by omega) (by omega) (OnA_V i1 _ (by decide)) (by simp (disch := decide) only [sV_eq, sW_eq, sV_ne, sW_ne, sV_2, sW_1, Nat.reduceEqDiff, ↓reduceIte])
      rw [show j + 1 - a0 = (j - a0) + 1 by omega] at ih
      rw [E_Rd_advance_1]
      simp (disch := omega) only [cK_1 H, cR_1_0 H, cK_2 H, cN_2 H, okO_ov, aR_ov, aN_ov, gd_true, gd_in, iI_cl, Int.toNat_natCast, aI_ov H.1, sI_ov H.1, letT_eq, i2, hTm.1, h2, hq, bnd_some, bZ_0, l_0, l_1, l_1000, iI_lt, iI_add, iI_s, reduceCtorEq, ↓reduceIte]
      rw [if_pos (by omega), if_pos (by omega)]
      exact ih
  have beg := lp (enT t isBl a0 - a0) a0 m (by omega) (Nat.le_refl _) (OnA_r m) h3
  obtain ⟨m', e, r⟩ := beg
  rw [Nat.sub_self] at e
  replace e : L_Rd_advance_1 (A 1) (iI 0) _ = _ := e
  refine ⟨m', ?_, r⟩
  unfold M_Rd_advance
  rw [E_Rd_advance_0]
  simp only [l_0, e, mw_ov]
