/-! ===== who decides: swings, votes, vetoes ===== -/
theorem swB_low {d : TD} {x : Int64} (hx : low d x) {t s : Nat} (hs : sN d ≤ s) : swB x t s = false := by
  unfold swB
  rw [hx (s ||| 2 ^ t) (Nat.le_trans hs Nat.left_le_or)]; simp
theorem q_Md_swingsIt (v : Nat) (x : Int64) {t s : Nat} (ht : t < 6) (hs : s < 64) (σ : AM) : M_Md_swingsIt v x (iI (t : Int)) (iI (s : Int)) σ = some (bZ (swB x t s), σ) := by
  have hbI := bitI (s := s) (k := t) hs ht
  have hor := bitOr (s := s) (t := t) hs ht
  unfold M_Md_swingsIt swB
  cases q : s.testBit t
  · rw [q] at hbI
    replace hbI : (iI (s : Int) >>> (iI (t : Int) &&& iI 31)) &&& iI 1 = iI 0 := hbI
    have ho := or_add ht hs q
    rw [E_Md_swingsIt_0]; simp (disch := omega) only [E_Md_swingsIt_1, E_Md_swingsIt_2, l_0, l_1, l_31, letT_eq, gd_true, bnd_some, iI_add, iI_sub, iI_mul, iI_neg, iI_lt, iI_eq, iI_cl, nI_iI, gd_in, bZ_0, bZ_1, bZ_eq, isB_bZ, isB_0, isB_1, nar_bZ, nar_0, nar_1, iI_s, iI_na, iI_nm, Int.toNat_natCast, Int.add_zero, Int.zero_add, Nat.reduceEqDiff, Nat.reduceAdd, Int.reduceAdd, Int.reduceNeg, Int.reduceSub, Int.reduceMul, Int.reduceLT, Int.reduceEq, Int.reduceToNat, reduceCtorEq, ↓reduceIte, hbI, hor, q_Md_doesRing x hs, q_Md_doesRing x ho.2]
    cases bt x s <;> cases bt x (s ||| 2 ^ t) <;> exact mw_of (Nat.le_refl _) (Nat.le_refl _)
  · rw [q] at hbI
    replace hbI : (iI (s : Int) >>> (iI (t : Int) &&& iI 31)) &&& iI 1 = iI 1 := hbI
    rw [E_Md_swingsIt_0]; simp (disch := omega) only [E_Md_swingsIt_1, E_Md_swingsIt_2, l_0, l_1, l_31, letT_eq, gd_true, bnd_some, iI_add, iI_sub, iI_mul, iI_neg, iI_lt, iI_eq, iI_cl, nI_iI, gd_in, bZ_0, bZ_1, bZ_eq, isB_bZ, isB_0, isB_1, nar_bZ, nar_0, nar_1, iI_s, iI_na, iI_nm, Int.toNat_natCast, Int.add_zero, Int.zero_add, Nat.reduceEqDiff, Nat.reduceAdd, Int.reduceAdd, Int.reduceNeg, Int.reduceSub, Int.reduceMul, Int.reduceLT, Int.reduceEq, Int.reduceToNat, reduceCtorEq, ↓reduceIte, hbI]
    exact mw_of (Nat.le_refl _) (Nat.le_refl _)
def swgS (d : TD) (a c : Int) : Int := if (0 ≤ a ∧ a < (dW d : Int)) ∧ (0 ≤ c ∧ c < (dT d : Int)) then (cntN 64 (swB (lst d a.toNat) c.toNat) : Int) else -1
theorem pcl_swV (x : Int64) (t : Nat) : pcl (swV x t) = cntN 64 (swB x t) := cntN_congr fun s hs => bt_swV x t hs
theorem c_swings {d : TD} {b : BD} {g z u : Nat} {A : Nat → Nat} {σ : AM} {m : VM} (C : CS0 d b g z u A σ m) {a c : Int} (h1 : -2147483648 ≤ a) (h2 : a < 2147483648) (h3 : -2147483648 ≤ c) (h4 : c < 2147483648) : ∃ m' : VM, M_Bp_swings (A 0) (iI a) (iI c) (ov 68 A m σ) = some (iI (swgS d a c), (ov 68 A (m') σ)) ∧ OnW m m' := by
  obtain ⟨H, hd, hD, _, hT, _⟩ := C
  have hw := q_Tw_hasWeights H hd hT h1 h2
  have ht := q_Tw_hasThing H hd hT h3 h4
  have hT6 := hd.1
  unfold M_Bp_swings
  by_cases q : 0 ≤ a ∧ a < (dW d : Int)
  · rw [decide_eq_true q] at hw
    by_cases q2 : 0 ≤ c ∧ c < (dT d : Int)
    · rw [decide_eq_true q2] at ht
      obtain ⟨n, rfl⟩ := Int.eq_ofNat_of_zero_le q.1
      obtain ⟨k, rfl⟩ := Int.eq_ofNat_of_zero_le q2.1
      obtain ⟨m', e, j⟩ := p_Ls_listOf H hd hD hT (w := n) (by omega)
      refine ⟨m', ?_, j⟩
      rw [E_Bp_swings_0]; simp (disch := omega) only [E_Bp_swings_1, l_0, l_1, cK_0 H, cR_0_1 H, cK_10 H, cR_0_2 H, cK_17 H, letT_eq, gd_true, bnd_some, aR_ov, aK_ov, aN_ov, okO_ov, aI_ov H.1, aL_ov H.1, sI_ov H.1, sL_ov H.1, sV_eq, sV_ne, sV_2, sW_eq, sW_ne, sW_1, iI_add, iI_sub, iI_mul, iI_neg, iI_lt, iI_eq, iI_cl, nI_iI, gd_in, bZ_0, bZ_1, bZ_eq, isB_bZ, isB_0, isB_1, nar_bZ, nar_0, nar_1, mw_ov, iI_s, iI_na, iI_nm, Int.toNat_natCast, Int.add_zero, Int.zero_add, Nat.reduceEqDiff, Nat.reduceAdd, Int.reduceAdd, Int.reduceNeg, Int.reduceSub, Int.reduceMul, Int.reduceLT, Int.reduceEq, Int.reduceToNat, reduceCtorEq, ↓reduceIte, hw, ht, e, q_St_swung (lst d n) (show k < 6 by omega), q_JLong_bitCount, pcl_swV]
      rw [swgS, if_pos ⟨q, q2⟩]; rfl
    · rw [decide_eq_false q2] at ht
      refine ⟨m, ?_, OnW_r _⟩
      rw [E_Bp_swings_0]; simp (disch := omega) only [E_Bp_swings_1, l_0, l_1, cK_0 H, cR_0_1 H, cK_10 H, cR_0_2 H, cK_17 H, letT_eq, gd_true, bnd_some, aR_ov, aK_ov, aN_ov, okO_ov, aI_ov H.1, aL_ov H.1, sI_ov H.1, sL_ov H.1, sV_eq, sV_ne, sV_2, sW_eq, sW_ne, sW_1, iI_add, iI_sub, iI_mul, iI_neg, iI_lt, iI_eq, iI_cl, nI_iI, gd_in, bZ_0, bZ_1, bZ_eq, isB_bZ, isB_0, isB_1, nar_bZ, nar_0, nar_1, mw_ov, iI_s, iI_na, iI_nm, Int.toNat_natCast, Int.add_zero, Int.zero_add, Nat.reduceEqDiff, Nat.reduceAdd, Int.reduceAdd, Int.reduceNeg, Int.reduceSub, Int.reduceMul, Int.reduceLT, Int.reduceEq, Int.reduceToNat, reduceCtorEq, ↓reduceIte, hw, ht]
      rw [swgS, if_neg (fun z => q2 z.2)]
  · rw [decide_eq_false q] at hw
    refine ⟨m, ?_, OnW_r _⟩
    rw [E_Bp_swings_0]; simp (disch := omega) only [E_Bp_swings_1, l_0, l_1, cK_0 H, cR_0_1 H, cK_10 H, cR_0_2 H, cK_17 H, letT_eq, gd_true, bnd_some, aR_ov, aK_ov, aN_ov, okO_ov, aI_ov H.1, aL_ov H.1, sI_ov H.1, sL_ov H.1, sV_eq, sV_ne, sV_2, sW_eq, sW_ne, sW_1, iI_add, iI_sub, iI_mul, iI_neg, iI_lt, iI_eq, iI_cl, nI_iI, gd_in, bZ_0, bZ_1, bZ_eq, isB_bZ, isB_0, isB_1, nar_bZ, nar_0, nar_1, mw_ov, iI_s, iI_na, iI_nm, Int.toNat_natCast, Int.add_zero, Int.zero_add, Nat.reduceEqDiff, Nat.reduceAdd, Int.reduceAdd, Int.reduceNeg, Int.reduceSub, Int.reduceMul, Int.reduceLT, Int.reduceEq, Int.reduceToNat, reduceCtorEq, ↓reduceIte, hw]
    rw [swgS, if_neg (fun z => q z.1)]
theorem Md_swings2 {A : Nat → Nat} {σ : AM} (H : LM A σ) {m : VM} {d : TD} (hd : wfD d) (hT : MT d m) {n k : Nat} (hn : n < dW d) (hk : k < dT d) : L_Md_swings_2 (A 0) (iI (n : Int)) (iI (k : Int)) (iI 0) (iI 0) (ov 40 A m σ) = some (iI (cntN 64 (swB (lst d n) k) : Int), (ov 40 A m σ)) := by
  have hT6 := hd.1
  have hN := sN_le hd
  have hW := hd.2.2.2.2.2.2
  have e12 := hT.2.1 n hn
  exact up_loop (fun s => L_Md_swings_2 (A 0) (iI (n : Int)) (iI (k : Int)) (iI (cntN s (swB (lst d n) k) : Int)) (iI (s : Int)) (ov 40 A m σ)) (sN d) (some (iI (cntN 64 (swB (lst d n) k) : Int), (ov 40 A m σ))) (fun s hs ih => by
    have hsw := fun v σ' => q_Md_swingsIt v (lst d n) (t := k) (s := s) (by omega) (by omega) σ'
    show L_Md_swings_2 _ _ _ _ _ _ = _
    replace ih : L_Md_swings_2 _ _ _ _ _ _ = _ := ih
    rw [cntN_s] at ih
    rw [E_Md_swings_2]; simp (disch := omega) only [E_Md_swings_3, l_0, l_1, mK_0 H, mR_27 H, mK_12 H, mN_12 H, letT_eq, gd_true, bnd_some, aR_ov, aK_ov, aN_ov, okO_ov, aI_ov H.1, aL_ov H.1, sI_ov H.1, sL_ov H.1, sV_eq, sV_ne, sV_2, sW_eq, sW_ne, sW_1, iI_add, iI_sub, iI_mul, iI_neg, iI_lt, iI_eq, iI_cl, nI_iI, gd_in, bZ_0, bZ_1, bZ_eq, isB_bZ, isB_0, isB_1, nar_bZ, nar_0, nar_1, mw_ov, iI_s, iI_na, iI_nm, Int.toNat_natCast, Int.add_zero, Int.zero_add, Nat.reduceEqDiff, Nat.reduceAdd, Int.reduceAdd, Int.reduceNeg, Int.reduceSub, Int.reduceMul, Int.reduceLT, Int.reduceEq, Int.reduceToNat, reduceCtorEq, ↓reduceIte, q_Md_sets H hd hT, e12, hsw]
    rw [if_pos (by omega)]
    cases q : swB (lst d n) k s <;> (rw [q] at ih; exact ih)) (by
    show L_Md_swings_2 _ _ _ _ _ _ = _
    rw [cntN_ext hN fun s h1 _ => swB_low (lst_low hd n) h1]
    rw [E_Md_swings_2]
    simp (disch := omega) only [mK_0 H, okO_ov, gd_true, q_Md_sets H hd hT, bnd_some, iI_lt]
    rw [if_neg (by omega)]) 0 (Nat.zero_le _)
theorem m_swings {d : TD} {b : BD} {A : Nat → Nat} {σ : AM} {m : VM} (M : MS0 d b A σ m) {a c : Int} (h1 : -2147483648 ≤ a) (h2 : a < 2147483648) (h3 : -2147483648 ≤ c) (h4 : c < 2147483648) : Mf A σ m (M_Md_swings (A 0) (iI a) (iI c) (ov 40 A m σ)) (iI (swgS d a c)) := by
  obtain ⟨H, hd, hT, hb, hB⟩ := M
  have hT0 := MT_K (KM_0 m) hT
  have hw := q_Md_isWeights H hd hT0 h1 h2
  have ht := q_Md_isThing H hd hT0 h3 h4
  refine ⟨_, ?_, KM_0 m⟩
  unfold M_Md_swings
  by_cases q : 0 ≤ a ∧ a < (dW d : Int)
  · rw [decide_eq_true q] at hw
    by_cases q2 : 0 ≤ c ∧ c < (dT d : Int)
    · rw [decide_eq_true q2] at ht
      obtain ⟨n, rfl⟩ := Int.eq_ofNat_of_zero_le q.1
      obtain ⟨k, rfl⟩ := Int.eq_ofNat_of_zero_le q2.1
      have hl := Md_swings2 H hd hT0 (n := n) (k := k) (by omega) (by omega)
      rw [E_Md_swings_0]; simp (disch := omega) only [E_Md_swings_1, l_0, l_1, mK_0 H, letT_eq, gd_true, bnd_some, aR_ov, aK_ov, aN_ov, okO_ov, aI_ov H.1, aL_ov H.1, sI_ov H.1, sL_ov H.1, sV_eq, sV_ne, sV_2, sW_eq, sW_ne, sW_1, iI_add, iI_sub, iI_mul, iI_neg, iI_lt, iI_eq, iI_cl, nI_iI, gd_in, bZ_0, bZ_1, bZ_eq, isB_bZ, isB_0, isB_1, nar_bZ, nar_0, nar_1, mw_ov, iI_s, iI_na, iI_nm, Int.toNat_natCast, Int.add_zero, Int.zero_add, Nat.reduceEqDiff, Nat.reduceAdd, Int.reduceAdd, Int.reduceNeg, Int.reduceSub, Int.reduceMul, Int.reduceLT, Int.reduceEq, Int.reduceToNat, reduceCtorEq, ↓reduceIte, hw, ht, hl]
      rw [swgS, if_pos ⟨q, q2⟩]; rfl
    · rw [decide_eq_false q2] at ht
      rw [E_Md_swings_0]; simp (disch := omega) only [E_Md_swings_1, l_0, l_1, mK_0 H, letT_eq, gd_true, bnd_some, aR_ov, aK_ov, aN_ov, okO_ov, aI_ov H.1, aL_ov H.1, sI_ov H.1, sL_ov H.1, sV_eq, sV_ne, sV_2, sW_eq, sW_ne, sW_1, iI_add, iI_sub, iI_mul, iI_neg, iI_lt, iI_eq, iI_cl, nI_iI, gd_in, bZ_0, bZ_1, bZ_eq, isB_bZ, isB_0, isB_1, nar_bZ, nar_0, nar_1, mw_ov, iI_s, iI_na, iI_nm, Int.toNat_natCast, Int.add_zero, Int.zero_add, Nat.reduceEqDiff, Nat.reduceAdd, Int.reduceAdd, Int.reduceNeg, Int.reduceSub, Int.reduceMul, Int.reduceLT, Int.reduceEq, Int.reduceToNat, reduceCtorEq, ↓reduceIte, hw, ht]
      rw [swgS, if_neg (fun z => q2 z.2)]
  · rw [decide_eq_false q] at hw
    rw [E_Md_swings_0]; simp (disch := omega) only [E_Md_swings_1, l_0, l_1, mK_0 H, letT_eq, gd_true, bnd_some, aR_ov, aK_ov, aN_ov, okO_ov, aI_ov H.1, aL_ov H.1, sI_ov H.1, sL_ov H.1, sV_eq, sV_ne, sV_2, sW_eq, sW_ne, sW_1, iI_add, iI_sub, iI_mul, iI_neg, iI_lt, iI_eq, iI_cl, nI_iI, gd_in, bZ_0, bZ_1, bZ_eq, isB_bZ, isB_0, isB_1, nar_bZ, nar_0, nar_1, mw_ov, iI_s, iI_na, iI_nm, Int.toNat_natCast, Int.add_zero, Int.zero_add, Nat.reduceEqDiff, Nat.reduceAdd, Int.reduceAdd, Int.reduceNeg, Int.reduceSub, Int.reduceMul, Int.reduceLT, Int.reduceEq, Int.reduceToNat, reduceCtorEq, ↓reduceIte, hw]
    rw [swgS, if_neg (fun z => q z.1)]
/-! votes -/
def fac : Nat → Nat
  | 0 => 1
  | n + 1 => fac n * (n + 1)
theorem fac_le {n : Nat} (h : n ≤ 6) : fac n ≤ 720 := by
  have : ∀ n : Fin 7, fac n.val ≤ 720 := by decide
  exact this ⟨n, by omega⟩
theorem fac_pos (n : Nat) : 0 < fac n := by
  induction n with
  | zero => decide
  | succ n ih => exact Nat.mul_pos ih (by omega)
theorem q_Pw_factorial {n : Nat} (h : n ≤ 6) (σ : AM) : M_Pw_factorial (iI (n : Int)) σ = some (iI (fac n : Int), σ) := by
  have e : tbFACTORIALS n = iI (fac n : Int) := by
    have : ∀ n : Fin 7, tbFACTORIALS n.val = iI (fac n.val : Int) := by decide +kernel
    exact this ⟨n, by omega⟩
  unfold M_Pw_factorial
  rw [E_Pw_factorial_0]
  simp (disch := omega) only [E_Pw_factorial_2, l_0, l_7, iI_lt, gd_in, iI_cl, Int.toNat_natCast, e]
  rw [if_neg (by omega), if_pos (by omega)]
  exact mw_of (Nat.le_refl _) (Nat.le_refl _)
theorem q_Md_orders {n : Nat} (h : n ≤ 6) (σ : AM) : M_Md_orders (iI (n : Int)) σ = some (jI (fac n : Int), σ) := by
  unfold M_Md_orders
  rw [E_Md_orders_0]
  by_cases h0 : n = 0
  · subst h0
    rw [E_Md_orders_1]
    simp (disch := omega) only [l_2, iI_lt]
    rw [if_pos (by omega)]
    exact mw_of (Nat.le_refl _) (Nat.le_refl _)
  · have hl := up_loopI (fun k (_ : Unit) => L_Md_orders_1 (iI (n : Int)) (jI (fac k : Int)) (iI ((k + 1 : Nat) : Int)) σ) (fun _ _ => True) (fun x => x = some (jI (fac n : Int), σ)) n (fun k _ hk _ ih => by
      show L_Md_orders_1 _ _ _ _ = _
      replace ih : L_Md_orders_1 _ (jI ((fac k * (k + 1) : Nat) : Int)) (iI ((k + 1 + 1 : Nat) : Int)) _ = _ := ih () trivial
      rw [E_Md_orders_1]
      simp (disch := omega) only [iI_lt, iI_j, jI_mul, letT_eq, l_1, iI_add]
      rw [if_neg (by omega)]
      exact ih) (fun _ _ => by
      show L_Md_orders_1 _ _ _ _ = _
      rw [E_Md_orders_1]
      simp (disch := omega) only [iI_lt]
      rw [if_pos (by omega)]) 1 () (by omega) trivial
    replace hl : L_Md_orders_1 (iI (n : Int)) 1 2 σ = _ := hl
    exact (congrArg (mw σ) hl).trans (mw_of (Nat.le_refl _) (Nat.le_refl _))
theorem sum_pick {T c : Nat} (h : c < T) (F : Nat → Nat) : sumN T (fun k => if c = k then F k else 0) = F c := by
  induction T with
  | zero => omega
  | succ T ih =>
    rw [sumN_s]
    by_cases e : c = T
    · subst e
      rw [if_pos rfl]
      have : sumN c (fun k => if c = k then F k else 0) = 0 := by
        have : ∀ m, m ≤ c → sumN m (fun k => if c = k then F k else 0) = 0 := by
          intro m
          induction m with
          | zero => intro _; rfl
          | succ m ihm => intro hm; rw [sumN_s, ihm (by omega), if_neg (by omega)]
        exact this c (Nat.le_refl _)
      omega
    · rw [ih (by omega), if_neg e]; rfl
theorem sum_by {n T : Nat} {p : Nat → Bool} {c : Nat → Nat} (F : Nat → Nat) (h : ∀ s, s < n → p s = true → c s < T) : sumN n (fun s => if p s = true then F (c s) else 0) = sumN T (fun k => cntN n (fun s => p s && decide (c s = k)) * F k) := by
  induction n with
  | zero =>
    have : ∀ m, sumN m (fun k => cntN 0 (fun s => p s && decide (c s = k)) * F k) = 0 := by
      intro m
      induction m with
      | zero => rfl
      | succ m ih => rw [sumN_s, ih, cntN_0, Nat.zero_mul]
    rw [this]; rfl
  | succ n ih =>
    rw [sumN_s, ih fun s hs => h s (by omega)]
    have e : ∀ k, cntN (n + 1) (fun s => p s && decide (c s = k)) * F k = cntN n (fun s => p s && decide (c s = k)) * F k + (if p n = true then (if c n = k then F k else 0) else 0) := by
      intro k
      rw [cntN_s, Nat.add_mul]
      congr 1
      cases p n
      · simp
      · by_cases q : c n = k <;> simp [q]
    rw [sumN_congr fun k _ => e k, sumN_add]
    congr 1
    by_cases q : p n = true
    · simp only [if_pos q]
      rw [sum_pick (h n (by omega) q)]
    · simp only [if_neg q]
      have : ∀ m, sumN m (fun _ => 0) = 0 := by
        intro m
        induction m with
        | zero => rfl
        | succ m ih => rw [sumN_s, ih]
      exact (this T).symm
def ordS (d : TD) (x : Int64) (t T : Nat) : Nat := sumN T (fun k => cntN 64 (fun s => swB x t s && decide (pc6 s = k)) * (fac k * fac (dT d - 1 - k)))
theorem swB_pc {d : TD} (hd : wfD d) {x : Int64} {t s : Nat} (ht : t < dT d) (hs : s < sN d) (h : swB x t s = true) : pc6 s < dT d := by
  have e : pc6 s = cntN (dT d) (fun k => s.testBit k) := cntN_ext hd.1 fun i h1 _ => by
    cases q : s.testBit i
    · rfl
    · have := bit_lt hs q; omega
  rw [e]
  have hle := cntN_le (dT d) (fun k => s.testBit k)
  apply Nat.lt_of_le_of_ne hle
  intro z
  have := cntN_eq_all z t ht
  unfold swB at h
  rw [this] at h
  cases h
theorem ordS_le (d : TD) (hd : wfD d) (x : Int64) (t : Nat) {T : Nat} (hT : T ≤ dT d) : ordS d x t T ≤ 6 * (64 * 518400) := by
  have h6 := hd.1
  refine Nat.le_trans (sumN_le (c := 64 * 518400) fun k hk => ?_) (Nat.mul_le_mul_right _ (by omega))
  have h1 := cntN_le 64 (fun s => swB x t s && decide (pc6 s = k))
  have h2 := fac_le (n := k) (by omega)
  have h3 := fac_le (n := dT d - 1 - k) (by omega)
  exact Nat.mul_le_mul h1 (Nat.mul_le_mul h2 h3)
def votS (d : TD) (a c e : Int) : Int := if (0 ≤ a ∧ a < (dW d : Int)) ∧ (0 ≤ c ∧ c < (dT d : Int)) ∧ (0 ≤ e ∧ e ≤ 1) then (lowS (ordS d (lst d a.toNat) c.toNat (dT d)) (fac (dT d)) e.toNat : Int) else -1
theorem Pw_ord1 {A : Nat → Nat} {σ : AM} (H : LC A σ) {m : VM} {d : TD} (hd : wfD d) (hT : CTw d m) (x : Int64) (t : Nat) : L_Pw_ordersDecided_1 (A 66) (swV x t) (iI 0) (iI 0) (ov 68 A m σ) = some (iI (ordS d x t (dT d) : Int), (ov 68 A m σ)) := by
  have h6 := hd.1
  exact up_loop (fun k => L_Pw_ordersDecided_1 (A 66) (swV x t) (iI (ordS d x t k : Int)) (iI (k : Int)) (ov 68 A m σ)) (dT d) (some (iI (ordS d x t (dT d) : Int), (ov 68 A m σ))) (fun k hk ih => by
    have f1 := fac_le (n := k) (by omega)
    have e1 : (dT d : Int) - 1 - (k : Int) = ((dT d - 1 - k : Nat) : Int) := by omega
    have e2 : cntS (swV x t) k = cntN 64 (fun s => swB x t s && decide (pc6 s = k)) := cntN_congr fun s hs => by rw [bt_swV x t hs]
    show L_Pw_ordersDecided_1 _ _ _ _ _ = _
    replace ih : L_Pw_ordersDecided_1 _ _ (iI ((ordS d x t k + cntN 64 (fun s => swB x t s && decide (pc6 s = k)) * (fac k * fac (dT d - 1 - k)) : Nat) : Int)) _ _ = _ := ih
    rw [E_Pw_ordersDecided_1]; simp (disch := omega) only [l_1, cK_66 H, cR_66_0 H, cK_10 H, q_Tw_things (LTt H), letT_eq, gd_true, bnd_some, aR_ov, aK_ov, aN_ov, okO_ov, aI_ov H.1, aL_ov H.1, sI_ov H.1, sL_ov H.1, sV_eq, sV_ne, sV_2, sW_eq, sW_ne, sW_1, iI_add, iI_sub, iI_mul, iI_neg, iI_lt, iI_eq, iI_cl, nI_iI, gd_in, bZ_0, bZ_1, bZ_eq, isB_bZ, isB_0, isB_1, nar_bZ, nar_0, nar_1, mw_ov, iI_s, iI_na, iI_nm, Int.toNat_natCast, Int.add_zero, Int.zero_add, Nat.reduceEqDiff, Nat.reduceAdd, Int.reduceAdd, Int.reduceNeg, Int.reduceSub, Int.reduceMul, Int.reduceLT, Int.reduceEq, Int.reduceToNat, reduceCtorEq, ↓reduceIte, hT.1.1, e1, q_Pw_factorial, q_St_ofSize, q_JLong_bitCount, pcl_OF, e2]
    rw [if_pos (by omega)]
    exact ih) (by
    show L_Pw_ordersDecided_1 _ _ _ _ _ = _
    rw [E_Pw_ordersDecided_1]
    simp (disch := omega) only [cK_66 H, cR_66_0 H, cK_10 H, okO_ov, aR_ov, gd_true, q_Tw_things (LTt H), bnd_some, hT.1.1, iI_lt]
    rw [if_neg (by omega)]) 0 (Nat.zero_le _)
theorem c_vote {d : TD} {b : BD} {g z u : Nat} {A : Nat → Nat} {σ : AM} {m : VM} (C : CS0 d b g z u A σ m) {a c e : Int} (h1 : -2147483648 ≤ a) (h2 : a < 2147483648) (h3 : -2147483648 ≤ c) (h4 : c < 2147483648) (h5 : -2147483648 ≤ e) (h6 : e < 2147483648) : ∃ m' : VM, M_Bp_vote (A 0) (iI a) (iI c) (iI e) (ov 68 A m σ) = some (iI (votS d a c e), (ov 68 A (m') σ)) ∧ OnW m m' := by
  obtain ⟨H, hd, hD, _, hT, _⟩ := C
  have hw := q_Tw_hasWeights H hd hT h1 h2
  have ht := q_Tw_hasThing H hd hT h3 h4
  have hT6 := hd.1
  unfold M_Bp_vote
  by_cases q : 0 ≤ a ∧ a < (dW d : Int)
  · rw [decide_eq_true q] at hw
    by_cases q2 : 0 ≤ c ∧ c < (dT d : Int)
    · rw [decide_eq_true q2] at ht
      by_cases q3 : 0 ≤ e ∧ e ≤ 1
      · obtain ⟨n, rfl⟩ := Int.eq_ofNat_of_zero_le q.1
        obtain ⟨k, rfl⟩ := Int.eq_ofNat_of_zero_le q2.1
        obtain ⟨w, rfl⟩ := Int.eq_ofNat_of_zero_le q3.1
        obtain ⟨m', e1, j⟩ := p_Ls_listOf H hd hD hT (w := n) (by omega)
        have hT' : CTw d m' := CTw_K (OnW_Ks j 0 (by decide)) hT
        have hl := Pw_ord1 H hd hT' (lst d n) k
        have hod : M_Pw_ordersDecided (A 66) (iI (n : Int)) (iI (k : Int)) (ov 68 A m σ) = some (iI (ordS d (lst d n) k (dT d) : Int), (ov 68 A (m') σ)) := by
          unfold M_Pw_ordersDecided
          rw [E_Pw_ordersDecided_0]; simp (disch := omega) only [l_0, cK_66 H, cR_66_1 H, cK_17 H, letT_eq, gd_true, bnd_some, aR_ov, aK_ov, aN_ov, okO_ov, aI_ov H.1, aL_ov H.1, sI_ov H.1, sL_ov H.1, sV_eq, sV_ne, sV_2, sW_eq, sW_ne, sW_1, iI_add, iI_sub, iI_mul, iI_neg, iI_lt, iI_eq, iI_cl, nI_iI, gd_in, bZ_0, bZ_1, bZ_eq, isB_bZ, isB_0, isB_1, nar_bZ, nar_0, nar_1, mw_ov, iI_s, iI_na, iI_nm, Int.toNat_natCast, Int.add_zero, Int.zero_add, Nat.reduceEqDiff, Nat.reduceAdd, Int.reduceAdd, Int.reduceNeg, Int.reduceSub, Int.reduceMul, Int.reduceLT, Int.reduceEq, Int.reduceToNat, reduceCtorEq, ↓reduceIte, e1, q_St_swung (lst d n) (show k < 6 by omega), hl]
        have hor : M_Pw_orders (A 66) (ov 68 A (m') σ) = some (iI (fac (dT d) : Int), (ov 68 A (m') σ)) := by
          unfold M_Pw_orders
          rw [E_Pw_orders_0]; simp (disch := omega) only [cK_66 H, cR_66_0 H, cK_10 H, q_Tw_things (LTt H), letT_eq, gd_true, bnd_some, aR_ov, aK_ov, aN_ov, okO_ov, aI_ov H.1, aL_ov H.1, sI_ov H.1, sL_ov H.1, sV_eq, sV_ne, sV_2, sW_eq, sW_ne, sW_1, iI_add, iI_sub, iI_mul, iI_neg, iI_lt, iI_eq, iI_cl, nI_iI, gd_in, bZ_0, bZ_1, bZ_eq, isB_bZ, isB_0, isB_1, nar_bZ, nar_0, nar_1, mw_ov, iI_s, iI_na, iI_nm, Int.toNat_natCast, Int.add_zero, Int.zero_add, Nat.reduceEqDiff, Nat.reduceAdd, Int.reduceAdd, Int.reduceNeg, Int.reduceSub, Int.reduceMul, Int.reduceLT, Int.reduceEq, Int.reduceToNat, reduceCtorEq, ↓reduceIte, hT'.1.1, q_Pw_factorial hT6]
        have b1 := ordS_le d hd (lst d n) k (Nat.le_refl _)
        have b2 := fac_le hT6
        have b3 := fac_pos (dT d)
        refine ⟨m', ?_, j⟩
        rw [E_Bp_vote_0]; simp (disch := omega) only [E_Bp_vote_1, l_0, l_1, cK_0 H, cR_0_1 H, cK_10 H, cR_0_9 H, cK_66 H, letT_eq, gd_true, bnd_some, aR_ov, aK_ov, aN_ov, okO_ov, aI_ov H.1, aL_ov H.1, sI_ov H.1, sL_ov H.1, sV_eq, sV_ne, sV_2, sW_eq, sW_ne, sW_1, iI_add, iI_sub, iI_mul, iI_neg, iI_lt, iI_eq, iI_cl, nI_iI, gd_in, bZ_0, bZ_1, bZ_eq, isB_bZ, isB_0, isB_1, nar_bZ, nar_0, nar_1, mw_ov, iI_s, iI_na, iI_nm, Int.toNat_natCast, Int.add_zero, Int.zero_add, Nat.reduceEqDiff, Nat.reduceAdd, Int.reduceAdd, Int.reduceNeg, Int.reduceSub, Int.reduceMul, Int.reduceLT, Int.reduceEq, Int.reduceToNat, reduceCtorEq, ↓reduceIte, hw, ht, hod, hor, q_St_lowest]
        rw [if_neg (by omega), if_neg (by omega), mw_ov, votS, if_pos ⟨q, q2, q3⟩]; rfl
      · refine ⟨m, ?_, OnW_r _⟩
        rw [votS, if_neg (fun z => q3 z.2.2)]
        rw [E_Bp_vote_0]
        simp (disch := omega) only [E_Bp_vote_1, cK_0 H, cR_0_1 H, cK_10 H, okO_ov, aR_ov, gd_true, hw, ht, bnd_some, bZ_0, l_0, l_1, iI_neg, iI_lt, reduceCtorEq, ↓reduceIte]
        by_cases z1 : e < 0
        · rw [if_pos z1, mw_ov]
        · rw [if_neg z1, if_pos (by omega), mw_ov]
    · rw [decide_eq_false q2] at ht
      refine ⟨m, ?_, OnW_r _⟩
      rw [E_Bp_vote_0]; simp (disch := omega) only [E_Bp_vote_1, l_0, l_1, cK_0 H, cR_0_1 H, cK_10 H, cR_0_9 H, cK_66 H, letT_eq, gd_true, bnd_some, aR_ov, aK_ov, aN_ov, okO_ov, aI_ov H.1, aL_ov H.1, sI_ov H.1, sL_ov H.1, sV_eq, sV_ne, sV_2, sW_eq, sW_ne, sW_1, iI_add, iI_sub, iI_mul, iI_neg, iI_lt, iI_eq, iI_cl, nI_iI, gd_in, bZ_0, bZ_1, bZ_eq, isB_bZ, isB_0, isB_1, nar_bZ, nar_0, nar_1, mw_ov, iI_s, iI_na, iI_nm, Int.toNat_natCast, Int.add_zero, Int.zero_add, Nat.reduceEqDiff, Nat.reduceAdd, Int.reduceAdd, Int.reduceNeg, Int.reduceSub, Int.reduceMul, Int.reduceLT, Int.reduceEq, Int.reduceToNat, reduceCtorEq, ↓reduceIte, hw, ht]
      rw [votS, if_neg (fun z => q2 z.2.1)]
  · rw [decide_eq_false q] at hw
    refine ⟨m, ?_, OnW_r _⟩
    rw [E_Bp_vote_0]; simp (disch := omega) only [E_Bp_vote_1, l_0, l_1, cK_0 H, cR_0_1 H, cK_10 H, cR_0_9 H, cK_66 H, letT_eq, gd_true, bnd_some, aR_ov, aK_ov, aN_ov, okO_ov, aI_ov H.1, aL_ov H.1, sI_ov H.1, sL_ov H.1, sV_eq, sV_ne, sV_2, sW_eq, sW_ne, sW_1, iI_add, iI_sub, iI_mul, iI_neg, iI_lt, iI_eq, iI_cl, nI_iI, gd_in, bZ_0, bZ_1, bZ_eq, isB_bZ, isB_0, isB_1, nar_bZ, nar_0, nar_1, mw_ov, iI_s, iI_na, iI_nm, Int.toNat_natCast, Int.add_zero, Int.zero_add, Nat.reduceEqDiff, Nat.reduceAdd, Int.reduceAdd, Int.reduceNeg, Int.reduceSub, Int.reduceMul, Int.reduceLT, Int.reduceEq, Int.reduceToNat, reduceCtorEq, ↓reduceIte, hw]
    rw [votS, if_neg (fun z => q z.1)]
def vtN (d : TD) (x : Int64) (t n : Nat) : Nat := sumN n (fun s => if swB x t s = true then fac (pc6 s) * fac (dT d - 1 - pc6 s) else 0)
theorem vtN_eq {d : TD} (hd : wfD d) {x : Int64} (hx : low d x) {t : Nat} (ht : t < dT d) : vtN d x t (sN d) = ordS d x t (dT d) := by
  unfold vtN ordS
  rw [sum_by (p := swB x t) (c := pc6) (fun k => fac k * fac (dT d - 1 - k)) (fun s hs h => swB_pc hd ht hs h)]
  apply sumN_congr
  intro k _
  rw [cntN_ext (sN_le hd) fun s h1 _ => by rw [swB_low hx h1]; rfl]
theorem Md_vote2 {A : Nat → Nat} {σ : AM} (H : LM A σ) {m : VM} {d : TD} (hd : wfD d) (hT : MT d m) {n k w : Nat} (hn : n < dW d) (hk : k < dT d) (hw : w ≤ 1) : L_Md_vote_2 (A 0) (iI (n : Int)) (iI (k : Int)) (iI (w : Int)) (jI ((0 : Nat) : Int)) (iI ((0 : Nat) : Int)) (ov 40 A m σ) = some (iI (lowS (ordS d (lst d n) k (dT d)) (fac (dT d)) w : Int), (ov 40 A m σ)) := by
  have hT6 := hd.1
  have hN := sN_le hd
  have hW := hd.2.2.2.2.2.2
  have e12 := hT.2.1 n hn
  exact up_loop (fun s => L_Md_vote_2 (A 0) (iI (n : Int)) (iI (k : Int)) (iI (w : Int)) (jI (vtN d (lst d n) k s : Int)) (iI (s : Int)) (ov 40 A m σ)) (sN d) (some (iI (lowS (ordS d (lst d n) k (dT d)) (fac (dT d)) w : Int), (ov 40 A m σ))) (fun s hs ih => by
    have h64 : s < 64 := by omega
    have hsw := fun v σ' => q_Md_swingsIt v (lst d n) (t := k) (s := s) (by omega) h64 σ'
    have hp6 := pc6_le s
    show L_Md_vote_2 _ _ _ _ _ _ _ = _
    replace ih : L_Md_vote_2 _ _ _ _ (jI ((vtN d (lst d n) k s + if swB (lst d n) k s = true then fac (pc6 s) * fac (dT d - 1 - pc6 s) else 0 : Nat) : Int)) _ _ = _ := ih
    cases q : swB (lst d n) k s
    · rw [q] at ih
      rw [q] at hsw
      rw [E_Md_vote_2]; simp (disch := omega) only [E_Md_vote_3, l_0, l_1, mK_0 H, mR_27 H, mK_12 H, mN_12 H, letT_eq, gd_true, bnd_some, aR_ov, aK_ov, aN_ov, okO_ov, aI_ov H.1, aL_ov H.1, sI_ov H.1, sL_ov H.1, sV_eq, sV_ne, sV_2, sW_eq, sW_ne, sW_1, iI_add, iI_sub, iI_mul, iI_neg, iI_lt, iI_eq, iI_cl, nI_iI, gd_in, bZ_0, bZ_1, bZ_eq, isB_bZ, isB_0, isB_1, nar_bZ, nar_0, nar_1, mw_ov, iI_s, iI_na, iI_nm, Int.toNat_natCast, Int.add_zero, Int.zero_add, Nat.reduceEqDiff, Nat.reduceAdd, Int.reduceAdd, Int.reduceNeg, Int.reduceSub, Int.reduceMul, Int.reduceLT, Int.reduceEq, Int.reduceToNat, reduceCtorEq, ↓reduceIte, q_Md_sets H hd hT, e12, hsw, j_0, jI_add]
      rw [if_pos (by omega)]
      exact ih
    · have hpc := swB_pc hd hk hs q
      have e1 : (dT d : Int) - (pc6 s : Int) - 1 = ((dT d - 1 - pc6 s : Nat) : Int) := by omega
      rw [q] at ih
      rw [q] at hsw
      rw [E_Md_vote_2]; simp (disch := omega) only [E_Md_vote_3, l_0, l_1, mK_0 H, mR_27 H, mK_12 H, mN_12 H, letT_eq, gd_true, bnd_some, aR_ov, aK_ov, aN_ov, okO_ov, aI_ov H.1, aL_ov H.1, sI_ov H.1, sL_ov H.1, sV_eq, sV_ne, sV_2, sW_eq, sW_ne, sW_1, iI_add, iI_sub, iI_mul, iI_neg, iI_lt, iI_eq, iI_cl, nI_iI, gd_in, bZ_0, bZ_1, bZ_eq, isB_bZ, isB_0, isB_1, nar_bZ, nar_0, nar_1, mw_ov, iI_s, iI_na, iI_nm, Int.toNat_natCast, Int.add_zero, Int.zero_add, Nat.reduceEqDiff, Nat.reduceAdd, Int.reduceAdd, Int.reduceNeg, Int.reduceSub, Int.reduceMul, Int.reduceLT, Int.reduceEq, Int.reduceToNat, reduceCtorEq, ↓reduceIte, q_Md_sets H hd hT, e12, hsw, q_Md_bits h64, q_Md_orders, hT.1.1, e1, jI_mul, jI_add]
      rw [if_pos (by omega)]
      exact ih) (by
    show L_Md_vote_2 _ _ _ _ _ _ _ = _
    rw [vtN_eq hd (lst_low hd n) hk]
    have b1 := ordS_le d hd (lst d n) k (Nat.le_refl _)
    have b2 := fac_le hT6
    have b3 := fac_pos (dT d)
    rw [E_Md_vote_2]
    simp (disch := omega) only [mK_0 H, okO_ov, gd_true, q_Md_sets H hd hT, bnd_some, iI_lt, aI_ov H.1, hT.1.1, q_Md_orders, q_Md_lowest]
    rw [if_neg (by omega)]) 0 (Nat.zero_le _)
theorem m_vote {d : TD} {b : BD} {A : Nat → Nat} {σ : AM} {m : VM} (M : MS0 d b A σ m) {a c e : Int} (h1 : -2147483648 ≤ a) (h2 : a < 2147483648) (h3 : -2147483648 ≤ c) (h4 : c < 2147483648) (h5 : -2147483648 ≤ e) (h6 : e < 2147483648) : Mf A σ m (M_Md_vote (A 0) (iI a) (iI c) (iI e) (ov 40 A m σ)) (iI (votS d a c e)) := by
  obtain ⟨H, hd, hT, hb, hB⟩ := M
  have hT0 := MT_K (KM_0 m) hT
  have hw := q_Md_isWeights H hd hT0 h1 h2
  have ht := q_Md_isThing H hd hT0 h3 h4
  have hwi := q_Md_isWhat (a := e) (ov 40 A (sV m 0 0 (iI 0)) σ) h5 h6
  refine ⟨_, ?_, KM_0 m⟩
  unfold M_Md_vote
  by_cases q : 0 ≤ a ∧ a < (dW d : Int)
  · rw [decide_eq_true q] at hw
    by_cases q2 : 0 ≤ c ∧ c < (dT d : Int)
    · rw [decide_eq_true q2] at ht
      by_cases q3 : 0 ≤ e ∧ e ≤ 1
      · rw [decide_eq_true q3] at hwi
        obtain ⟨n, rfl⟩ := Int.eq_ofNat_of_zero_le q.1
        obtain ⟨k, rfl⟩ := Int.eq_ofNat_of_zero_le q2.1
        obtain ⟨w, rfl⟩ := Int.eq_ofNat_of_zero_le q3.1
        have hl := Md_vote2 H hd hT0 (n := n) (k := k) (w := w) (by omega) (by omega) (by omega)
        replace hl : L_Md_vote_2 (A 0) (iI (n : Int)) (iI (k : Int)) (iI (w : Int)) 0 (iI 0) (ov 40 A (sV m 0 0 (iI 0)) σ) = _ := hl
        rw [E_Md_vote_0]; simp (disch := omega) only [E_Md_vote_1, l_0, l_1, mK_0 H, letT_eq, gd_true, bnd_some, aR_ov, aK_ov, aN_ov, okO_ov, aI_ov H.1, aL_ov H.1, sI_ov H.1, sL_ov H.1, sV_eq, sV_ne, sV_2, sW_eq, sW_ne, sW_1, iI_add, iI_sub, iI_mul, iI_neg, iI_lt, iI_eq, iI_cl, nI_iI, gd_in, bZ_0, bZ_1, bZ_eq, isB_bZ, isB_0, isB_1, nar_bZ, nar_0, nar_1, mw_ov, iI_s, iI_na, iI_nm, Int.toNat_natCast, Int.add_zero, Int.zero_add, Nat.reduceEqDiff, Nat.reduceAdd, Int.reduceAdd, Int.reduceNeg, Int.reduceSub, Int.reduceMul, Int.reduceLT, Int.reduceEq, Int.reduceToNat, reduceCtorEq, ↓reduceIte, hw, ht, hwi, hl]
        rw [votS, if_pos ⟨q, q2, q3⟩]; rfl
      · rw [decide_eq_false q3] at hwi
        rw [E_Md_vote_0]; simp (disch := omega) only [E_Md_vote_1, l_0, l_1, mK_0 H, letT_eq, gd_true, bnd_some, aR_ov, aK_ov, aN_ov, okO_ov, aI_ov H.1, aL_ov H.1, sI_ov H.1, sL_ov H.1, sV_eq, sV_ne, sV_2, sW_eq, sW_ne, sW_1, iI_add, iI_sub, iI_mul, iI_neg, iI_lt, iI_eq, iI_cl, nI_iI, gd_in, bZ_0, bZ_1, bZ_eq, isB_bZ, isB_0, isB_1, nar_bZ, nar_0, nar_1, mw_ov, iI_s, iI_na, iI_nm, Int.toNat_natCast, Int.add_zero, Int.zero_add, Nat.reduceEqDiff, Nat.reduceAdd, Int.reduceAdd, Int.reduceNeg, Int.reduceSub, Int.reduceMul, Int.reduceLT, Int.reduceEq, Int.reduceToNat, reduceCtorEq, ↓reduceIte, hw, ht, hwi]
        rw [votS, if_neg (fun z => q3 z.2.2)]
    · rw [decide_eq_false q2] at ht
      rw [E_Md_vote_0]; simp (disch := omega) only [E_Md_vote_1, l_0, l_1, mK_0 H, letT_eq, gd_true, bnd_some, aR_ov, aK_ov, aN_ov, okO_ov, aI_ov H.1, aL_ov H.1, sI_ov H.1, sL_ov H.1, sV_eq, sV_ne, sV_2, sW_eq, sW_ne, sW_1, iI_add, iI_sub, iI_mul, iI_neg, iI_lt, iI_eq, iI_cl, nI_iI, gd_in, bZ_0, bZ_1, bZ_eq, isB_bZ, isB_0, isB_1, nar_bZ, nar_0, nar_1, mw_ov, iI_s, iI_na, iI_nm, Int.toNat_natCast, Int.add_zero, Int.zero_add, Nat.reduceEqDiff, Nat.reduceAdd, Int.reduceAdd, Int.reduceNeg, Int.reduceSub, Int.reduceMul, Int.reduceLT, Int.reduceEq, Int.reduceToNat, reduceCtorEq, ↓reduceIte, hw, ht]
      rw [votS, if_neg (fun z => q2 z.2.1)]
  · rw [decide_eq_false q] at hw
    rw [E_Md_vote_0]; simp (disch := omega) only [E_Md_vote_1, l_0, l_1, mK_0 H, letT_eq, gd_true, bnd_some, aR_ov, aK_ov, aN_ov, okO_ov, aI_ov H.1, aL_ov H.1, sI_ov H.1, sL_ov H.1, sV_eq, sV_ne, sV_2, sW_eq, sW_ne, sW_1, iI_add, iI_sub, iI_mul, iI_neg, iI_lt, iI_eq, iI_cl, nI_iI, gd_in, bZ_0, bZ_1, bZ_eq, isB_bZ, isB_0, isB_1, nar_bZ, nar_0, nar_1, mw_ov, iI_s, iI_na, iI_nm, Int.toNat_natCast, Int.add_zero, Int.zero_add, Nat.reduceEqDiff, Nat.reduceAdd, Int.reduceAdd, Int.reduceNeg, Int.reduceSub, Int.reduceMul, Int.reduceLT, Int.reduceEq, Int.reduceToNat, reduceCtorEq, ↓reduceIte, hw]
    rw [votS, if_neg (fun z => q z.1)]
/-! vetoes -/
def veN (d : TD) (x : Int64) : Nat → Nat
  | 0 => sN d - 1
  | s + 1 => if bt x s = true then veN d x s &&& s else veN d x s
theorem veN_lt {d : TD} (hd : wfD d) (x : Int64) (k : Nat) : veN d x k < 64 := by
  have := sN_le hd
  have := sN_pos d
  induction k with
  | zero => show sN d - 1 < 64; omega
  | succ k ih =>
    show (if bt x k = true then veN d x k &&& k else veN d x k) < 64
    split
    · exact Nat.lt_of_le_of_lt Nat.and_le_left ih
    · exact ih
theorem andI {a b : Nat} (ha : a < 64) (hb : b < 64) : iI (a : Int) &&& iI (b : Int) = iI ((a &&& b : Nat) : Int) := by
  have : ∀ a : Fin 64, ∀ b : Fin 64, iI (a.val : Int) &&& iI (b.val : Int) = iI ((a.val &&& b.val : Nat) : Int) := by decide +kernel
  exact this ⟨a, ha⟩ ⟨b, hb⟩
def vetS (d : TD) (a : Int) : Int := if 0 ≤ a ∧ a < (dW d : Int) then (veN d (lst d a.toNat) (sN d) : Int) else -1
theorem c_vetoes {d : TD} {b : BD} {g z u : Nat} {A : Nat → Nat} {σ : AM} {m : VM} (C : CS0 d b g z u A σ m) {a : Int} (h1 : -2147483648 ≤ a) (h2 : a < 2147483648) : ∃ m' : VM, M_Bp_vetoes (A 0) (iI a) (ov 68 A m σ) = some (iI (vetS d a), (ov 68 A (m') σ)) ∧ OnW m m' := by
  obtain ⟨H, hd, hD, _, hT, _⟩ := C
  have hw := q_Tw_hasWeights H hd hT h1 h2
  have hN := sN_le hd
  have hN0 := sN_pos d
  unfold M_Bp_vetoes
  by_cases q : 0 ≤ a ∧ a < (dW d : Int)
  · rw [decide_eq_true q] at hw
    obtain ⟨n, rfl⟩ := Int.eq_ofNat_of_zero_le q.1
    obtain ⟨m', e, j⟩ := p_Ls_listOf H hd hD hT (w := n) (by omega)
    have hT' : CTw d m' := CTw_K (OnW_Ks j 0 (by decide)) hT
    have hl := up_loop (fun k => L_Pw_inAllThatRing_1 (A 66) (lst d n) (iI (veN d (lst d n) k : Int)) (iI (k : Int)) (ov 68 A (m') σ)) (sN d) (some (iI (veN d (lst d n) (sN d) : Int), (ov 68 A (m') σ))) (fun k hk ih => by
      have h64 : k < 64 := by omega
      show L_Pw_inAllThatRing_1 _ _ _ _ _ = _
      replace ih : L_Pw_inAllThatRing_1 _ _ (iI ((if bt (lst d n) k = true then veN d (lst d n) k &&& k else veN d (lst d n) k : Nat) : Int)) _ _ = _ := ih
      rw [E_Pw_inAllThatRing_1]; simp (disch := omega) only [E_Pw_inAllThatRing_2, l_0, l_1, cK_66 H, cR_66_0 H, cK_10 H, letT_eq, gd_true, bnd_some, aR_ov, aK_ov, aN_ov, okO_ov, aI_ov H.1, aL_ov H.1, sI_ov H.1, sL_ov H.1, sV_eq, sV_ne, sV_2, sW_eq, sW_ne, sW_1, iI_add, iI_sub, iI_mul, iI_neg, iI_lt, iI_eq, iI_cl, nI_iI, gd_in, bZ_0, bZ_1, bZ_eq, isB_bZ, isB_0, isB_1, nar_bZ, nar_0, nar_1, mw_ov, iI_s, iI_na, iI_nm, Int.toNat_natCast, Int.add_zero, Int.zero_add, Nat.reduceEqDiff, Nat.reduceAdd, Int.reduceAdd, Int.reduceNeg, Int.reduceSub, Int.reduceMul, Int.reduceLT, Int.reduceEq, Int.reduceToNat, reduceCtorEq, ↓reduceIte, q_Tw_sets H hd hT', q_St_has (lst d n) h64, andI (veN_lt hd _ _) h64]
      rw [if_pos (by omega)]
      cases q : bt (lst d n) k <;> (rw [q] at ih; exact ih)) (by
      show L_Pw_inAllThatRing_1 _ _ _ _ _ = _
      rw [E_Pw_inAllThatRing_1]
      simp (disch := omega) only [cK_66 H, cR_66_0 H, cK_10 H, okO_ov, aR_ov, gd_true, q_Tw_sets H hd hT', bnd_some, iI_lt]
      rw [if_neg (by omega)]) 0 (Nat.zero_le _)
    replace hl : L_Pw_inAllThatRing_1 (A 66) (lst d n) (iI ((sN d - 1 : Nat) : Int)) (iI 0) (ov 68 A (m') σ) = _ := hl
    have hin : M_Pw_inAllThatRing (A 66) (iI (n : Int)) (ov 68 A m σ) = some (iI (veN d (lst d n) (sN d) : Int), (ov 68 A (m') σ)) := by
      have e1 : (sN d : Int) - 1 = ((sN d - 1 : Nat) : Int) := by omega
      unfold M_Pw_inAllThatRing
      rw [E_Pw_inAllThatRing_0]; simp (disch := omega) only [l_0, l_1, cK_66 H, cR_66_0 H, cK_10 H, cR_66_1 H, cK_17 H, letT_eq, gd_true, bnd_some, aR_ov, aK_ov, aN_ov, okO_ov, aI_ov H.1, aL_ov H.1, sI_ov H.1, sL_ov H.1, sV_eq, sV_ne, sV_2, sW_eq, sW_ne, sW_1, iI_add, iI_sub, iI_mul, iI_neg, iI_lt, iI_eq, iI_cl, nI_iI, gd_in, bZ_0, bZ_1, bZ_eq, isB_bZ, isB_0, isB_1, nar_bZ, nar_0, nar_1, mw_ov, iI_s, iI_na, iI_nm, Int.toNat_natCast, Int.add_zero, Int.zero_add, Nat.reduceEqDiff, Nat.reduceAdd, Int.reduceAdd, Int.reduceNeg, Int.reduceSub, Int.reduceMul, Int.reduceLT, Int.reduceEq, Int.reduceToNat, reduceCtorEq, ↓reduceIte, e, q_Tw_sets H hd hT', e1, hl]
    refine ⟨m', ?_, j⟩
    rw [E_Bp_vetoes_0]; simp (disch := omega) only [E_Bp_vetoes_1, l_0, l_1, cK_0 H, cR_0_1 H, cK_10 H, cR_0_9 H, cK_66 H, letT_eq, gd_true, bnd_some, aR_ov, aK_ov, aN_ov, okO_ov, aI_ov H.1, aL_ov H.1, sI_ov H.1, sL_ov H.1, sV_eq, sV_ne, sV_2, sW_eq, sW_ne, sW_1, iI_add, iI_sub, iI_mul, iI_neg, iI_lt, iI_eq, iI_cl, nI_iI, gd_in, bZ_0, bZ_1, bZ_eq, isB_bZ, isB_0, isB_1, nar_bZ, nar_0, nar_1, mw_ov, iI_s, iI_na, iI_nm, Int.toNat_natCast, Int.add_zero, Int.zero_add, Nat.reduceEqDiff, Nat.reduceAdd, Int.reduceAdd, Int.reduceNeg, Int.reduceSub, Int.reduceMul, Int.reduceLT, Int.reduceEq, Int.reduceToNat, reduceCtorEq, ↓reduceIte, hw, hin]
    rw [vetS, if_pos q]; rfl
  · rw [decide_eq_false q] at hw
    refine ⟨m, ?_, OnW_r _⟩
    rw [E_Bp_vetoes_0]; simp (disch := omega) only [E_Bp_vetoes_1, l_0, l_1, cK_0 H, cR_0_1 H, cK_10 H, cR_0_9 H, cK_66 H, letT_eq, gd_true, bnd_some, aR_ov, aK_ov, aN_ov, okO_ov, aI_ov H.1, aL_ov H.1, sI_ov H.1, sL_ov H.1, sV_eq, sV_ne, sV_2, sW_eq, sW_ne, sW_1, iI_add, iI_sub, iI_mul, iI_neg, iI_lt, iI_eq, iI_cl, nI_iI, gd_in, bZ_0, bZ_1, bZ_eq, isB_bZ, isB_0, isB_1, nar_bZ, nar_0, nar_1, mw_ov, iI_s, iI_na, iI_nm, Int.toNat_natCast, Int.add_zero, Int.zero_add, Nat.reduceEqDiff, Nat.reduceAdd, Int.reduceAdd, Int.reduceNeg, Int.reduceSub, Int.reduceMul, Int.reduceLT, Int.reduceEq, Int.reduceToNat, reduceCtorEq, ↓reduceIte, hw]
    rw [vetS, if_neg q]
theorem m_vetoes {d : TD} {b : BD} {A : Nat → Nat} {σ : AM} {m : VM} (M : MS0 d b A σ m) {a : Int} (h1 : -2147483648 ≤ a) (h2 : a < 2147483648) : Mf A σ m (M_Md_vetoes (A 0) (iI a) (ov 40 A m σ)) (iI (vetS d a)) := by
  obtain ⟨H, hd, hT, hb, hB⟩ := M
  have hT0 := MT_K (KM_0 m) hT
  have hw := q_Md_isWeights H hd hT0 h1 h2
  have hN := sN_le hd
  have hN0 := sN_pos d
  have hW := hd.2.2.2.2.2.2
  refine ⟨_, ?_, KM_0 m⟩
  unfold M_Md_vetoes
  by_cases q : 0 ≤ a ∧ a < (dW d : Int)
  · rw [decide_eq_true q] at hw
    obtain ⟨n, rfl⟩ := Int.eq_ofNat_of_zero_le q.1
    have e12 := hT0.2.1 n (by omega)
    have hl := up_loop (fun k => L_Md_vetoes_1 (A 0) (iI (n : Int)) (iI (veN d (lst d n) k : Int)) (iI (k : Int)) (ov 40 A (sV m 0 0 (iI 0)) σ)) (sN d) (some (iI (veN d (lst d n) (sN d) : Int), (ov 40 A (sV m 0 0 (iI 0)) σ))) (fun k hk ih => by
      have h64 : k < 64 := by omega
      have hve := veN_lt hd (lst d n) k
      show L_Md_vetoes_1 _ _ _ _ _ = _
      replace ih : L_Md_vetoes_1 _ _ (iI ((if bt (lst d n) k = true then veN d (lst d n) k &&& k else veN d (lst d n) k : Nat) : Int)) _ _ = _ := ih
      rw [E_Md_vetoes_1]; simp (disch := omega) only [E_Md_vetoes_2, l_0, l_1, mK_0 H, mR_27 H, mK_12 H, mN_12 H, letT_eq, gd_true, bnd_some, aR_ov, aK_ov, aN_ov, okO_ov, aI_ov H.1, aL_ov H.1, sI_ov H.1, sL_ov H.1, sV_eq, sV_ne, sV_2, sW_eq, sW_ne, sW_1, iI_add, iI_sub, iI_mul, iI_neg, iI_lt, iI_eq, iI_cl, nI_iI, gd_in, bZ_0, bZ_1, bZ_eq, isB_bZ, isB_0, isB_1, nar_bZ, nar_0, nar_1, mw_ov, iI_s, iI_na, iI_nm, Int.toNat_natCast, Int.add_zero, Int.zero_add, Nat.reduceEqDiff, Nat.reduceAdd, Int.reduceAdd, Int.reduceNeg, Int.reduceSub, Int.reduceMul, Int.reduceLT, Int.reduceEq, Int.reduceToNat, reduceCtorEq, ↓reduceIte, q_Md_sets H hd hT0, e12, q_Md_doesRing (lst d n) h64, andI hve h64, andI hve hve, Nat.and_self]
      rw [if_pos (by omega)]
      cases q : bt (lst d n) k <;> (rw [q] at ih; exact ih)) (by
      show L_Md_vetoes_1 _ _ _ _ _ = _
      rw [E_Md_vetoes_1]
      simp (disch := omega) only [mK_0 H, okO_ov, gd_true, q_Md_sets H hd hT0, bnd_some, iI_lt]
      rw [if_neg (by omega)]) 0 (Nat.zero_le _)
    replace hl : L_Md_vetoes_1 (A 0) (iI (n : Int)) (iI ((sN d - 1 : Nat) : Int)) (iI 0) (ov 40 A (sV m 0 0 (iI 0)) σ) = _ := hl
    have e1 : (sN d : Int) - 1 = ((sN d - 1 : Nat) : Int) := by omega
    rw [E_Md_vetoes_0]; simp (disch := omega) only [l_0, l_1, mK_0 H, letT_eq, gd_true, bnd_some, aR_ov, aK_ov, aN_ov, okO_ov, aI_ov H.1, aL_ov H.1, sI_ov H.1, sL_ov H.1, sV_eq, sV_ne, sV_2, sW_eq, sW_ne, sW_1, iI_add, iI_sub, iI_mul, iI_neg, iI_lt, iI_eq, iI_cl, nI_iI, gd_in, bZ_0, bZ_1, bZ_eq, isB_bZ, isB_0, isB_1, nar_bZ, nar_0, nar_1, mw_ov, iI_s, iI_na, iI_nm, Int.toNat_natCast, Int.add_zero, Int.zero_add, Nat.reduceEqDiff, Nat.reduceAdd, Int.reduceAdd, Int.reduceNeg, Int.reduceSub, Int.reduceMul, Int.reduceLT, Int.reduceEq, Int.reduceToNat, reduceCtorEq, ↓reduceIte, hw, q_Md_sets H hd hT0, e1, hl]
    rw [vetS, if_pos q]; rfl
  · rw [decide_eq_false q] at hw
    rw [E_Md_vetoes_0]; simp (disch := omega) only [l_0, l_1, mK_0 H, letT_eq, gd_true, bnd_some, aR_ov, aK_ov, aN_ov, okO_ov, aI_ov H.1, aL_ov H.1, sI_ov H.1, sL_ov H.1, sV_eq, sV_ne, sV_2, sW_eq, sW_ne, sW_1, iI_add, iI_sub, iI_mul, iI_neg, iI_lt, iI_eq, iI_cl, nI_iI, gd_in, bZ_0, bZ_1, bZ_eq, isB_bZ, isB_0, isB_1, nar_bZ, nar_0, nar_1, mw_ov, iI_s, iI_na, iI_nm, Int.toNat_natCast, Int.add_zero, Int.zero_add, Nat.reduceEqDiff, Nat.reduceAdd, Int.reduceAdd, Int.reduceNeg, Int.reduceSub, Int.reduceMul, Int.reduceLT, Int.reduceEq, Int.reduceToNat, reduceCtorEq, ↓reduceIte, hw]
    rw [vetS, if_neg q]
