/-! ===== what to lay on next: the class ===== -/
theorem iI_tb (n : Nat) : (iI (n : Int)).toBitVec = BitVec.ofNat 32 n := by
  rw [show iI (n : Int) = Int32.ofNat n from Int32.ofInt_eq_ofNat]; rfl
theorem iI_or (a b : Nat) : iI (a : Int) ||| iI (b : Int) = iI ((a ||| b : Nat) : Int) := by
  apply Int32.toBitVec_inj.mp
  rw [Int32.toBitVec_or, iI_tb, iI_tb, iI_tb]
  apply BitVec.eq_of_toNat_eq
  rw [BitVec.toNat_or, BitVec.toNat_ofNat, BitVec.toNat_ofNat, BitVec.toNat_ofNat, Nat.or_mod_two_pow]
theorem iI_and (a b : Nat) : iI (a : Int) &&& iI (b : Int) = iI ((a &&& b : Nat) : Int) := by
  apply Int32.toBitVec_inj.mp
  rw [Int32.toBitVec_and, iI_tb, iI_tb, iI_tb]
  apply BitVec.eq_of_toNat_eq
  rw [BitVec.toNat_and, BitVec.toNat_ofNat, BitVec.toNat_ofNat, BitVec.toNat_ofNat, Nat.and_mod_two_pow]
theorem sh_amI {s : Nat} (h : s < 32) : ((iI (s : Int) &&& iI 31).toBitVec.smod 32).toNat = s := by
  have : ∀ s : Fin 32, ((iI (s.val : Int) &&& iI 31).toBitVec.smod 32).toNat = s.val := by decide +kernel
  exact this ⟨s, h⟩
theorem iI_shr {n s : Nat} (hn : n < 2147483648) (h : s < 32) : iI (n : Int) >>> (iI (s : Int) &&& iI 31) = iI ((n / 2 ^ s : Nat) : Int) := by
  apply Int32.toBitVec_inj.mp
  rw [Int32.toBitVec_shiftRight, BitVec.sshiftRight_eq', sh_amI h, iI_tb, iI_tb, BitVec.sshiftRight_eq_of_msb_false]
  · apply BitVec.eq_of_toNat_eq
    rw [BitVec.toNat_ushiftRight, BitVec.toNat_ofNat, BitVec.toNat_ofNat, Nat.shiftRight_eq_div_pow, Nat.mod_eq_of_lt (by omega), Nat.mod_eq_of_lt]
    exact Nat.lt_of_le_of_lt (Nat.div_le_self _ _) (by omega)
  · rw [BitVec.msb_eq_decide, BitVec.toNat_ofNat, Nat.mod_eq_of_lt (by omega)]
    exact decide_eq_false (by omega)
theorem iI_an1 (n : Nat) : iI (n : Int) &&& iI 1 = iI ((n % 2 : Nat) : Int) := by
  rw [show iI 1 = iI ((1 : Nat) : Int) from rfl, iI_and, Nat.and_one_is_mod]
theorem q_Ch_isWay {a : Int} (σ : AM) (h1 : -2147483648 ≤ a) (h2 : a < 2147483648) : M_Ch_isWay (iI a) σ = some (bZ (decide (0 ≤ a ∧ a ≤ 2)), σ) := by
  unfold M_Ch_isWay
  rw [E_Ch_isWay_0]
  simp (disch := omega) only [E_Ch_isWay_1, E_Ch_isWay_2, l_0, l_1, l_3, iI_lt, isB_0, isB_1, gd_true]
  by_cases q : a < 0
  · rw [if_pos q, mw_of (Nat.le_refl _) (Nat.le_refl _), decide_eq_false (by omega)]; rfl
  · rw [if_neg q]
    by_cases q2 : a < 3
    · rw [if_pos q2, mw_of (Nat.le_refl _) (Nat.le_refl _), decide_eq_true (by omega)]; rfl
    · rw [if_neg q2, mw_of (Nat.le_refl _) (Nat.le_refl _), decide_eq_false (by omega)]; rfl
theorem q_Ch_bitsOf {n : Nat} (hn : n < 32768) (σ : AM) : ∃ r : Nat, M_Ch_bitsOf (iI (n : Int)) σ = some (iI (r : Int), σ) ∧ r ≤ 15 ∧ n < 2 ^ r := by
  have l1 : ∃ r : Nat, L_Ch_bitsOf_1 (iI (n : Int)) (iI ((0 : Nat) : Int)) (iI ((0 : Nat) : Int)) σ = some (iI (r : Int), σ) ∧ r ≤ 15 ∧ n < 2 ^ r := by
    refine up_loopI (fun i (b : Nat) => L_Ch_bitsOf_1 (iI (n : Int)) (iI (b : Int)) (iI (i : Int)) σ) (fun i b => b ≤ i ∧ (n < 2 ^ i → n < 2 ^ b)) (fun X => ∃ r : Nat, X = some (iI (r : Int), σ) ∧ r ≤ 15 ∧ n < 2 ^ r) 15 (fun i b hi ⟨i1, i2⟩ ih => ?_) (fun b ⟨i1, i2⟩ => ?_) 0 0 (Nat.zero_le _) ⟨Nat.le_refl _, fun h => h⟩
    · show ∃ r : Nat, L_Ch_bitsOf_1 _ _ _ _ = _ ∧ _
      have hs := iI_shr (n := n) (s := i) (by omega) (by omega)
      have hq : n / 2 ^ i ≤ n := Nat.div_le_self _ _
      have hlt : n / 2 ^ i = 0 → n < 2 ^ i := fun c => by
        rcases Nat.lt_or_ge n (2 ^ i) with z | z
        · exact z
        · have h0 := Nat.div_pos z (Nat.pow_pos (by decide)); rw [c] at h0; exact absurd h0 (by decide)
      generalize n / 2 ^ i = v at hs hq hlt
      rw [E_Ch_bitsOf_1]
      simp (disch := omega) only [E_Ch_bitsOf_2, l_0, l_1, l_15, l_31, iI_lt, iI_eq, iI_add, letT_eq, hs, iI_s]
      rw [if_pos (by omega)]
      by_cases c : v = 0
      · rw [if_pos (by omega)]
        exact ih b ⟨by omega, fun _ => i2 (hlt c)⟩
      · rw [if_neg (by omega)]
        exact ih (i + 1) ⟨Nat.le_refl _, fun h => h⟩
    · show ∃ r : Nat, L_Ch_bitsOf_1 _ _ _ _ = _ ∧ _
      refine ⟨b, ?_, i1, i2 (by omega)⟩
      rw [E_Ch_bitsOf_1]
      simp (disch := omega) only [l_15, iI_lt]
      rw [if_neg (by omega)]
  obtain ⟨r, e, h1, h2⟩ := l1
  refine ⟨r, ?_, h1, h2⟩
  unfold M_Ch_bitsOf
  rw [E_Ch_bitsOf_0]
  exact (congrArg (mw _) e).trans (mw_of (Nat.le_refl _) (Nat.le_refl _))
/-- only the planes change -/
def OnP (m m' : VM) : Prop := m'.1 = m.1 ∧ ∀ a, a ≠ 40 → m'.2 a = m.2 a
theorem OnP_r (m : VM) : OnP m m := ⟨rfl, fun _ _ => rfl⟩
theorem OnP_t {a b c : VM} (h : OnP a b) (k : OnP b c) : OnP a c := ⟨k.1.trans h.1, fun q hq => (k.2 q hq).trans (h.2 q hq)⟩
theorem mod_s (n p : Nat) : n % 2 ^ (p + 1) = n % 2 ^ p + 2 ^ p * (n / 2 ^ p % 2) := by rw [Nat.pow_succ, Nat.mod_mul]
theorem p_Ch_addTimes {A : Nat → Nat} {σ : AM} (H : LC A σ) (x : Int64) {n : Nat} (hn : n < 32768) (m : VM) (hb : ∀ s, s < 64 → pvN (m.2 40) 15 s + n * bN (bt x s) < 32768) : ∃ m' : VM, M_Ch_addTimes (A 39) x (iI (n : Int)) (ov 68 A m σ) = some ((), (ov 68 A (m') σ)) ∧ OnP m m' ∧ ∀ s, s < 64 → pvN (m'.2 40) 15 s = pvN (m.2 40) 15 s + n * bN (bt x s) := by
  have l1 : ∃ m' : VM, L_Ch_addTimes_1 (A 39) x (iI (n : Int)) (iI ((0 : Nat) : Int)) (ov 68 A m σ) = some ((), (ov 68 A (m') σ)) ∧ OnP m m' ∧ ∀ s, s < 64 → pvN (m'.2 40) 15 s = pvN (m.2 40) 15 s + n * bN (bt x s) := by
    refine up_loopI (fun p m1 => L_Ch_addTimes_1 (A 39) x (iI (n : Int)) (iI (p : Int)) (ov 68 A m1 σ)) (fun p m1 => OnP m m1 ∧ ∀ s, s < 64 → pvN (m1.2 40) 15 s = pvN (m.2 40) 15 s + n % 2 ^ p * bN (bt x s)) (fun X => ∃ m' : VM, X = some ((), (ov 68 A (m') σ)) ∧ OnP m m' ∧ ∀ s, s < 64 → pvN (m'.2 40) 15 s = pvN (m.2 40) 15 s + n * bN (bt x s)) 15 (fun p m1 hp ⟨i1, i2⟩ ih => ?_) (fun m1 ⟨i1, i2⟩ => ?_) 0 m (Nat.zero_le _) ⟨OnP_r m, fun s _ => by rw [show n % 2 ^ 0 = 0 from Nat.mod_one n]; omega⟩
    · show ∃ m' : VM, L_Ch_addTimes_1 _ _ _ _ _ = _ ∧ _
      have hs := iI_shr (n := n) (s := p) (by omega) (by omega)
      have ha := iI_an1 (n / 2 ^ p)
      have hq : n / 2 ^ p ≤ n := Nat.div_le_self _ _
      have hq2 : n / 2 ^ p % 2 < 2 := Nat.mod_lt _ (by omega)
      have hms := mod_s n p
      have hlt : n / 2 ^ p = 0 → n < 2 ^ p := fun c => by
        rcases Nat.lt_or_ge n (2 ^ p) with z | z
        · exact z
        · have h0 := Nat.div_pos z (Nat.pow_pos (by decide)); rw [c] at h0; exact absurd h0 (by decide)
      generalize n / 2 ^ p = v at hs ha hq hq2 hms hlt
      generalize hr : v % 2 = r at ha hq2 hms
      by_cases c : v = 0
      · refine ⟨m1, ?_, i1, fun s h => ?_⟩
        · rw [E_Ch_addTimes_1]
          simp (disch := omega) only [E_Ch_addTimes_3, l_0, l_15, l_31, iI_lt, iI_eq, hs]
          rw [if_pos (by omega), if_pos (by omega)]
        · rw [i2 s h, Nat.mod_eq_of_lt (hlt c)]
      · by_cases c2 : r = 0
        · have ih := ih m1 ⟨i1, fun s h => by rw [hms, c2, Nat.mul_zero, Nat.add_zero]; exact i2 s h⟩
          rw [E_Ch_addTimes_1]
          simp (disch := omega) only [E_Ch_addTimes_3, E_Ch_addTimes_2, l_0, l_1, l_15, l_31, iI_lt, iI_eq, hs, ha, iI_add, iI_s]
          rw [if_pos (by omega), if_neg (by omega), if_pos (by omega)]
          exact ih
        · have c3 : r = 1 := by omega
          obtain ⟨m2, e2, f1, f2, f3, f4⟩ := q_addTo H.1 (c := 40) (by decide) (H.2.2.1 (40, 102) (by decide)) (H.2.2.2.1 (40, 15) (by decide)) (by decide) x (t := p) (by omega) m1 (fun s h => by
            have h1 := hb s h
            have h2 := i2 s h
            have h3 : n % 2 ^ (p + 1) ≤ n := Nat.mod_le _ _
            rw [hms, c3, Nat.mul_one] at h3
            rw [h2]
            show _ < 32768
            generalize bt x s = bb at h1
            cases bb
            · rw [show bN false = 0 from rfl, Nat.mul_zero] at h1 ⊢
              rw [Nat.mul_zero]; omega
            · rw [show bN true = 1 from rfl, Nat.mul_one] at h1 ⊢
              rw [Nat.mul_one]; omega)
          have ih := ih m2 ⟨OnP_t i1 ⟨f1, f2⟩, fun s h => by rw [f4 s h, i2 s h, hms, c3, Nat.mul_one, Nat.add_mul]; omega⟩
          rw [E_Ch_addTimes_1]
          simp (disch := omega) only [E_Ch_addTimes_3, E_Ch_addTimes_2, l_0, l_1, l_15, l_31, iI_lt, iI_eq, hs, ha, iI_add, iI_s, cK_39 H, cR_39_4 H, cK_40 H, okO_ov, aR_ov, gd_true, e2, bnd_some]
          rw [if_pos (by omega), if_neg (by omega), if_neg (by omega)]
          exact ih
    · refine ⟨m1, ?_, i1, fun s h => ?_⟩
      · show L_Ch_addTimes_1 _ _ _ _ _ = _
        rw [E_Ch_addTimes_1]
        simp (disch := omega) only [E_Ch_addTimes_3, l_15, iI_lt]
        rw [if_neg (by omega)]
      · rw [i2 s h, Nat.mod_eq_of_lt (by omega)]
  obtain ⟨m', e, r⟩ := l1
  refine ⟨m', ?_, r⟩
  unfold M_Ch_addTimes
  rw [E_Ch_addTimes_0]
  exact (congrArg (mw _) e).trans (mw_ov _ _ _ _ _ _)
theorem pv_lt (P : Nat → Int64) (n s : Nat) : pvN P n s < 2 ^ n := by
  induction n with
  | zero => show 0 < 1; omega
  | succ n ih =>
    show pvN P n s + (if bt (P n) s = true then 2 ^ n else 0) < 2 ^ (n + 1)
    rw [Nat.pow_succ]
    split <;> omega
theorem pv_cut (P : Nat → Int64) {r n s : Nat} (hr : r ≤ n) (h : pvN P n s < 2 ^ r) : pvN P r s = pvN P n s := by
  induction n with
  | zero => obtain rfl : r = 0 := by omega
            rfl
  | succ n ih =>
    by_cases e : r = n + 1
    · rw [e]
    · have h1 : pvN P (n + 1) s = pvN P n s + (if bt (P n) s = true then 2 ^ n else 0) := rfl
      have h2 : 2 ^ r ≤ 2 ^ n := Nat.pow_le_pow_right (by omega) (by omega)
      rw [h1] at h ⊢
      by_cases c : bt (P n) s = true
      · rw [if_pos c] at h; omega
      · rw [if_neg c] at h ⊢
        rw [ih (by omega) (by omega)]; rfl
theorem bitU (x : Int64) {s : Nat} (h : s < 64) : (((x.toUInt64 >>> ((iI (s : Int)).toInt64.toUInt64 &&& Int64.toUInt64 63)).toInt64) &&& 1).toInt32 = iI ((if bt x s = true then 1 else 0 : Nat) : Int) := by
  have e := and1 ((x.toUInt64 >>> ((iI (s : Int)).toInt64.toUInt64 &&& Int64.toUInt64 63)).toInt64)
  rw [bt_ushr x h 0, Nat.add_zero] at e
  rw [e]
  by_cases q : bt x s = true
  · rw [if_pos q, if_pos q]; rfl
  · rw [if_neg q, if_neg q]; rfl
theorem shl_bit (b : Bool) {i : Nat} (hi : i < 31) : iI ((if b = true then 1 else 0 : Nat) : Int) <<< (iI (i : Int) &&& iI 31) = iI ((if b = true then 2 ^ i else 0 : Nat) : Int) := by
  cases b
  · have : ∀ i : Fin 31, iI ((0 : Nat) : Int) <<< (iI (i.val : Int) &&& iI 31) = iI ((0 : Nat) : Int) := by decide +kernel
    exact this ⟨i, hi⟩
  · exact iI_shl1 hi
theorem or_new {a i : Nat} (h : a < 2 ^ i) (b : Bool) : a ||| (if b = true then 2 ^ i else 0) = a + if b = true then 2 ^ i else 0 := by
  cases b
  · exact Nat.or_zero a
  · show a ||| 2 ^ i = a + 2 ^ i
    have := Nat.two_pow_add_eq_or_of_lt h 1
    rw [Nat.mul_one] at this
    rw [Nat.or_comm, ← this, Nat.add_comm]
theorem q_counted {n : Nat} {A : Nat → Nat} {σ : AM} (hA : Inj n A) {c : Nat} (hc : c < n) (hk : aK σ (A c) = 102) (hl : aN σ (A c) = 15) (m : VM) {r s : Nat} (hr : r ≤ 15) (hs : s < 64) : M_St_counted (A c) (iI (r : Int)) (iI (s : Int)) (ov n A m σ) = some (iI (pvN (m.2 c) r s : Int), ov n A m σ) := by
  have ho := okO_of hk
  have l1 : L_St_counted_1 (A c) (iI (r : Int)) (iI (s : Int)) (iI ((0 : Nat) : Int)) (iI ((0 : Nat) : Int)) (ov n A m σ) = some (iI (pvN (m.2 c) r s : Int), ov n A m σ) := by
    refine up_loop (fun i => L_St_counted_1 (A c) (iI (r : Int)) (iI (s : Int)) (iI (pvN (m.2 c) i s : Int)) (iI (i : Int)) (ov n A m σ)) r (some (iI (pvN (m.2 c) r s : Int), ov n A m σ)) (fun i hi ih => ?_) ?_ 0 (Nat.zero_le _)
    · have ih : L_St_counted_1 _ _ _ (iI ((pvN (m.2 c) i s + (if bt (m.2 c i) s = true then 2 ^ i else 0) : Nat) : Int)) _ _ = _ := ih
      have e := or_new (pv_lt (m.2 c) i s) (bt (m.2 c i) s)
      rw [← e] at ih
      show L_St_counted_1 _ _ _ _ _ _ = _
      rw [E_St_counted_1]
      simp (disch := omega) only [okO_ov, ho, gd_true, aN_ov, hl, nI_iI, iI_lt, gd_in, iI_cl, Int.toNat_natCast, aL_ov hA, letT_eq, bitU _ hs, l_1, l_31, shl_bit _ (show i < 31 by omega), iI_or, iI_add, iI_s]
      rw [if_pos (by omega), if_pos (by omega)]
      exact ih
    · show L_St_counted_1 _ _ _ _ _ _ = _
      rw [E_St_counted_1]
      simp (disch := omega) only [iI_lt, E_St_counted_2]
      rw [if_neg (by omega)]
  unfold M_St_counted
  rw [E_St_counted_0]
  exact (congrArg (mw _) l1).trans (mw_ov _ _ _ _ _ _)
/-- what the planes hold: of each set the lists, or the weights -/
def plE (d : TD) (way : Nat) (l : List Nat) (m : VM) : Prop := ∀ s, s < 64 → pvN (m.2 40) 15 s = if way = 1 then cW d l s else cL d l s
def allW (d : TD) (way : Nat) (l : List Nat) : Nat := if way = 1 then sumL (sh d) l else l.length
def orL (d : TD) : List Nat → Int64
  | [] => 0
  | k :: l => LL d k ||| orL d l
def andL (d : TD) : List Nat → Int64
  | [] => -1
  | k :: l => LL d k &&& andL d l
theorem bt_orL (d : TD) (l : List Nat) (s : Nat) : bt (orL d l) s = decide (0 < cL d l s) := by
  induction l with
  | nil => exact bt_0 s
  | cons k l ih =>
    show bt (LL d k ||| orL d l) s = _
    unfold cL at ih ⊢
    rw [bt_or, ih, List.countP_cons]
    cases q : bt (LL d k) s
    · simp [q]
    · simp [q]
theorem bt_andL (d : TD) (l : List Nat) {s : Nat} (hs : s < 64) : bt (andL d l) s = decide (cL d l s = l.length) := by
  induction l with
  | nil => exact bt_m1 hs
  | cons k l ih =>
    have h1 := cL_le d l s
    show bt (LL d k &&& andL d l) s = _
    unfold cL at ih h1 ⊢
    rw [bt_and, ih, List.countP_cons, List.length_cons]
    cases q : bt (LL d k) s
    · simp only [q, Bool.false_eq_true, if_false, Bool.false_and]
      exact (decide_eq_false (by omega)).symm
    · simp only [q, if_true, Bool.true_and]
      by_cases c : l.countP (fun k => bt (LL d k) s) = l.length
      · rw [decide_eq_true c, decide_eq_true (by omega)]
      · rw [decide_eq_false c, decide_eq_false (by omega)]
theorem pt_bit (d : TD) (l : List Nat) {s : Nat} (hs : s < 64) : bt (orL d l &&& (andL d l ^^^ (-1))) s = ptB d l s := by
  have h1 := cL_le d l s
  rw [bt_and, bt_not _ hs, bt_orL, bt_andL d l hs]
  unfold ptB
  by_cases c1 : 0 < cL d l s
  · by_cases c2 : cL d l s = l.length
    · rw [decide_eq_true c1, decide_eq_true c2, decide_eq_false (by omega)]; rfl
    · rw [decide_eq_true c1, decide_eq_false c2, decide_eq_true (by omega)]; rfl
  · rw [decide_eq_false c1, decide_eq_false (show ¬ (0 < cL d l s ∧ cL d l s < l.length) from fun z => c1 z.1)]; rfl
theorem orL_app (d : TD) (l : List Nat) (k : Nat) : orL d (l ++ [k]) = orL d l ||| LL d k := by
  apply bt_ext
  intro s _
  rw [bt_or, bt_orL, bt_orL]
  unfold cL
  rw [List.countP_append, List.countP_singleton]
  cases q : bt (LL d k) s
  · simp [q]
  · simp [q]
theorem andL_app (d : TD) (l : List Nat) (k : Nat) : andL d (l ++ [k]) = andL d l &&& LL d k := by
  apply bt_ext
  intro s hs
  have h1 := cL_le d l s
  rw [bt_and, bt_andL d _ hs, bt_andL d _ hs]
  unfold cL at h1 ⊢
  rw [List.countP_append, List.countP_singleton, List.length_append, List.length_singleton]
  cases q : bt (LL d k) s
  · simp only [q, Bool.false_eq_true, if_false, Bool.and_false]
    exact decide_eq_false (by omega)
  · simp only [q, if_true, Bool.and_true]
    by_cases c : l.countP (fun k => bt (LL d k) s) = l.length
    · rw [decide_eq_true c, decide_eq_true (by omega)]
    · rw [decide_eq_false c, decide_eq_false (by omega)]
theorem plW_lt {d : TD} (hd : wfD d) {way : Nat} {l : List Nat} (hl : wl d l) (s : Nat) : (if way = 1 then cW d l s else cL d l s) ≤ allW d way l ∧ allW d way l ≤ 16384 := by
  have := wl_sh hd hl
  have := wl_len hl
  have := NL_le d
  have := hd.2.2.2.2.2.2
  have h1 := cL_le d l s
  have h2 : cW d l s ≤ sumL (sh d) l := sumL_mono fun k _ => by split <;> omega
  unfold allW
  by_cases c : way = 1
  · rw [if_pos c, if_pos c]; exact ⟨h2, by omega⟩
  · rw [if_neg c, if_neg c]; exact ⟨h1, by omega⟩
theorem q_pl {d : TD} {A : Nat → Nat} {σ : AM} (H : LC A σ) (hd : wfD d) {m : VM} {l : List Nat} (hl : wl d l) {way : Nat} (hp : plE d way l m) {r : Nat} (hr : r ≤ 15) (hr2 : allW d way l < 2 ^ r) {s : Nat} (hs : s < 64) : M_St_counted (A 40) (iI (r : Int)) (iI (s : Int)) (ov 68 A m σ) = some (iI ((if way = 1 then cW d l s else cL d l s : Nat) : Int), (ov 68 A m σ)) := by
  have h1 := plW_lt hd (way := way) hl s
  have h2 := hp s hs
  rw [q_counted H.1 (c := 40) (by decide) (H.2.2.1 (40, 102) (by decide)) (H.2.2.2.1 (40, 15) (by decide)) m hr hs, pv_cut (m.2 40) hr (by omega), h2]
theorem q_Ch_stillest {d : TD} {A : Nat → Nat} {σ : AM} (H : LC A σ) (hd : wfD d) {m : VM} (hT : CTw d m) {l : List Nat} (hl : wl d l) (hp : plE d 1 l m) {r : Nat} (hr : r ≤ 15) (hr2 : allW d 1 l < 2 ^ r) (h5 : m.1 39 5 = iI (r : Int)) : M_Ch_stillest (A 39) (orL d l &&& (andL d l ^^^ (-1))) (ov 68 A m σ) = some (iI (nx d 1 l), (ov 68 A m σ)) := by
  have hS := sN_le hd
  have l1 : L_Ch_stillest_1 (A 39) (orL d l &&& (andL d l ^^^ (-1))) (iI (-1)) (iI 0) (iI 0) (ov 68 A m σ) = some (iI (nx d 1 l), (ov 68 A m σ)) := by
    refine up_loop (fun k => L_Ch_stillest_1 (A 39) (orL d l &&& (andL d l ^^^ (-1))) (iI (nxN d 1 l k)) (iI ((if nxN d 1 l k < 0 then 0 else cW d l (nxN d 1 l k).toNat : Nat) : Int)) (iI (k : Int)) (ov 68 A m σ)) (sN d) (some (iI (nx d 1 l), (ov 68 A m σ))) (fun k hk ih => ?_) ?_ 0 (Nat.zero_le _)
    · have ih : L_Ch_stillest_1 _ _ (iI (nxN d 1 l (k + 1))) (iI ((if nxN d 1 l (k + 1) < 0 then 0 else cW d l (nxN d 1 l (k + 1)).toNat : Nat) : Int)) _ _ = _ := ih
      rw [nxN_s] at ih
      have lo := nxN_lo d 1 l k
      have hh := q_St_has (orL d l &&& (andL d l ^^^ (-1))) (s := k) (by omega) (ov 68 A m σ)
      rw [pt_bit d l (by omega)] at hh
      have hc := q_pl H hd hl hp hr hr2 (s := k) (by omega)
      rw [if_pos rfl] at hc
      have b1 := cW_le hd hl k
      have b2 : (if nxN d 1 l k < 0 then 0 else cW d l (nxN d 1 l k).toNat) ≤ 16384 := by
        split
        · omega
        · exact cW_le hd hl _
      have hbt : ∀ t, btr d 1 l k t = decide (cW d l k < cW d l t) := fun t => if_pos rfl
      show L_Ch_stillest_1 _ _ _ _ _ _ = _
      cases q : ptB d l k
      · rw [if_neg (fun z => by rw [q] at z; exact absurd z.1 (by simp))] at ih
        rw [q] at hh
        rw [E_Ch_stillest_1]; simp (disch := omega) only [E_Ch_stillest_2, E_Ch_stillest_3, l_0, l_1, cK_39 H, cR_39_0 H, cK_10 H, cR_39_4 H, cK_40 H, cN_40 H, letT_eq, gd_true, bnd_some, aR_ov, aK_ov, aN_ov, okO_ov, aI_ov H.1, aL_ov H.1, sI_ov H.1, sL_ov H.1, sV_eq, sV_ne, sV_2, sW_eq, sW_ne, sW_1, iI_add, iI_sub, iI_mul, iI_neg, iI_lt, iI_eq, iI_cl, nI_iI, gd_in, bZ_0, bZ_1, bZ_eq, isB_bZ, isB_0, isB_1, nar_bZ, nar_0, nar_1, mw_ov, iI_s, iI_na, iI_nm, Int.toNat_natCast, Int.add_zero, Int.zero_add, Nat.reduceEqDiff, Nat.reduceAdd, Int.reduceAdd, Int.reduceNeg, Int.reduceSub, Int.reduceMul, Int.reduceLT, Int.reduceEq, Int.reduceToNat, reduceCtorEq, ↓reduceIte, q_Tw_sets H hd hT, hh]
        rw [if_pos (by omega)]
        exact ih
      · rw [q] at hh
        by_cases c1 : nxN d 1 l k < 0
        · rw [if_pos ⟨q, Or.inl c1⟩, if_neg (by omega), Int.toNat_natCast] at ih
          have e : nxN d 1 l k = -1 := by omega
          rw [e]
          rw [E_Ch_stillest_1]; simp (disch := omega) only [E_Ch_stillest_2, E_Ch_stillest_3, l_0, l_1, cK_39 H, cR_39_0 H, cK_10 H, cR_39_4 H, cK_40 H, cN_40 H, letT_eq, gd_true, bnd_some, aR_ov, aK_ov, aN_ov, okO_ov, aI_ov H.1, aL_ov H.1, sI_ov H.1, sL_ov H.1, sV_eq, sV_ne, sV_2, sW_eq, sW_ne, sW_1, iI_add, iI_sub, iI_mul, iI_neg, iI_lt, iI_eq, iI_cl, nI_iI, gd_in, bZ_0, bZ_1, bZ_eq, isB_bZ, isB_0, isB_1, nar_bZ, nar_0, nar_1, mw_ov, iI_s, iI_na, iI_nm, Int.toNat_natCast, Int.add_zero, Int.zero_add, Nat.reduceEqDiff, Nat.reduceAdd, Int.reduceAdd, Int.reduceNeg, Int.reduceSub, Int.reduceMul, Int.reduceLT, Int.reduceEq, Int.reduceToNat, reduceCtorEq, ↓reduceIte, q_Tw_sets H hd hT, hh, h5, hc]
          rw [if_pos (by omega)]
          exact ih
        · rw [if_neg c1]
          rw [if_neg c1] at b2
          by_cases c2 : cW d l k < cW d l (nxN d 1 l k).toNat
          · rw [if_pos ⟨q, Or.inr (by rw [hbt]; exact decide_eq_true c2)⟩, if_neg (by omega), Int.toNat_natCast] at ih
            rw [E_Ch_stillest_1]; simp (disch := omega) only [E_Ch_stillest_2, E_Ch_stillest_3, l_0, l_1, cK_39 H, cR_39_0 H, cK_10 H, cR_39_4 H, cK_40 H, cN_40 H, letT_eq, gd_true, bnd_some, aR_ov, aK_ov, aN_ov, okO_ov, aI_ov H.1, aL_ov H.1, sI_ov H.1, sL_ov H.1, sV_eq, sV_ne, sV_2, sW_eq, sW_ne, sW_1, iI_add, iI_sub, iI_mul, iI_neg, iI_lt, iI_eq, iI_cl, nI_iI, gd_in, bZ_0, bZ_1, bZ_eq, isB_bZ, isB_0, isB_1, nar_bZ, nar_0, nar_1, mw_ov, iI_s, iI_na, iI_nm, Int.toNat_natCast, Int.add_zero, Int.zero_add, Nat.reduceEqDiff, Nat.reduceAdd, Int.reduceAdd, Int.reduceNeg, Int.reduceSub, Int.reduceMul, Int.reduceLT, Int.reduceEq, Int.reduceToNat, reduceCtorEq, ↓reduceIte, q_Tw_sets H hd hT, hh, h5, hc]
            rw [if_pos (by omega), if_neg (by omega), if_pos (by omega)]
            exact ih
          · rw [if_neg (fun z => z.2.elim c1 (fun w => c2 (of_decide_eq_true (by rw [hbt] at w; exact w)))), if_neg c1] at ih
            rw [E_Ch_stillest_1]; simp (disch := omega) only [E_Ch_stillest_2, E_Ch_stillest_3, l_0, l_1, cK_39 H, cR_39_0 H, cK_10 H, cR_39_4 H, cK_40 H, cN_40 H, letT_eq, gd_true, bnd_some, aR_ov, aK_ov, aN_ov, okO_ov, aI_ov H.1, aL_ov H.1, sI_ov H.1, sL_ov H.1, sV_eq, sV_ne, sV_2, sW_eq, sW_ne, sW_1, iI_add, iI_sub, iI_mul, iI_neg, iI_lt, iI_eq, iI_cl, nI_iI, gd_in, bZ_0, bZ_1, bZ_eq, isB_bZ, isB_0, isB_1, nar_bZ, nar_0, nar_1, mw_ov, iI_s, iI_na, iI_nm, Int.toNat_natCast, Int.add_zero, Int.zero_add, Nat.reduceEqDiff, Nat.reduceAdd, Int.reduceAdd, Int.reduceNeg, Int.reduceSub, Int.reduceMul, Int.reduceLT, Int.reduceEq, Int.reduceToNat, reduceCtorEq, ↓reduceIte, q_Tw_sets H hd hT, hh, h5, hc]
            rw [if_pos (by omega), if_neg (by omega), if_neg (by omega)]
            exact ih
    · show L_Ch_stillest_1 _ _ _ _ _ _ = _
      rw [E_Ch_stillest_1]
      simp (disch := omega) only [cK_39 H, cR_39_0 H, cK_10 H, okO_ov, aR_ov, gd_true, bnd_some, q_Tw_sets H hd hT, iI_lt]
      rw [if_neg (by omega)]
      rfl
  unfold M_Ch_stillest
  rw [E_Ch_stillest_0]
  simp only [l_0, l_1, iI_neg]
  exact (congrArg (mw _) l1).trans (mw_ov _ _ _ _ _ _)
def coW (d : TD) (way s : Nat) : Int32 := if way = 2 then dCo d s else iI 0
theorem q_Ch_evenest {d : TD} {A : Nat → Nat} {σ : AM} (H : LC A σ) (hd : wfD d) {m : VM} (hT : CTw d m) {l : List Nat} (hl : wl d l) {way : Nat} (hw : way = 0 ∨ way = 2) (hp : plE d way l m) {r : Nat} (hr : r ≤ 15) (hr2 : allW d way l < 2 ^ r) (h5 : m.1 39 5 = iI (r : Int)) : M_Ch_evenest (A 39) (orL d l &&& (andL d l ^^^ (-1))) (iI (l.length : Int)) (bZ (decide (way = 2))) (ov 68 A m σ) = some (iI (nx d way l), (ov 68 A m σ)) := by
  have hS := sN_le hd
  have hW := hd.2.2.2.2.2.2
  have hNL := NL_le d
  have hll := wl_len hl
  have hw1 : ¬ way = 1 := by omega
  have l1 : L_Ch_evenest_1 (A 39) (orL d l &&& (andL d l ^^^ (-1))) (iI (l.length : Int)) (bZ (decide (way = 2))) (iI (-1)) (iI 0) (iI 0) (iI 0) (ov 68 A m σ) = some (iI (nx d way l), (ov 68 A m σ)) := by
    refine up_loop (fun k => L_Ch_evenest_1 (A 39) (orL d l &&& (andL d l ^^^ (-1))) (iI (l.length : Int)) (bZ (decide (way = 2))) (iI (nxN d way l k)) (if nxN d way l k < 0 then iI 0 else coW d way (nxN d way l k).toNat) (iI ((if nxN d way l k < 0 then 0 else hlf d l (nxN d way l k).toNat : Nat) : Int)) (iI (k : Int)) (ov 68 A m σ)) (sN d) (some (iI (nx d way l), (ov 68 A m σ))) (fun k hk ih => ?_) ?_ 0 (Nat.zero_le _)
    · have ih : L_Ch_evenest_1 _ _ _ _ (iI (nxN d way l (k + 1))) (if nxN d way l (k + 1) < 0 then iI 0 else coW d way (nxN d way l (k + 1)).toNat) (iI ((if nxN d way l (k + 1) < 0 then 0 else hlf d l (nxN d way l (k + 1)).toNat : Nat) : Int)) _ _ = _ := ih
      rw [nxN_s] at ih
      have lo := nxN_lo d way l k
      have hh := q_St_has (orL d l &&& (andL d l ^^^ (-1))) (s := k) (by omega) (ov 68 A m σ)
      rw [pt_bit d l (by omega)] at hh
      have hc := q_pl H hd hl hp hr hr2 (s := k) (by omega)
      rw [if_neg hw1] at hc
      have c1 := cL_le d l k
      have hhl : ∀ s, hlf d l s ≤ 16384 := fun s => by
        have := cL_le d l s
        unfold hlf; split <;> omega
      have e1 : (l.length : Int) - (cL d l k : Int) = ((l.length - cL d l k : Nat) : Int) := by omega
      have emx : mxI (iI (cL d l k : Int)) (iI ((l.length - cL d l k : Nat) : Int)) = iI (hlf d l k : Int) := by
        rw [mxI_iI (by omega) (by omega) (by omega) (by omega)]
        congr 1
        unfold hlf
        by_cases c : cL d l k < l.length - cL d l k
        · rw [if_pos (by omega), if_neg (by omega)]
        · rw [if_neg (by omega)]
          by_cases c3 : l.length - cL d l k < cL d l k
          · rw [if_pos c3]
          · rw [if_neg c3]; omega
      have b1 := hhl k
      have b2 : (if nxN d way l k < 0 then 0 else hlf d l (nxN d way l k).toNat) ≤ 16384 := by
        split
        · omega
        · exact hhl _
      have hco := q_Tw_costOf H hd hT hk
      have hbt : ∀ t, btr d way l k t = true ↔ (coW d way k < coW d way t ∨ (coW d way k = coW d way t ∧ hlf d l k < hlf d l t)) := fun t => by
        unfold btr coW
        rw [if_neg hw1]
        rcases hw with rfl | rfl
        · rw [if_neg (fun z => absurd z.1 (by decide)), if_neg (by decide), if_neg (by decide)]
          constructor
          · intro z; exact Or.inr ⟨rfl, of_decide_eq_true z⟩
          · intro z
            rcases z with z | z
            · exact absurd z (by decide)
            · exact decide_eq_true z.2
        · rw [if_pos rfl, if_pos rfl]
          by_cases z : dCo d k = dCo d t
          · rw [if_neg (fun y => y.2 z)]
            constructor
            · intro y; exact Or.inr ⟨z, of_decide_eq_true y⟩
            · intro y
              rcases y with y | y
              · rw [z, Int32.lt_iff_toInt_lt] at y; omega
              · exact decide_eq_true y.2
          · rw [if_pos ⟨rfl, z⟩]
            constructor
            · intro y; exact Or.inl (of_decide_eq_true y)
            · intro y
              rcases y with y | y
              · exact decide_eq_true y
              · exact absurd y.1 z
      -- behind the cost
      have k2 : ptB d l k = true → L_Ch_evenest_2 (A 39) (orL d l &&& (andL d l ^^^ (-1))) (iI (l.length : Int)) (bZ (decide (way = 2))) (iI (nxN d way l k)) (if nxN d way l k < 0 then iI 0 else coW d way (nxN d way l k).toNat) (iI ((if nxN d way l k < 0 then 0 else hlf d l (nxN d way l k).toNat : Nat) : Int)) (iI (k : Int)) (coW d way k) (ov 68 A m σ) = some (iI (nx d way l), (ov 68 A m σ)) := fun hpt => by
        by_cases c1 : nxN d way l k < 0
        · rw [if_pos ⟨hpt, Or.inl c1⟩, if_neg (by omega), if_neg (by omega), Int.toNat_natCast] at ih
          have e : nxN d way l k = -1 := by omega
          rw [e]
          rw [E_Ch_evenest_2]; simp (disch := omega) only [E_Ch_evenest_3, E_Ch_evenest_4, l_1, cK_39 H, cR_39_4 H, cK_40 H, cN_40 H, letT_eq, gd_true, bnd_some, aR_ov, aK_ov, aN_ov, okO_ov, aI_ov H.1, aL_ov H.1, sI_ov H.1, sL_ov H.1, sV_eq, sV_ne, sV_2, sW_eq, sW_ne, sW_1, iI_add, iI_sub, iI_mul, iI_neg, iI_lt, iI_eq, iI_cl, nI_iI, gd_in, bZ_0, bZ_1, bZ_eq, isB_bZ, isB_0, isB_1, nar_bZ, nar_0, nar_1, mw_ov, iI_s, iI_na, iI_nm, Int.toNat_natCast, Int.add_zero, Int.zero_add, Nat.reduceEqDiff, Nat.reduceAdd, Int.reduceAdd, Int.reduceNeg, Int.reduceSub, Int.reduceMul, Int.reduceLT, Int.reduceEq, Int.reduceToNat, reduceCtorEq, ↓reduceIte, h5, hc, e1, emx]
          exact ih
        · rw [if_neg c1, if_neg c1]
          rw [if_neg c1] at b2
          by_cases c2 : coW d way k < coW d way (nxN d way l k).toNat
          · rw [if_pos ⟨hpt, Or.inr ((hbt _).mpr (Or.inl c2))⟩, if_neg (by omega), if_neg (by omega), Int.toNat_natCast] at ih
            rw [E_Ch_evenest_2]; simp (disch := omega) only [E_Ch_evenest_3, E_Ch_evenest_4, l_1, cK_39 H, cR_39_4 H, cK_40 H, cN_40 H, letT_eq, gd_true, bnd_some, aR_ov, aK_ov, aN_ov, okO_ov, aI_ov H.1, aL_ov H.1, sI_ov H.1, sL_ov H.1, sV_eq, sV_ne, sV_2, sW_eq, sW_ne, sW_1, iI_add, iI_sub, iI_mul, iI_neg, iI_lt, iI_eq, iI_cl, nI_iI, gd_in, bZ_0, bZ_1, bZ_eq, isB_bZ, isB_0, isB_1, nar_bZ, nar_0, nar_1, mw_ov, iI_s, iI_na, iI_nm, Int.toNat_natCast, Int.add_zero, Int.zero_add, Nat.reduceEqDiff, Nat.reduceAdd, Int.reduceAdd, Int.reduceNeg, Int.reduceSub, Int.reduceMul, Int.reduceLT, Int.reduceEq, Int.reduceToNat, reduceCtorEq, ↓reduceIte, h5, hc, e1, emx]
            rw [if_neg (by omega), if_pos c2]
            exact ih
          · by_cases c3 : coW d way k = coW d way (nxN d way l k).toNat
            · by_cases c4 : hlf d l k < hlf d l (nxN d way l k).toNat
              · rw [if_pos ⟨hpt, Or.inr ((hbt _).mpr (Or.inr ⟨c3, c4⟩))⟩, if_neg (by omega), if_neg (by omega), Int.toNat_natCast] at ih
                rw [E_Ch_evenest_2]; simp (disch := omega) only [E_Ch_evenest_3, E_Ch_evenest_4, l_1, cK_39 H, cR_39_4 H, cK_40 H, cN_40 H, letT_eq, gd_true, bnd_some, aR_ov, aK_ov, aN_ov, okO_ov, aI_ov H.1, aL_ov H.1, sI_ov H.1, sL_ov H.1, sV_eq, sV_ne, sV_2, sW_eq, sW_ne, sW_1, iI_add, iI_sub, iI_mul, iI_neg, iI_lt, iI_eq, iI_cl, nI_iI, gd_in, bZ_0, bZ_1, bZ_eq, isB_bZ, isB_0, isB_1, nar_bZ, nar_0, nar_1, mw_ov, iI_s, iI_na, iI_nm, Int.toNat_natCast, Int.add_zero, Int.zero_add, Nat.reduceEqDiff, Nat.reduceAdd, Int.reduceAdd, Int.reduceNeg, Int.reduceSub, Int.reduceMul, Int.reduceLT, Int.reduceEq, Int.reduceToNat, reduceCtorEq, ↓reduceIte, h5, hc, e1, emx]
                rw [if_neg (by omega), if_neg c2, if_pos c3, if_pos (by omega)]
                exact ih
              · rw [if_neg (fun z => z.2.elim c1 (fun w => ((hbt _).mp w).elim c2 (fun y => c4 y.2))), if_neg c1, if_neg c1] at ih
                rw [E_Ch_evenest_2]; simp (disch := omega) only [E_Ch_evenest_3, E_Ch_evenest_4, l_1, cK_39 H, cR_39_4 H, cK_40 H, cN_40 H, letT_eq, gd_true, bnd_some, aR_ov, aK_ov, aN_ov, okO_ov, aI_ov H.1, aL_ov H.1, sI_ov H.1, sL_ov H.1, sV_eq, sV_ne, sV_2, sW_eq, sW_ne, sW_1, iI_add, iI_sub, iI_mul, iI_neg, iI_lt, iI_eq, iI_cl, nI_iI, gd_in, bZ_0, bZ_1, bZ_eq, isB_bZ, isB_0, isB_1, nar_bZ, nar_0, nar_1, mw_ov, iI_s, iI_na, iI_nm, Int.toNat_natCast, Int.add_zero, Int.zero_add, Nat.reduceEqDiff, Nat.reduceAdd, Int.reduceAdd, Int.reduceNeg, Int.reduceSub, Int.reduceMul, Int.reduceLT, Int.reduceEq, Int.reduceToNat, reduceCtorEq, ↓reduceIte, h5, hc, e1, emx]
                rw [if_neg (by omega), if_neg c2, if_pos c3, if_neg (by omega)]
                exact ih
            · rw [if_neg (fun z => z.2.elim c1 (fun w => ((hbt _).mp w).elim c2 (fun y => c3 y.1))), if_neg c1, if_neg c1] at ih
              rw [E_Ch_evenest_2]; simp (disch := omega) only [E_Ch_evenest_3, E_Ch_evenest_4, l_1, cK_39 H, cR_39_4 H, cK_40 H, cN_40 H, letT_eq, gd_true, bnd_some, aR_ov, aK_ov, aN_ov, okO_ov, aI_ov H.1, aL_ov H.1, sI_ov H.1, sL_ov H.1, sV_eq, sV_ne, sV_2, sW_eq, sW_ne, sW_1, iI_add, iI_sub, iI_mul, iI_neg, iI_lt, iI_eq, iI_cl, nI_iI, gd_in, bZ_0, bZ_1, bZ_eq, isB_bZ, isB_0, isB_1, nar_bZ, nar_0, nar_1, mw_ov, iI_s, iI_na, iI_nm, Int.toNat_natCast, Int.add_zero, Int.zero_add, Nat.reduceEqDiff, Nat.reduceAdd, Int.reduceAdd, Int.reduceNeg, Int.reduceSub, Int.reduceMul, Int.reduceLT, Int.reduceEq, Int.reduceToNat, reduceCtorEq, ↓reduceIte, h5, hc, e1, emx]
              rw [if_neg (by omega), if_neg c2, if_neg c3]
              exact ih
      show L_Ch_evenest_1 _ _ _ _ _ _ _ _ _ = _
      cases q : ptB d l k
      · rw [if_neg (fun z => by rw [q] at z; exact absurd z.1 (by simp))] at ih
        rw [q] at hh
        rw [E_Ch_evenest_1]; simp (disch := omega) only [l_0, cK_39 H, cR_39_0 H, cK_10 H, letT_eq, gd_true, bnd_some, aR_ov, aK_ov, aN_ov, okO_ov, aI_ov H.1, aL_ov H.1, sI_ov H.1, sL_ov H.1, sV_eq, sV_ne, sV_2, sW_eq, sW_ne, sW_1, iI_add, iI_sub, iI_mul, iI_neg, iI_lt, iI_eq, iI_cl, nI_iI, gd_in, bZ_0, bZ_1, bZ_eq, isB_bZ, isB_0, isB_1, nar_bZ, nar_0, nar_1, mw_ov, iI_s, iI_na, iI_nm, Int.toNat_natCast, Int.add_zero, Int.zero_add, Nat.reduceEqDiff, Nat.reduceAdd, Int.reduceAdd, Int.reduceNeg, Int.reduceSub, Int.reduceMul, Int.reduceLT, Int.reduceEq, Int.reduceToNat, reduceCtorEq, ↓reduceIte, q_Tw_sets H hd hT, hh, E_Ch_evenest_4, l_1]
        rw [if_pos (by omega)]
        exact ih
      · rw [q] at hh
        have k2 := k2 q
        rcases hw with rfl | rfl
        · have eW : coW d 0 k = iI 0 := if_neg (by decide)
          rw [eW] at k2
          rw [show bZ (decide (0 = 2)) = iI 0 from rfl] at k2 ⊢
          rw [E_Ch_evenest_1]; simp (disch := omega) only [l_0, cK_39 H, cR_39_0 H, cK_10 H, letT_eq, gd_true, bnd_some, aR_ov, aK_ov, aN_ov, okO_ov, aI_ov H.1, aL_ov H.1, sI_ov H.1, sL_ov H.1, sV_eq, sV_ne, sV_2, sW_eq, sW_ne, sW_1, iI_add, iI_sub, iI_mul, iI_neg, iI_lt, iI_eq, iI_cl, nI_iI, gd_in, bZ_0, bZ_1, bZ_eq, isB_bZ, isB_0, isB_1, nar_bZ, nar_0, nar_1, mw_ov, iI_s, iI_na, iI_nm, Int.toNat_natCast, Int.add_zero, Int.zero_add, Nat.reduceEqDiff, Nat.reduceAdd, Int.reduceAdd, Int.reduceNeg, Int.reduceSub, Int.reduceMul, Int.reduceLT, Int.reduceEq, Int.reduceToNat, reduceCtorEq, ↓reduceIte, q_Tw_sets H hd hT, hh]
          rw [if_pos (by omega)]
          exact k2
        · have eW : coW d 2 k = dCo d k := if_pos rfl
          rw [eW] at k2
          rw [show bZ (decide (2 = 2)) = iI 1 from rfl] at k2 ⊢
          rw [E_Ch_evenest_1]; simp (disch := omega) only [l_0, cK_39 H, cR_39_0 H, cK_10 H, letT_eq, gd_true, bnd_some, aR_ov, aK_ov, aN_ov, okO_ov, aI_ov H.1, aL_ov H.1, sI_ov H.1, sL_ov H.1, sV_eq, sV_ne, sV_2, sW_eq, sW_ne, sW_1, iI_add, iI_sub, iI_mul, iI_neg, iI_lt, iI_eq, iI_cl, nI_iI, gd_in, bZ_0, bZ_1, bZ_eq, isB_bZ, isB_0, isB_1, nar_bZ, nar_0, nar_1, mw_ov, iI_s, iI_na, iI_nm, Int.toNat_natCast, Int.add_zero, Int.zero_add, Nat.reduceEqDiff, Nat.reduceAdd, Int.reduceAdd, Int.reduceNeg, Int.reduceSub, Int.reduceMul, Int.reduceLT, Int.reduceEq, Int.reduceToNat, reduceCtorEq, ↓reduceIte, q_Tw_sets H hd hT, hh, hco]
          rw [if_pos (by omega)]
          exact k2
    · show L_Ch_evenest_1 _ _ _ _ _ _ _ _ _ = _
      rw [E_Ch_evenest_1]
      simp (disch := omega) only [cK_39 H, cR_39_0 H, cK_10 H, okO_ov, aR_ov, gd_true, bnd_some, q_Tw_sets H hd hT, iI_lt]
      rw [if_neg (by omega)]
      rfl
  unfold M_Ch_evenest
  rw [E_Ch_evenest_0]
  simp only [l_0, l_1, iI_neg]
  exact (congrArg (mw _) l1).trans (mw_ov _ _ _ _ _ _)
