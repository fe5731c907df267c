/-! ===== the fewest trials: some of the lists left are the bits of a number ===== -/
def mkN : Nat → (Nat → Bool) → Nat
  | 0, _ => 0
  | k + 1, p => if p k = true then mkN k p ||| 2 ^ k else mkN k p
theorem tb_mkN (n : Nat) (p : Nat → Bool) (i : Nat) : (mkN n p).testBit i = (decide (i < n) && p i) := by
  induction n with
  | zero => show (0 : Nat).testBit i = _; simp
  | succ n ih =>
    unfold mkN
    by_cases h : p n = true
    · rw [if_pos h, Nat.testBit_or, ih, Nat.testBit_two_pow]
      by_cases e : i = n
      · subst e; simp [h]
      · by_cases q : i < n
        · simp [q, show i < n + 1 by omega, show ¬ n = i by omega]
        · simp [q, show ¬ i < n + 1 by omega, show ¬ n = i by omega]
    · rw [if_neg h, ih]
      by_cases e : i = n
      · subst e; simp [h]
      · by_cases q : i < n
        · simp [q, show i < n + 1 by omega]
        · simp [q, show ¬ i < n + 1 by omega]
theorem mkN_lt (n : Nat) (p : Nat → Bool) : mkN n p < 2 ^ n := by
  induction n with
  | zero => exact Nat.one_pos
  | succ n ih =>
    unfold mkN
    have h1 : 2 ^ n < 2 ^ (n + 1) := Nat.pow_lt_pow_right (by omega) (by omega)
    split
    · exact Nat.or_lt_two_pow (by omega) h1
    · omega
def sdf (S M : Nat) : Nat := S ^^^ (S &&& M)
theorem tb_sdf (S M i : Nat) : (sdf S M).testBit i = (S.testBit i && !M.testBit i) := by
  unfold sdf
  rw [Nat.testBit_xor, Nat.testBit_and]
  cases S.testBit i <;> cases M.testBit i <;> rfl
theorem and_lt {S n : Nat} (h : S < 2 ^ n) (M : Nat) : S &&& M < 2 ^ n := Nat.lt_of_le_of_lt Nat.and_le_left h
theorem sdf_lt {S n : Nat} (h : S < 2 ^ n) (M : Nat) : sdf S M < 2 ^ n := Nat.xor_lt_two_pow h (and_lt h M)
theorem n_ext {S n : Nat} (h : S < 2 ^ n) (z : ∀ i, i < n → S.testBit i = false) : S = 0 := by
  apply Nat.eq_of_testBit_eq
  intro i
  rw [Nat.zero_testBit]
  by_cases c : i < n
  · exact z i c
  · exact Nat.testBit_lt_two_pow (Nat.lt_of_lt_of_le h (Nat.pow_le_pow_right (by omega) (by omega)))
def pcN (n S : Nat) : Nat := cntN n (fun i => S.testBit i)
theorem pcN_0 {S n : Nat} (h : S < 2 ^ n) (z : pcN n S = 0) : S = 0 := n_ext h (cntN_eq_0 z)
theorem pcN_pos {S n : Nat} (h : S < 2 ^ n) (z : S ≠ 0) : 0 < pcN n S := Nat.pos_of_ne_zero fun e => z (pcN_0 h e)
theorem pcN_split (n S M : Nat) : pcN n (S &&& M) + pcN n (sdf S M) = pcN n S := by
  unfold pcN cntN
  rw [← sumN_add]
  apply sumN_congr
  intro i _
  show (if (S &&& M).testBit i = true then 1 else 0) + (if (sdf S M).testBit i = true then 1 else 0) = (if S.testBit i = true then 1 else 0)
  rw [Nat.testBit_and, tb_sdf]
  cases S.testBit i <;> cases M.testBit i <;> rfl
def alk (n : Nat) (ans : Nat → Int32) (S : Nat) : Bool := allN n (fun i => !S.testBit i || allN n (fun j => !S.testBit j || decide (ans i = ans j)))
theorem alk_iff {n : Nat} {ans : Nat → Int32} {S : Nat} : alk n ans S = true ↔ ∀ i j, i < n → j < n → S.testBit i = true → S.testBit j = true → ans i = ans j := by
  unfold alk
  rw [allN_iff]
  constructor
  · intro h i j hi hj h1 h2
    have := h i hi
    rw [h1, Bool.not_true, Bool.false_or, allN_iff] at this
    have := this j hj
    rw [h2, Bool.not_true, Bool.false_or] at this
    exact of_decide_eq_true this
  · intro h i hi
    cases q : S.testBit i
    · rfl
    · rw [Bool.not_true, Bool.false_or, allN_iff]
      intro j hj
      cases q2 : S.testBit j
      · rfl
      · rw [Bool.not_true, Bool.false_or]; exact decide_eq_true (h i j hi hj q q2)
theorem alk_0 (n : Nat) (ans : Nat → Int32) : alk n ans 0 = true := alk_iff.mpr fun i j _ _ h _ => by rw [Nat.zero_testBit] at h; cases h
def byV (f rm : Nat → Nat) (S s : Nat) : Nat := if S &&& rm s = 0 ∨ sdf S (rm s) = 0 then 99 else 1 + max (f (S &&& rm s)) (f (sdf S (rm s)))
def bst (f rm : Nat → Nat) (S : Nat) : Nat → Nat
  | 0 => 99
  | k + 1 => if byV f rm S k < bst f rm S k then byV f rm S k else bst f rm S k
def fwF (n : Nat) (ans : Nat → Int32) (rm : Nat → Nat) : Nat → Nat → Nat
  | 0, _ => 0
  | k + 1, S => if alk n ans S = true then 0 else bst (fwF n ans rm k) rm S 64
def fw (n : Nat) (ans : Nat → Int32) (rm : Nat → Nat) (S : Nat) : Nat := fwF n ans rm n S
theorem bst_congr {f g rm : Nat → Nat} {S : Nat} (h : ∀ s, byV f rm S s = byV g rm S s) (k : Nat) : bst f rm S k = bst g rm S k := by
  induction k with
  | zero => rfl
  | succ k ih => unfold bst; rw [ih, h k]
theorem parts_pc {n S : Nat} (h : S < 2 ^ n) {M : Nat} (h1 : S &&& M ≠ 0) (h2 : sdf S M ≠ 0) : pcN n (S &&& M) < pcN n S ∧ pcN n (sdf S M) < pcN n S ∧ 0 < pcN n (S &&& M) ∧ 0 < pcN n (sdf S M) := by
  have a1 := pcN_pos (and_lt h M) h1
  have a2 := pcN_pos (sdf_lt h M) h2
  have a3 := pcN_split n S M
  omega
theorem fwF_eq {n : Nat} {ans : Nat → Int32} {rm : Nat → Nat} : ∀ (k S k' : Nat), S < 2 ^ n → pcN n S ≤ k → pcN n S ≤ k' → fwF n ans rm k S = fwF n ans rm k' S := by
  intro k
  induction k with
  | zero =>
    intro S k' h h1 h2
    have := pcN_0 h (by omega)
    subst this
    cases k' with
    | zero => rfl
    | succ k' => show 0 = if alk n ans 0 = true then 0 else _; rw [if_pos (alk_0 n ans)]
  | succ k ih =>
    intro S k' h h1 h2
    cases k' with
    | zero =>
      have := pcN_0 h (by omega)
      subst this
      show (if alk n ans 0 = true then 0 else _) = 0; rw [if_pos (alk_0 n ans)]
    | succ k' =>
      show (if alk n ans S = true then 0 else bst (fwF n ans rm k) rm S 64) = (if alk n ans S = true then 0 else bst (fwF n ans rm k') rm S 64)
      rw [bst_congr]
      intro s
      unfold byV
      by_cases c : S &&& rm s = 0 ∨ sdf S (rm s) = 0
      · rw [if_pos c, if_pos c]
      · rw [if_neg c, if_neg c]
        have p := parts_pc h (fun z => c (Or.inl z)) (fun z => c (Or.inr z))
        rw [ih _ k' (and_lt h _) (by omega) (by omega), ih _ k' (sdf_lt h _) (by omega) (by omega)]
theorem pcN_le (n S : Nat) : pcN n S ≤ n := cntN_le _ _
theorem fw_e {n : Nat} {ans : Nat → Int32} {rm : Nat → Nat} {S : Nat} (h : S < 2 ^ n) : fw n ans rm S = if alk n ans S = true then 0 else bst (fw n ans rm) rm S 64 := by
  by_cases c : S = 0
  · subst c
    rw [if_pos (alk_0 n ans)]
    unfold fw
    cases n with
    | zero => rfl
    | succ n => show (if alk _ ans 0 = true then 0 else _) = 0; rw [if_pos (alk_0 _ ans)]
  · have hp := pcN_pos h c
    have hn := pcN_le n S
    obtain ⟨k, rfl⟩ : ∃ k, n = k + 1 := ⟨n - 1, by omega⟩
    show (if alk _ ans S = true then 0 else bst (fwF _ ans rm k) rm S 64) = _
    rw [bst_congr]
    intro s
    unfold byV
    by_cases c : S &&& rm s = 0 ∨ sdf S (rm s) = 0
    · rw [if_pos c, if_pos c]
    · rw [if_neg c, if_neg c]
      have p := parts_pc h (fun z => c (Or.inl z)) (fun z => c (Or.inr z))
      unfold fw
      rw [fwF_eq k _ (k + 1) (and_lt h _) (by omega) (by omega), fwF_eq k _ (k + 1) (sdf_lt h _) (by omega) (by omega)]
theorem fw_0 (n : Nat) (ans : Nat → Int32) (rm : Nat → Nat) : fw n ans rm 0 = 0 := by rw [fw_e (Nat.pow_pos (by omega)), if_pos (alk_0 n ans)]
theorem bst_99 (f rm : Nat → Nat) (S k : Nat) : bst f rm S k ≤ 99 := by
  induction k with
  | zero => exact Nat.le_refl _
  | succ k ih => unfold bst; split <;> omega
theorem bst_le {f rm : Nat → Nat} {S k s : Nat} (h : s < k) : bst f rm S k ≤ byV f rm S s := by
  induction k with
  | zero => omega
  | succ k ih =>
    unfold bst
    by_cases e : s = k
    · subst e; split <;> omega
    · have := ih (by omega)
      split <;> omega
theorem bst_at (f rm : Nat → Nat) (S k : Nat) : bst f rm S k = 99 ∨ ∃ s, s < k ∧ bst f rm S k = byV f rm S s := by
  induction k with
  | zero => exact Or.inl rfl
  | succ k ih =>
    unfold bst
    by_cases c : byV f rm S k < bst f rm S k
    · rw [if_pos c]; exact Or.inr ⟨k, by omega, rfl⟩
    · rw [if_neg c]
      rcases ih with h | ⟨s, h1, h2⟩
      · exact Or.inl h
      · exact Or.inr ⟨s, by omega, h2⟩
theorem bst_ext {f rm : Nat → Nat} {S K N : Nat} (h : K ≤ N) (z : ∀ s, K ≤ s → s < N → byV f rm S s = 99) : bst f rm S N = bst f rm S K := by
  induction N with
  | zero => obtain rfl : K = 0 := by omega
            rfl
  | succ N ih =>
    by_cases e : K = N + 1
    · rw [e]
    · have := bst_99 f rm S N
      rw [show bst f rm S (N + 1) = if byV f rm S N < bst f rm S N then byV f rm S N else bst f rm S N from rfl, z N (by omega) (by omega), if_neg (by omega)]
      exact ih (by omega) (fun s h1 h2 => z s h1 (by omega))
theorem byV_1 (f rm : Nat → Nat) (S s : Nat) : 1 ≤ byV f rm S s := by unfold byV; split <;> omega
/-- lists are parted by some set -/
def dst (n : Nat) (rm : Nat → Nat) : Prop := ∀ i j, i < n → j < n → i ≠ j → ∃ s, s < 64 ∧ (rm s).testBit i ≠ (rm s).testBit j
theorem fw_b {n : Nat} {ans : Nat → Int32} {rm : Nat → Nat} (hd : dst n rm) : ∀ (k S : Nat), S < 2 ^ n → S ≠ 0 → pcN n S ≤ k → fw n ans rm S + 1 ≤ pcN n S := by
  intro k
  induction k with
  | zero => intro S h h0 hk; have := pcN_pos h h0; omega
  | succ k ih =>
    intro S h h0 hk
    have hp := pcN_pos h h0
    rw [fw_e h]
    by_cases c : alk n ans S = true
    · rw [if_pos c]; omega
    · rw [if_neg c]
      have : ∃ i j, i < n ∧ j < n ∧ S.testBit i = true ∧ S.testBit j = true ∧ ans i ≠ ans j := by
        apply Classical.byContradiction
        intro z
        apply c
        rw [alk_iff]
        intro i j hi hj h1 h2
        apply Classical.byContradiction
        intro z2
        exact z ⟨i, j, hi, hj, h1, h2, z2⟩
      obtain ⟨i, j, hi, hj, h1, h2, h3⟩ := this
      obtain ⟨s, hs, hs2⟩ := hd i j hi hj (fun e => h3 (by rw [e]))
      have q1 : S &&& rm s ≠ 0 := fun z => by
        have a1 := congrArg (fun x => x.testBit i) z
        have a2 := congrArg (fun x => x.testBit j) z
        simp only [Nat.testBit_and, h1, h2, Nat.zero_testBit, Bool.true_and] at a1 a2
        exact hs2 (a1.trans a2.symm)
      have q2 : sdf S (rm s) ≠ 0 := fun z => by
        have a1 := congrArg (fun x => x.testBit i) z
        have a2 := congrArg (fun x => x.testBit j) z
        simp only [tb_sdf, h1, h2, Nat.zero_testBit, Bool.true_and] at a1 a2
        cases q3 : (rm s).testBit i <;> cases q4 : (rm s).testBit j <;> simp_all
      have hb : bst (fw n ans rm) rm S 64 ≤ byV (fw n ans rm) rm S s := bst_le hs
      have p := parts_pc h q1 q2
      have i1 := ih _ (and_lt h (rm s)) q1 (by omega)
      have i2 := ih _ (sdf_lt h (rm s)) q2 (by omega)
      have : byV (fw n ans rm) rm S s = 1 + max (fw n ans rm (S &&& rm s)) (fw n ans rm (sdf S (rm s))) := if_neg (fun z => z.elim q1 q2)
      rw [this] at hb
      have hsp := pcN_split n S (rm s)
      omega
/-- where it is not all alike, the fewest are those of a set, and no set has fewer -/
theorem fw_min {n : Nat} {ans : Nat → Int32} {rm : Nat → Nat} (hn : n ≤ 12) (hd : dst n rm) {S : Nat} (h : S < 2 ^ n) (c : ¬ alk n ans S = true) : fw n ans rm S ≤ 11 ∧ (∃ s, s < 64 ∧ fw n ans rm S = byV (fw n ans rm) rm S s) ∧ ∀ s, s < 64 → fw n ans rm S ≤ byV (fw n ans rm) rm S s := by
  have h0 : S ≠ 0 := fun z => by subst z; exact c (alk_0 n ans)
  have hb := fw_b (ans := ans) hd _ S h h0 (Nat.le_refl _)
  have hp := pcN_le n S
  have e : fw n ans rm S = bst (fw n ans rm) rm S 64 := by rw [fw_e h, if_neg c]
  refine ⟨by omega, ?_, fun s hs => by rw [e]; exact bst_le hs⟩
  rcases bst_at (fw n ans rm) rm S 64 with z | ⟨s, h1, h2⟩
  · rw [e] at hb; omega
  · exact ⟨s, h1, by rw [e]; exact h2⟩
theorem fw_le {n : Nat} {ans : Nat → Int32} {rm : Nat → Nat} (hn : n ≤ 12) (hd : dst n rm) {S : Nat} (h : S < 2 ^ n) : fw n ans rm S ≤ 11 := by
  by_cases c : alk n ans S = true
  · rw [fw_e h, if_pos c]; omega
  · exact (fw_min hn hd h c).1
/-- the other way round it is the same -/
theorem byV_sym {f rm : Nat → Nat} {n S : Nat} (h : S < 2 ^ n) {s t : Nat} (e : rm t = sdf (2 ^ n - 1) (rm s)) : byV f rm S t = byV f rm S s := by
  have e1 : S &&& rm t = sdf S (rm s) := by
    apply Nat.eq_of_testBit_eq
    intro i
    rw [e, Nat.testBit_and, tb_sdf, tb_sdf, Nat.testBit_two_pow_sub_one]
    by_cases c : i < n
    · rw [decide_eq_true c, Bool.true_and]
    · rw [Nat.testBit_lt_two_pow (Nat.lt_of_lt_of_le h (Nat.pow_le_pow_right (by omega) (by omega)))]; rfl
  have e2 : sdf S (rm t) = S &&& rm s := by
    apply Nat.eq_of_testBit_eq
    intro i
    rw [e, tb_sdf, tb_sdf, Nat.testBit_and, Nat.testBit_two_pow_sub_one]
    by_cases c : i < n
    · rw [decide_eq_true c, Bool.true_and, Bool.not_not]
    · rw [Nat.testBit_lt_two_pow (Nat.lt_of_lt_of_le h (Nat.pow_le_pow_right (by omega) (by omega)))]; rfl
  unfold byV
  rw [e1, e2]
  by_cases c : S &&& rm s = 0 ∨ sdf S (rm s) = 0
  · rw [if_pos c, if_pos (c.elim Or.inr Or.inl)]
  · rw [if_neg c, if_neg (fun z => c (z.elim Or.inr Or.inl)), Nat.max_comm]
/-! as ints -/
theorem iI_sdf (S M : Nat) : iI (S : Int) &&& (iI (M : Int) ^^^ iI (-1)) = iI ((sdf S M : Nat) : Int) := by
  apply Int32.toBitVec_inj.mp
  rw [Int32.toBitVec_and, Int32.toBitVec_xor, iI_tb, iI_tb, iI_tb, show (iI (-1)).toBitVec = BitVec.allOnes 32 from rfl]
  apply BitVec.eq_of_getLsbD_eq
  intro i hi
  rw [BitVec.getLsbD_and, BitVec.getLsbD_xor, BitVec.getLsbD_allOnes, BitVec.getLsbD_ofNat, BitVec.getLsbD_ofNat, BitVec.getLsbD_ofNat, tb_sdf, decide_eq_true hi, Bool.true_and, Bool.true_and, Bool.true_and]
  cases S.testBit i <;> cases M.testBit i <;> rfl
theorem tb_div (S i : Nat) : S / 2 ^ i % 2 = if S.testBit i = true then 1 else 0 := by
  rw [Nat.testBit_eq_decide_div_mod_eq]
  have : S / 2 ^ i % 2 < 2 := Nat.mod_lt _ (by omega)
  by_cases c : S / 2 ^ i % 2 = 1
  · rw [decide_eq_true c, if_pos rfl, c]
  · rw [decide_eq_false c, if_neg (by decide)]; omega
theorem iI_bit {S i : Nat} (h : S < 2147483648) (hi : i < 32) : (iI (S : Int) >>> (iI (i : Int) &&& iI 31)) &&& iI 1 = iI ((if S.testBit i = true then 1 else 0 : Nat) : Int) := by
  rw [iI_shr h hi, iI_an1, tb_div]
/-! what a question asks -/
def ansV (d : TD) (b : BD) (q w i : Nat) : Int32 := if q = 0 then iI (i : Int) else if q = 1 then bZ (mtr (xL d b i) w) else if q = 2 then bZ (alB (xL d b i) (w / 6) (w % 6)) else if q = 3 then bZ (bt (xL d b i) w) else iI (pcl (xL d b i) : Int)
def rmV (d : TD) (b : BD) (s : Nat) : Nat := mkN (nLf d b) (fun i => bt (xL d b i) s)
theorem rmV_lt (d : TD) (b : BD) (s : Nat) : rmV d b s < 2 ^ nLf d b := mkN_lt _ _
theorem tb_rmV (d : TD) (b : BD) (s i : Nat) : (rmV d b s).testBit i = (decide (i < nLf d b) && bt (xL d b i) s) := tb_mkN _ _ _
theorem rmV_low {d : TD} (hd : wfD d) (b : BD) {s : Nat} (hs : sN d ≤ s) : rmV d b s = 0 := by
  apply Nat.eq_of_testBit_eq
  intro i
  rw [tb_rmV, xL_low hd b i s hs, Bool.and_false, Nat.zero_testBit]
theorem lf_inj {d : TD} {b : BD} {i j : Nat} (hi : i < nLf d b) (hj : j < nLf d b) (h : lf d b i = lf d b j) : i = j := by
  have hn := (wl_lefts d b).1
  unfold lf at h
  rw [List.getD_eq_getElem?_getD, List.getD_eq_getElem?_getD, List.getElem?_eq_getElem hi, List.getElem?_eq_getElem hj] at h
  exact (List.getElem_inj hn).mp h
theorem dst_rm {d : TD} (b : BD) : dst (nLf d b) (rmV d b) := by
  intro i j hi hj hij
  have hne : ¬ xL d b i = xL d b j := fun e => hij (lf_inj hi hj (LL_inj (lf_lt hi) (lf_lt hj) e))
  apply Classical.byContradiction
  intro z
  apply hne
  apply bt_ext
  intro s hs
  apply Classical.byContradiction
  intro z2
  apply z
  refine ⟨s, hs, ?_⟩
  rw [tb_rmV, tb_rmV, decide_eq_true hi, decide_eq_true hj, Bool.true_and, Bool.true_and]
  exact z2
/-- what is asked of the fewest -/
def fewA (d : TD) (b : BD) (q w : Nat) (c : Int) : Int := if c = 0 then (fw (nLf d b) (ansV d b q w) (rmV d b) (2 ^ nLf d b - 1) : Int) else if fw (nLf d b) (ansV d b q w) (rmV d b) (2 ^ nLf d b - 1) = 0 then -1 else fsN 64 (fun s => decide (byV (fw (nLf d b) (ansV d b q w) (rmV d b)) (rmV d b) (2 ^ nLf d b - 1) s = fw (nLf d b) (ansV d b q w) (rmV d b) (2 ^ nLf d b - 1)))
