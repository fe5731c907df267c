/-! ===== sums, and sets as the bits of a long ===== -/
def sumN : Nat → (Nat → Nat) → Nat
  | 0, _ => 0
  | n + 1, f => sumN n f + f n
def cntN (n : Nat) (p : Nat → Bool) : Nat := sumN n (fun i => if p i = true then 1 else 0)
theorem sumN_0 (f : Nat → Nat) : sumN 0 f = 0 := rfl
theorem sumN_s (n : Nat) (f : Nat → Nat) : sumN (n + 1) f = sumN n f + f n := rfl
theorem cntN_0 (p : Nat → Bool) : cntN 0 p = 0 := rfl
theorem cntN_s (n : Nat) (p : Nat → Bool) : cntN (n + 1) p = cntN n p + if p n = true then 1 else 0 := rfl
theorem sumN_congr {n : Nat} {f g : Nat → Nat} (h : ∀ i, i < n → f i = g i) : sumN n f = sumN n g := by
  induction n with
  | zero => rfl
  | succ n ih => rw [sumN_s, sumN_s, ih fun i hi => h i (by omega), h n (by omega)]
theorem cntN_congr {n : Nat} {p q : Nat → Bool} (h : ∀ i, i < n → p i = q i) : cntN n p = cntN n q := sumN_congr fun i hi => by rw [h i hi]
theorem cntN_le (n : Nat) (p : Nat → Bool) : cntN n p ≤ n := by
  induction n with
  | zero => exact Nat.le_refl _
  | succ n ih => rw [cntN_s]; split <;> omega
theorem sumN_le {n : Nat} {f : Nat → Nat} {c : Nat} (h : ∀ i, i < n → f i ≤ c) : sumN n f ≤ n * c := by
  induction n with
  | zero => rw [sumN_0]; omega
  | succ n ih => rw [sumN_s, Nat.succ_mul]; have := ih fun i hi => h i (by omega); have := h n (by omega); omega
theorem cntN_all {n : Nat} {p : Nat → Bool} (h : ∀ i, i < n → p i = true) : cntN n p = n := by
  induction n with
  | zero => rfl
  | succ n ih => rw [cntN_s, ih fun i hi => h i (by omega), h n (by omega)]; rfl
theorem cntN_none {n : Nat} {p : Nat → Bool} (h : ∀ i, i < n → p i = false) : cntN n p = 0 := by
  induction n with
  | zero => rfl
  | succ n ih => rw [cntN_s, ih fun i hi => h i (by omega), h n (by omega)]; rfl
theorem cntN_eq_all {n : Nat} {p : Nat → Bool} (h : cntN n p = n) : ∀ i, i < n → p i = true := by
  induction n with
  | zero => intro i hi; omega
  | succ n ih =>
    rw [cntN_s] at h
    have h1 := cntN_le n p
    by_cases hp : p n = true
    · rw [if_pos hp] at h
      intro i hi
      by_cases e : i = n
      · rw [e]; exact hp
      · exact ih (by omega) i (by omega)
    · rw [if_neg hp] at h; omega
theorem cntN_eq_0 {n : Nat} {p : Nat → Bool} (h : cntN n p = 0) : ∀ i, i < n → p i = false := by
  induction n with
  | zero => intro i hi; omega
  | succ n ih =>
    rw [cntN_s] at h
    intro i hi
    by_cases hp : p n = true
    · rw [if_pos hp] at h; omega
    · by_cases e : i = n
      · rw [e]; cases q : p n
        · rfl
        · exact absurd q hp
      · exact ih (by omega) i (by omega)
/-- bit s of a long -/
def bt (x : Int64) (s : Nat) : Bool := x.toBitVec.getLsbD s
theorem bt_ext {x y : Int64} (h : ∀ s, s < 64 → bt x s = bt y s) : x = y := Int64.toBitVec_inj.mp (BitVec.eq_of_getLsbD_eq fun i hi => h i hi)
theorem bt_big (x : Int64) {s : Nat} (h : 64 ≤ s) : bt x s = false := BitVec.getLsbD_of_ge _ _ h
theorem bt_and (x y : Int64) (s : Nat) : bt (x &&& y) s = (bt x s && bt y s) := by unfold bt; rw [Int64.toBitVec_and, BitVec.getLsbD_and]
theorem bt_or (x y : Int64) (s : Nat) : bt (x ||| y) s = (bt x s || bt y s) := by unfold bt; rw [Int64.toBitVec_or, BitVec.getLsbD_or]
theorem bt_0 (s : Nat) : bt 0 s = false := by unfold bt; rw [Int64.toBitVec_zero, BitVec.getLsbD_zero]
theorem bt_m1 {s : Nat} (h : s < 64) : bt (-1) s = true := by
  have : ∀ s : Fin 64, bt (-1) s.val = true := by decide
  exact this ⟨s, h⟩
theorem bt_not (x : Int64) {s : Nat} (h : s < 64) : bt (x ^^^ (-1)) s = !bt x s := by
  have h1 := bt_m1 h
  unfold bt at h1 ⊢
  rw [Int64.toBitVec_xor, BitVec.getLsbD_xor, h1]; simp
theorem bt_not' (x : Int64) (s : Nat) : bt (x ^^^ (-1)) s = (decide (s < 64) && !bt x s) := by
  by_cases h : s < 64
  · rw [bt_not x h]; simp [h]
  · rw [bt_big _ (by omega)]; simp [h]
theorem bt_z {x : Int64} : x = 0 ↔ ∀ s, s < 64 → bt x s = false := ⟨fun h s _ => by rw [h, bt_0], fun h => bt_ext fun s hs => by rw [h s hs, bt_0]⟩
/-- the SET s alone -/
def b1 (s : Nat) : Int64 := ⟨⟨BitVec.twoPow 64 s⟩⟩
theorem bt_b1 {s : Nat} (h : s < 64) (j : Nat) : bt (b1 s) j = decide (j = s) := by
  show (BitVec.twoPow 64 s).getLsbD j = _
  rw [BitVec.getLsbD_twoPow]
  by_cases e : j = s
  · subst e; simp [h]
  · have e' : ¬ s = j := fun q => e q.symm
    simp [e, e']
theorem sh_amt {s : Nat} (h : s < 64) : (((iI (s : Int)).toInt64 &&& 63).toBitVec.smod 64).toNat = s := by
  have : ∀ s : Fin 64, (((iI (s.val : Int)).toInt64 &&& 63).toBitVec.smod 64).toNat = s.val := by decide +kernel
  exact this ⟨s, h⟩
theorem sh_uamt {s : Nat} (h : s < 64) : ((((iI (s : Int)).toInt64.toUInt64 &&& Int64.toUInt64 63)).toBitVec % 64).toNat = s := by
  have : ∀ s : Fin 64, ((((iI (s.val : Int)).toInt64.toUInt64 &&& Int64.toUInt64 63)).toBitVec % 64).toNat = s.val := by decide +kernel
  exact this ⟨s, h⟩
theorem shl_b1 {s : Nat} (h : s < 64) : (1 : Int64) <<< ((iI (s : Int)).toInt64 &&& 63) = b1 s := by
  have : ∀ s : Fin 64, (1 : Int64) <<< ((iI (s.val : Int)).toInt64 &&& 63) = b1 s.val := by decide +kernel
  exact this ⟨s, h⟩
theorem bt_shl (x : Int64) {s : Nat} (h : s < 64) {j : Nat} (hj : j < 64) : bt (x <<< ((iI (s : Int)).toInt64 &&& 63)) j = (decide (s ≤ j) && bt x (j - s)) := by
  unfold bt
  rw [Int64.toBitVec_shiftLeft, BitVec.shiftLeft_eq', sh_amt h, BitVec.getLsbD_shiftLeft]
  by_cases q : j < s
  · simp [q, hj, show ¬ s ≤ j by omega]
  · simp [q, hj, show s ≤ j by omega]
theorem bt_ushr (x : Int64) {s : Nat} (h : s < 64) (j : Nat) : bt ((x.toUInt64 >>> ((iI (s : Int)).toInt64.toUInt64 &&& Int64.toUInt64 63)).toInt64) j = bt x (s + j) := by
  unfold bt
  show (x.toUInt64 >>> ((iI (s : Int)).toInt64.toUInt64 &&& Int64.toUInt64 63)).toBitVec.getLsbD j = _
  rw [UInt64.toBitVec_shiftRight, BitVec.ushiftRight_eq', sh_uamt h, BitVec.getLsbD_ushiftRight]
  rfl
theorem bt_sshr0 (x : Int64) {s : Nat} (h : s < 64) : bt (x >>> ((iI (s : Int)).toInt64 &&& 63)) 0 = bt x s := by
  unfold bt
  rw [Int64.toBitVec_shiftRight, BitVec.sshiftRight_eq', sh_amt h, BitVec.getLsbD_sshiftRight]
  simp [h]
theorem and1 (x : Int64) : x &&& 1 = if bt x 0 = true then 1 else 0 := by
  apply bt_ext
  intro s hs
  rw [bt_and]
  have h1 : ∀ s : Fin 64, bt 1 s.val = decide (s.val = 0) := by decide +kernel
  rw [show bt 1 s = decide (s = 0) from h1 ⟨s, hs⟩]
  by_cases e : s = 0
  · subst e
    by_cases q : bt x 0 = true
    · rw [if_pos q, q]; rfl
    · rw [if_neg q]; simp [q, bt_0]
  · by_cases q : bt x 0 = true
    · rw [if_pos q, show bt 1 s = decide (s = 0) from h1 ⟨s, hs⟩]; simp [e]
    · rw [if_neg q, bt_0]; simp [e]
theorem lgc0 (x y : Int64) : (lg_cmp x y = iI 0) = (x = y) := propext (lg_cmp_eq x y)
theorem q_St_has (x : Int64) {s : Nat} (h : s < 64) (σ : AM) : M_St_has x (iI (s : Int)) σ = some (bZ (bt x s), σ) := by
  unfold M_St_has
  have e := and1 ((x.toUInt64 >>> ((iI (s : Int)).toInt64.toUInt64 &&& Int64.toUInt64 63)).toInt64)
  rw [bt_ushr x h 0, Nat.add_zero] at e
  rw [E_St_has_0, e]
  simp only [E_St_has_1, l_0, l_1, lgc0]
  by_cases q : bt x s = true
  · rw [if_pos q, if_neg (by decide), q]; rw [isB_1, gd_true, mw_of (Nat.le_refl _) (Nat.le_refl _)]; rfl
  · rw [if_neg q, if_pos rfl, isB_0, gd_true, mw_of (Nat.le_refl _) (Nat.le_refl _)]; simp [q, bZ]
theorem q_Md_doesRing (x : Int64) {s : Nat} (h : s < 64) (σ : AM) : M_Md_doesRing x (iI (s : Int)) σ = some (bZ (bt x s), σ) := by
  unfold M_Md_doesRing
  have e := and1 (x >>> ((iI (s : Int)).toInt64 &&& 63))
  rw [bt_sshr0 x h] at e
  rw [E_Md_doesRing_0, e]
  simp only [E_Md_doesRing_1, l_0, l_1, lgc0]
  by_cases q : bt x s = true
  · rw [if_pos q, if_pos rfl, q]; rw [isB_1, gd_true, mw_of (Nat.le_refl _) (Nat.le_refl _)]; rfl
  · rw [if_neg q, if_neg (by decide), isB_0, gd_true, mw_of (Nat.le_refl _) (Nat.le_refl _)]; simp [q, bZ]
/-- the SETS below n of which p holds -/
def mkB : Nat → (Nat → Bool) → Int64
  | 0, _ => 0
  | n + 1, p => if p n = true then mkB n p ||| b1 n else mkB n p
theorem bt_mkB {n : Nat} (hn : n ≤ 64) (p : Nat → Bool) (s : Nat) : bt (mkB n p) s = (decide (s < n) && p s) := by
  induction n with
  | zero => rw [show mkB 0 p = 0 from rfl, bt_0]; simp
  | succ n ih =>
    have ih' := ih (by omega)
    unfold mkB
    by_cases hp : p n = true
    · rw [if_pos hp, bt_or, ih', bt_b1 (by omega)]
      by_cases e : s = n
      · subst e; simp [hp]
      · by_cases q : s < n
        · simp [e, q, show s < n + 1 by omega]
        · simp [e, q, show ¬ s < n + 1 by omega]
    · rw [if_neg hp, ih']
      by_cases e : s = n
      · subst e; simp [hp]
      · by_cases q : s < n
        · simp [q, show s < n + 1 by omega]
        · simp [q, show ¬ s < n + 1 by omega]
