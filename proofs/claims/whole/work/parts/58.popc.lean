/-! ===== how many bits: the library's way is the count ===== -/
def alt (w : Nat) : Nat → Nat
  | 0 => 0
  | n + 1 => 2 ^ (2 * w) * alt w n + (2 ^ w - 1)
def ds (w : Nat) : Nat → Nat → Nat
  | 0, _ => 0
  | n + 1, x => x % 2 ^ w + ds w n (x / 2 ^ w)
def dle (w B : Nat) : Nat → Nat → Prop
  | 0, _ => True
  | n + 1, x => x % 2 ^ w ≤ B ∧ dle w B n (x / 2 ^ w)
def stg (w n x : Nat) : Nat := (x &&& alt w n) + ((x / 2 ^ w) &&& alt w n)
theorem and_split {k a c x y : Nat} (ha : a < 2 ^ k) (hc : c < 2 ^ k) : (2 ^ k * x + a) &&& (2 ^ k * y + c) = 2 ^ k * (x &&& y) + (a &&& c) := by
  apply Nat.eq_of_testBit_eq
  intro i
  rw [Nat.testBit_and, Nat.testBit_two_pow_mul_add _ ha, Nat.testBit_two_pow_mul_add _ hc, Nat.testBit_two_pow_mul_add _ (Nat.lt_of_le_of_lt Nat.and_le_left ha)]
  split <;> rw [Nat.testBit_and]
theorem pw2 (w : Nat) : 2 ^ (2 * w) = 2 ^ w * 2 ^ w := by rw [Nat.two_mul, Nat.pow_add]
theorem and_alt (w n x : Nat) : x &&& alt w (n + 1) = 2 ^ (2 * w) * ((x / 2 ^ (2 * w)) &&& alt w n) + x % 2 ^ w := by
  have hw : 0 < 2 ^ w := Nat.pow_pos (by omega)
  have hq : 0 < 2 ^ (2 * w) := Nat.pow_pos (by omega)
  have hl : 2 ^ w - 1 < 2 ^ (2 * w) := by
    have : 2 ^ w ≤ 2 ^ (2 * w) := Nat.pow_le_pow_right (by omega) (by omega)
    omega
  have e : x = 2 ^ (2 * w) * (x / 2 ^ (2 * w)) + x % 2 ^ (2 * w) := (Nat.div_add_mod x _).symm
  have := and_split (x := x / 2 ^ (2 * w)) (y := alt w n) (Nat.mod_lt x hq) hl
  rw [← e] at this
  show x &&& (2 ^ (2 * w) * alt w n + (2 ^ w - 1)) = _
  rw [this, Nat.and_two_pow_sub_one_eq_mod, pw2, Nat.mod_mul_left_mod]
theorem stg_s (w n x : Nat) : stg w (n + 1) x = 2 ^ (2 * w) * stg w n (x / 2 ^ (2 * w)) + (x % 2 ^ w + x / 2 ^ w % 2 ^ w) := by
  unfold stg
  rw [and_alt, and_alt, Nat.div_div_eq_div_mul, Nat.mul_comm (2 ^ w), ← Nat.div_div_eq_div_mul, Nat.mul_add]
  omega
theorem dig_lt {w : Nat} (hw : 0 < w) (a b : Nat) : a % 2 ^ w + b % 2 ^ w < 2 ^ (2 * w) := by
  have h1 : 2 ^ 1 ≤ 2 ^ w := Nat.pow_le_pow_right (by omega) hw
  have h2 := Nat.mod_lt a (Nat.pow_pos (n := w) (show 0 < 2 by omega))
  have h3 := Nat.mod_lt b (Nat.pow_pos (n := w) (show 0 < 2 by omega))
  have h4 : 2 * 2 ^ w ≤ 2 ^ w * 2 ^ w := Nat.mul_le_mul_right _ h1
  rw [pw2]; omega
theorem ds_stg {w : Nat} (hw : 0 < w) (n x : Nat) : ds (2 * w) n (stg w n x) = ds w (2 * n) x := by
  induction n generalizing x with
  | zero => rfl
  | succ n ih =>
    have hl := dig_lt hw x (x / 2 ^ w)
    rw [stg_s]
    show (2 ^ (2 * w) * stg w n (x / 2 ^ (2 * w)) + _) % 2 ^ (2 * w) + ds (2 * w) n ((2 ^ (2 * w) * stg w n (x / 2 ^ (2 * w)) + _) / 2 ^ (2 * w)) = _
    rw [Nat.mul_add_mod, Nat.mod_eq_of_lt hl, Nat.mul_add_div (Nat.pow_pos (by omega)), Nat.div_eq_of_lt hl, Nat.add_zero, ih]
    show _ = x % 2 ^ w + (x / 2 ^ w % 2 ^ w + ds w (2 * n) (x / 2 ^ w / 2 ^ w))
    rw [Nat.div_div_eq_div_mul, ← pw2]; omega
theorem dle_stg {w : Nat} (hw : 0 < w) {B : Nat} (n x : Nat) (h : dle w B (2 * n) x) : dle (2 * w) (2 * B) n (stg w n x) := by
  induction n generalizing x with
  | zero => trivial
  | succ n ih =>
    have hl := dig_lt hw x (x / 2 ^ w)
    obtain ⟨h1, h2, h3⟩ : x % 2 ^ w ≤ B ∧ x / 2 ^ w % 2 ^ w ≤ B ∧ dle w B (2 * n) (x / 2 ^ w / 2 ^ w) := h
    rw [stg_s]
    show (2 ^ (2 * w) * stg w n (x / 2 ^ (2 * w)) + _) % 2 ^ (2 * w) ≤ 2 * B ∧ dle (2 * w) (2 * B) n ((2 ^ (2 * w) * stg w n (x / 2 ^ (2 * w)) + _) / 2 ^ (2 * w))
    rw [Nat.mul_add_mod, Nat.mod_eq_of_lt hl, Nat.mul_add_div (Nat.pow_pos (by omega)), Nat.div_eq_of_lt hl, Nat.add_zero]
    rw [Nat.div_div_eq_div_mul, ← pw2] at h3
    exact ⟨by omega, ih _ h3⟩
theorem dle_bits (n x : Nat) : dle 1 1 n x := by
  induction n generalizing x with
  | zero => trivial
  | succ n ih => exact ⟨by have := Nat.mod_lt x (show 0 < 2 ^ 1 by decide); omega, ih _⟩
theorem stg1 (n x : Nat) (h : x < 4 ^ n) : x - ((x / 2) &&& alt 1 n) = stg 1 n x := by
  have key : ∀ n x, x < 4 ^ n → x = (x &&& alt 1 n) + 2 * ((x / 2) &&& alt 1 n) := by
    intro n
    induction n with
    | zero => intro x hx; have : x = 0 := by omega
              subst this; rfl
    | succ n ih =>
      intro x hx
      have h1 := ih (x / 4) (by rw [Nat.pow_succ] at hx; omega)
      have e1 := and_alt 1 n x
      have e2 := and_alt 1 n (x / 2)
      have e3 : x / 2 / 2 ^ (2 * 1) = x / 4 / 2 := by omega
      have e4 : x / 2 ^ (2 * 1) = x / 4 := by omega
      rw [e3] at e2; rw [e4] at e1
      rw [e1, e2]
      have e5 : 2 ^ (2 * 1) = 4 := by decide
      have e6 : 2 ^ 1 = 2 := by decide
      rw [e5, e6]
      omega
  have := key n x h
  unfold stg
  have e6 : 2 ^ 1 = 2 := by decide
  rw [e6]; omega
theorem stg3 (n x : Nat) (h : dle 4 7 (2 * n) x) : (x + x / 16) &&& alt 4 n = stg 4 n x := by
  induction n generalizing x with
  | zero => show _ &&& 0 = (_ &&& 0) + (_ &&& 0); rw [Nat.and_zero, Nat.and_zero, Nat.and_zero]
  | succ n ih =>
    obtain ⟨h1, h2, h3⟩ : x % 2 ^ 4 ≤ 7 ∧ x / 2 ^ 4 % 2 ^ 4 ≤ 7 ∧ dle 4 7 (2 * n) (x / 2 ^ 4 / 2 ^ 4) := h
    rw [and_alt, stg_s]
    have p4 : 2 ^ 4 = 16 := by decide
    have p8 : 2 ^ (2 * 4) = 256 := by decide
    rw [p4] at h1 h2 h3 ⊢
    rw [p8]
    have e0 : x / 16 / 16 = x / 256 := by omega
    rw [e0] at h3
    cases n with
    | zero =>
      show 256 * (_ &&& 0) + _ = 256 * (((_ &&& 0) + (_ &&& 0))) + _
      rw [Nat.and_zero, Nat.and_zero, Nat.and_zero]; omega
    | succ n =>
      have h4 : x / 256 % 2 ^ 4 ≤ 7 := h3.1
      rw [p4] at h4
      rw [show (x + x / 16) / 256 = x / 256 + x / 256 / 16 by omega, ih _ h3]
      omega
theorem cntN_front (n : Nat) (p : Nat → Bool) : cntN (n + 1) p = (if p 0 = true then 1 else 0) + cntN n (fun i => p (i + 1)) := by
  induction n with
  | zero => rw [cntN_s, cntN_0, cntN_0]; omega
  | succ n ih => rw [cntN_s, ih, cntN_s]; omega
theorem ds_bits (n x : Nat) : ds 1 n x = cntN n (fun i => x.testBit i) := by
  induction n generalizing x with
  | zero => rfl
  | succ n ih =>
    rw [cntN_front]
    show x % 2 ^ 1 + ds 1 n (x / 2 ^ 1) = _
    rw [ih]
    have e6 : 2 ^ 1 = 2 := by decide
    rw [e6]
    have e : cntN n (fun i => (x / 2).testBit i) = cntN n (fun i => x.testBit (i + 1)) := cntN_congr fun i _ => by rw [Nat.testBit_succ]
    rw [e, Nat.testBit_zero]
    by_cases h : x % 2 = 1
    · simp [h]
    · simp [show x % 2 = 0 by omega]
theorem ush_nat (x : Int64) {s : Nat} (h : s < 64) : ((x.toUInt64 >>> ((iI (s : Int)).toInt64.toUInt64 &&& Int64.toUInt64 63)).toInt64).toBitVec.toNat = x.toBitVec.toNat / 2 ^ s := by
  show (x.toUInt64 >>> ((iI (s : Int)).toInt64.toUInt64 &&& Int64.toUInt64 63)).toBitVec.toNat = _
  rw [UInt64.toBitVec_shiftRight, BitVec.ushiftRight_eq', sh_uamt h, BitVec.toNat_ushiftRight, Nat.shiftRight_eq_div_pow]
  rfl
theorem fin_a (r0 r1 r2 r3 a0 a1 a2 : Nat) (e0 : r0 = a0 + 256 * a1 + 65536 * r2) (e1 : r1 = a1 + 256 * a2 + 65536 * r3) (h0 : a0 ≤ 8) (h1 : a1 ≤ 8) (h2 : a2 ≤ 8) : (r0 + r1) / 65536 = r2 + r3 := by omega
theorem fin_b (r0 r1 r2 r3 r4 r5 r6 r7 a0 a1 a2 a3 a4 a5 a6 : Nat) (e0 : r0 = a0 + 256 * a1 + 65536 * a2 + 16777216 * a3 + 4294967296 * r4) (e1 : r1 = a1 + 256 * a2 + 65536 * a3 + 16777216 * a4 + 4294967296 * r5) (e2 : r2 = a2 + 256 * a3 + 65536 * a4 + 16777216 * a5 + 4294967296 * r6) (e3 : r3 = a3 + 256 * a4 + 65536 * a5 + 16777216 * a6 + 4294967296 * r7) (h0 : a0 ≤ 8) (h1 : a1 ≤ 8) (h2 : a2 ≤ 8) (h3 : a3 ≤ 8) (h4 : a4 ≤ 8) (h5 : a5 ≤ 8) (h6 : a6 ≤ 8) : (r0 + r1 + (r2 + r3)) / 4294967296 = r4 + r5 + (r6 + r7) := by
  have e : r0 + r1 + (r2 + r3) = 4294967296 * (r4 + r5 + (r6 + r7)) + ((a0 + a1 + a2 + a3) + 256 * (a1 + a2 + a3 + a4) + 65536 * (a2 + a3 + a4 + a5) + 16777216 * (a3 + a4 + a5 + a6)) := by omega
  have l : (a0 + a1 + a2 + a3) + 256 * (a1 + a2 + a3 + a4) + 65536 * (a2 + a3 + a4 + a5) + 16777216 * (a3 + a4 + a5 + a6) < 4294967296 := by omega
  rw [e, Nat.mul_add_div (by decide), Nat.div_eq_of_lt l, Nat.add_zero]
theorem fin_c (r0 r1 r2 r3 r4 r5 r6 r7 r8 a0 a1 a2 a3 a4 a5 a6 a7 : Nat) (e0 : r0 = a0 + 256 * r1) (e1 : r1 = a1 + 256 * r2) (e2 : r2 = a2 + 256 * r3) (e3 : r3 = a3 + 256 * r4) (e4 : r4 = a4 + 256 * r5) (e5 : r5 = a5 + 256 * r6) (e6 : r6 = a6 + 256 * r7) (e7 : r7 = a7 + 256 * r8) (h : a0 + a1 + a2 + a3 + a4 + a5 + a6 + a7 ≤ 64) : (r0 + r1 + (r2 + r3) + (r4 + r5 + (r6 + r7))) % 128 = a0 + (a1 + (a2 + (a3 + (a4 + (a5 + (a6 + (a7 + 0))))))) := by
  have e : r0 + r1 + (r2 + r3) + (r4 + r5 + (r6 + r7)) = (a0 + (a1 + (a2 + (a3 + (a4 + (a5 + (a6 + (a7 + 0)))))))) + 128 * (2 * (r1 + r2 + r3 + r4 + r5 + r6 + r7 + r8)) := by omega
  rw [e, Nat.add_mul_mod_self_left, Nat.mod_eq_of_lt (by omega)]
theorem fin_f {r0 r1 r2 a0 a1 : Nat} (e0 : r0 = a0 + 256 * r1) (e1 : r1 = a1 + 256 * r2) : r0 = a0 + 256 * a1 + 65536 * r2 := by omega
theorem fin_g {r0 r1 r2 r3 r4 a0 a1 a2 a3 : Nat} (e0 : r0 = a0 + 256 * r1) (e1 : r1 = a1 + 256 * r2) (e2 : r2 = a2 + 256 * r3) (e3 : r3 = a3 + 256 * r4) : r0 = a0 + 256 * a1 + 65536 * a2 + 16777216 * a3 + 4294967296 * r4 := by omega
theorem fin_u {x b : Nat} (h : x < 256 * b) : x / 256 < b := Nat.div_lt_of_lt_mul h
theorem fin_e {r a q b : Nat} (e : r = a + 256 * q) (h : a ≤ 8) (k : q ≤ b) : r ≤ 8 + 256 * b := by omega
theorem fin_l {r a q b : Nat} (e : r = a + 256 * q) (h : r < 256 * b) : q < b := by omega
theorem fin_d (r0 r1 r2 r3 r4 r5 r6 r7 r8 a0 a1 a2 a3 a4 a5 a6 a7 : Nat) (e0 : r0 = a0 + 256 * r1) (e1 : r1 = a1 + 256 * r2) (e2 : r2 = a2 + 256 * r3) (e3 : r3 = a3 + 256 * r4) (e4 : r4 = a4 + 256 * r5) (e5 : r5 = a5 + 256 * r6) (e6 : r6 = a6 + 256 * r7) (e7 : r7 = a7 + 256 * r8) (h0 : a0 ≤ 8) (h1 : a1 ≤ 8) (h2 : a2 ≤ 8) (h3 : a3 ≤ 8) (h4 : a4 ≤ 8) (h5 : a5 ≤ 8) (h6 : a6 ≤ 8) (h7 : a7 ≤ 8) (hx : r0 < 18446744073709551616) : r0 ≤ 578721382704613384 ∧ r1 ≤ 2260630401189896 ∧ r2 ≤ 8830587504648 ∧ r3 ≤ 34494482440 ∧ r4 ≤ 134744072 ∧ r5 ≤ 526344 ∧ r6 ≤ 2056 ∧ r7 ≤ 8 := by
  have l1 : r1 < 72057594037927936 := fin_l e0 hx
  have l2 : r2 < 281474976710656 := fin_l e1 l1
  have l3 : r3 < 1099511627776 := fin_l e2 l2
  have l4 : r4 < 4294967296 := fin_l e3 l3
  have l5 : r5 < 16777216 := fin_l e4 l4
  have l6 : r6 < 65536 := fin_l e5 l5
  have l7 : r7 < 256 := fin_l e6 l6
  have l8 : r8 < 1 := fin_l e7 l7
  have z : r8 ≤ 0 := by omega
  have k7 : r7 ≤ 8 := fin_e e7 h7 z
  have k6 : r6 ≤ 2056 := fin_e e6 h6 k7
  have k5 : r5 ≤ 526344 := fin_e e5 h5 k6
  have k4 : r4 ≤ 134744072 := fin_e e4 h4 k5
  have k3 : r3 ≤ 34494482440 := fin_e e3 h3 k4
  have k2 : r2 ≤ 8830587504648 := fin_e e2 h2 k3
  have k1 : r1 ≤ 2260630401189896 := fin_e e1 h1 k2
  have k0 : r0 ≤ 578721382704613384 := fin_e e0 h0 k1
  exact ⟨k0, k1, k2, k3, k4, k5, k6, k7⟩
theorem fin_sum (x3 : Nat) (h : dle 8 8 8 x3) (hx : x3 < 2 ^ 64) : ∃ x4 x5 x6 : Nat, x4 = x3 + x3 / 2 ^ 8 ∧ x5 = x4 + x4 / 2 ^ 16 ∧ x6 = x5 + x5 / 2 ^ 32 ∧ x4 < 2 ^ 64 ∧ x5 < 2 ^ 64 ∧ x6 < 2 ^ 64 ∧ x6 % 128 = ds 8 8 x3 := by
  obtain ⟨h0, h1, h2, h3, h4, h5, h6, h7, _⟩ : (x3 % 256) ≤ 8 ∧ ((x3 / 256) % 256) ≤ 8 ∧ (((x3 / 256) / 256) % 256) ≤ 8 ∧ ((((x3 / 256) / 256) / 256) % 256) ≤ 8 ∧ (((((x3 / 256) / 256) / 256) / 256) % 256) ≤ 8 ∧ ((((((x3 / 256) / 256) / 256) / 256) / 256) % 256) ≤ 8 ∧ (((((((x3 / 256) / 256) / 256) / 256) / 256) / 256) % 256) ≤ 8 ∧ ((((((((x3 / 256) / 256) / 256) / 256) / 256) / 256) / 256) % 256) ≤ 8 ∧ True := h
  have hx2 : x3 < 18446744073709551616 := hx
  have e0 := (Nat.mod_add_div x3 256).symm
  have e1 := (Nat.mod_add_div (x3 / 256) 256).symm
  have e2 := (Nat.mod_add_div ((x3 / 256) / 256) 256).symm
  have e3 := (Nat.mod_add_div (((x3 / 256) / 256) / 256) 256).symm
  have e4 := (Nat.mod_add_div ((((x3 / 256) / 256) / 256) / 256) 256).symm
  have e5 := (Nat.mod_add_div (((((x3 / 256) / 256) / 256) / 256) / 256) 256).symm
  have e6 := (Nat.mod_add_div ((((((x3 / 256) / 256) / 256) / 256) / 256) / 256) 256).symm
  have e7 := (Nat.mod_add_div (((((((x3 / 256) / 256) / 256) / 256) / 256) / 256) / 256) 256).symm
  have D := fin_d x3 (x3 / 256) ((x3 / 256) / 256) (((x3 / 256) / 256) / 256) ((((x3 / 256) / 256) / 256) / 256) (((((x3 / 256) / 256) / 256) / 256) / 256) ((((((x3 / 256) / 256) / 256) / 256) / 256) / 256) (((((((x3 / 256) / 256) / 256) / 256) / 256) / 256) / 256) ((((((((x3 / 256) / 256) / 256) / 256) / 256) / 256) / 256) / 256) (x3 % 256) ((x3 / 256) % 256) (((x3 / 256) / 256) % 256) ((((x3 / 256) / 256) / 256) % 256) (((((x3 / 256) / 256) / 256) / 256) % 256) ((((((x3 / 256) / 256) / 256) / 256) / 256) % 256) (((((((x3 / 256) / 256) / 256) / 256) / 256) / 256) % 256) ((((((((x3 / 256) / 256) / 256) / 256) / 256) / 256) / 256) % 256) e0 e1 e2 e3 e4 e5 e6 e7 h0 h1 h2 h3 h4 h5 h6 h7 hx2
  have Q := fin_c x3 (x3 / 256) ((x3 / 256) / 256) (((x3 / 256) / 256) / 256) ((((x3 / 256) / 256) / 256) / 256) (((((x3 / 256) / 256) / 256) / 256) / 256) ((((((x3 / 256) / 256) / 256) / 256) / 256) / 256) (((((((x3 / 256) / 256) / 256) / 256) / 256) / 256) / 256) ((((((((x3 / 256) / 256) / 256) / 256) / 256) / 256) / 256) / 256) (x3 % 256) ((x3 / 256) % 256) (((x3 / 256) / 256) % 256) ((((x3 / 256) / 256) / 256) % 256) (((((x3 / 256) / 256) / 256) / 256) % 256) ((((((x3 / 256) / 256) / 256) / 256) / 256) % 256) (((((((x3 / 256) / 256) / 256) / 256) / 256) / 256) % 256) ((((((((x3 / 256) / 256) / 256) / 256) / 256) / 256) / 256) % 256) e0 e1 e2 e3 e4 e5 e6 e7 (Nat.le_trans (Nat.add_le_add (Nat.add_le_add (Nat.add_le_add (Nat.add_le_add (Nat.add_le_add (Nat.add_le_add (Nat.add_le_add h0 h1) h2) h3) h4) h5) h6) h7) (by decide))
  have u0 : x3 = (x3 % 256) + 256 * ((x3 / 256) % 256) + 65536 * ((x3 / 256) / 256) := fin_f e0 e1
  have u1 : (x3 / 256) = ((x3 / 256) % 256) + 256 * (((x3 / 256) / 256) % 256) + 65536 * (((x3 / 256) / 256) / 256) := fin_f e1 e2
  have v0 : x3 = (x3 % 256) + 256 * ((x3 / 256) % 256) + 65536 * (((x3 / 256) / 256) % 256) + 16777216 * ((((x3 / 256) / 256) / 256) % 256) + 4294967296 * ((((x3 / 256) / 256) / 256) / 256) := fin_g e0 e1 e2 e3
  have v1 : (x3 / 256) = ((x3 / 256) % 256) + 256 * (((x3 / 256) / 256) % 256) + 65536 * ((((x3 / 256) / 256) / 256) % 256) + 16777216 * (((((x3 / 256) / 256) / 256) / 256) % 256) + 4294967296 * (((((x3 / 256) / 256) / 256) / 256) / 256) := fin_g e1 e2 e3 e4
  have v2 : ((x3 / 256) / 256) = (((x3 / 256) / 256) % 256) + 256 * ((((x3 / 256) / 256) / 256) % 256) + 65536 * (((((x3 / 256) / 256) / 256) / 256) % 256) + 16777216 * ((((((x3 / 256) / 256) / 256) / 256) / 256) % 256) + 4294967296 * ((((((x3 / 256) / 256) / 256) / 256) / 256) / 256) := fin_g e2 e3 e4 e5
  have v3 : (((x3 / 256) / 256) / 256) = ((((x3 / 256) / 256) / 256) % 256) + 256 * (((((x3 / 256) / 256) / 256) / 256) % 256) + 65536 * ((((((x3 / 256) / 256) / 256) / 256) / 256) % 256) + 16777216 * (((((((x3 / 256) / 256) / 256) / 256) / 256) / 256) % 256) + 4294967296 * (((((((x3 / 256) / 256) / 256) / 256) / 256) / 256) / 256) := fin_g e3 e4 e5 e6
  have q1 := fin_a x3 (x3 / 256) ((x3 / 256) / 256) (((x3 / 256) / 256) / 256) (x3 % 256) ((x3 / 256) % 256) (((x3 / 256) / 256) % 256) u0 u1 h0 h1 h2
  have q2 := fin_b x3 (x3 / 256) ((x3 / 256) / 256) (((x3 / 256) / 256) / 256) ((((x3 / 256) / 256) / 256) / 256) (((((x3 / 256) / 256) / 256) / 256) / 256) ((((((x3 / 256) / 256) / 256) / 256) / 256) / 256) (((((((x3 / 256) / 256) / 256) / 256) / 256) / 256) / 256) (x3 % 256) ((x3 / 256) % 256) (((x3 / 256) / 256) % 256) ((((x3 / 256) / 256) / 256) % 256) (((((x3 / 256) / 256) / 256) / 256) % 256) ((((((x3 / 256) / 256) / 256) / 256) / 256) % 256) (((((((x3 / 256) / 256) / 256) / 256) / 256) / 256) % 256) v0 v1 v2 v3 h0 h1 h2 h3 h4 h5 h6
  obtain ⟨k0, k1, k2, k3, k4, k5, k6, k7⟩ := D
  refine ⟨x3 + x3 / 256, x3 + x3 / 256 + (((x3 / 256) / 256) + (((x3 / 256) / 256) / 256)), x3 + x3 / 256 + (((x3 / 256) / 256) + (((x3 / 256) / 256) / 256)) + (((((x3 / 256) / 256) / 256) / 256) + (((((x3 / 256) / 256) / 256) / 256) / 256) + (((((((x3 / 256) / 256) / 256) / 256) / 256) / 256) + (((((((x3 / 256) / 256) / 256) / 256) / 256) / 256) / 256))), rfl, ?_, ?_, ?_, ?_, ?_, Q⟩
  · exact congrArg (x3 + x3 / 256 + ·) q1.symm
  · exact congrArg (x3 + x3 / 256 + (((x3 / 256) / 256) + (((x3 / 256) / 256) / 256)) + ·) q2.symm
  · exact Nat.lt_of_le_of_lt (Nat.add_le_add k0 k1) (by decide)
  · exact Nat.lt_of_le_of_lt (Nat.add_le_add (Nat.add_le_add k0 k1) (Nat.add_le_add k2 k3)) (by decide)
  · exact Nat.lt_of_le_of_lt (Nat.add_le_add (Nat.add_le_add (Nat.add_le_add k0 k1) (Nat.add_le_add k2 k3)) (Nat.add_le_add (Nat.add_le_add k4 k5) (Nat.add_le_add k6 k7))) (by decide)
def tn (x : Int64) : Nat := x.toBitVec.toNat
theorem tn_lt (x : Int64) : tn x < 2 ^ 64 := x.toBitVec.isLt
theorem tn_and (x y : Int64) : tn (x &&& y) = tn x &&& tn y := by unfold tn; rw [Int64.toBitVec_and, BitVec.toNat_and]
theorem tn_add {x y : Int64} (h : tn x + tn y < 2 ^ 64) : tn (x + y) = tn x + tn y := by unfold tn at *; rw [Int64.toBitVec_add, BitVec.toNat_add_of_lt h]
theorem tn_sub {x y : Int64} (h : tn y ≤ tn x) : tn (x - y) = tn x - tn y := by unfold tn at *; rw [Int64.toBitVec_sub, BitVec.toNat_sub_of_le (BitVec.le_def.mpr h)]
theorem tn_shr (x : Int64) {s : Nat} (h : s < 64) : tn ((x.toUInt64 >>> ((iI (s : Int)).toInt64.toUInt64 &&& Int64.toUInt64 63)).toInt64) = tn x / 2 ^ s := ush_nat x h
theorem tn_127 (x : Int64) : x.toInt32 &&& 127 = iI ((tn x % 128 : Nat) : Int) := by
  rw [pk_and _ 7 (by decide), nI_iI]
  have : x.toInt32.toBitVec.toNat % 2 ^ 7 = tn x % 128 := by
    rw [Int64.toBitVec_toInt32, BitVec.signExtend_eq_setWidth_of_le _ (by omega), BitVec.toNat_setWidth]
    unfold tn; omega
  rw [this]
theorem q_JLong_bitCount (x : Int64) (σ : AM) : M_JLong_bitCount x σ = some (iI (pcl x : Int), σ) := by
  have hX := tn_lt x
  have c1 : tn 6148914691236517205 = alt 1 32 := by decide +kernel
  have c2 : tn 3689348814741910323 = alt 2 16 := by decide +kernel
  have c3 : tn 1085102592571150095 = alt 4 8 := by decide +kernel
  have c2' : alt 2 16 = 3689348814741910323 := by decide +kernel
  have c3' : alt 4 8 = 1085102592571150095 := by decide +kernel
  unfold M_JLong_bitCount
  rw [E_JLong_bitCount_0]
  simp only [letT_eq, l_1, l_2, l_4, l_8, l_16, l_32]
  have a1 : tn (x - (((x.toUInt64 >>> ((iI 1).toInt64.toUInt64 &&& Int64.toUInt64 63)).toInt64) &&& 6148914691236517205)) = stg 1 32 (tn x) := by
    have e := tn_shr x (s := 1) (by decide)
    have e2 : tn (((x.toUInt64 >>> ((iI 1).toInt64.toUInt64 &&& Int64.toUInt64 63)).toInt64) &&& 6148914691236517205) = (tn x / 2) &&& alt 1 32 := by rw [tn_and, c1]; exact congrArg (· &&& alt 1 32) e
    have e3 : (tn x / 2) &&& alt 1 32 ≤ tn x := Nat.le_trans Nat.and_le_left (Nat.div_le_self _ _)
    rw [tn_sub (by rw [e2]; exact e3), e2, stg1 32 _ (Nat.lt_of_lt_of_le hX (by decide))]
  generalize x - (((x.toUInt64 >>> ((iI 1).toInt64.toUInt64 &&& Int64.toUInt64 63)).toInt64) &&& 6148914691236517205) = y1 at a1 ⊢
  have a2 : tn ((y1 &&& 3689348814741910323) + (((y1.toUInt64 >>> ((iI 2).toInt64.toUInt64 &&& Int64.toUInt64 63)).toInt64) &&& 3689348814741910323)) = stg 2 16 (tn y1) := by
    have e := tn_shr y1 (s := 2) (by decide)
    have e2 : tn (((y1.toUInt64 >>> ((iI 2).toInt64.toUInt64 &&& Int64.toUInt64 63)).toInt64) &&& 3689348814741910323) = (tn y1 / 2 ^ 2) &&& alt 2 16 := by rw [tn_and, c2]; exact congrArg (· &&& alt 2 16) e
    have e3 : (tn y1 / 2 ^ 2) &&& alt 2 16 ≤ alt 2 16 := Nat.and_le_right
    have e4 : tn y1 &&& alt 2 16 ≤ alt 2 16 := Nat.and_le_right
    rw [tn_add (by rw [e2, tn_and, c2]; omega), e2, tn_and, c2]; rfl
  generalize (y1 &&& 3689348814741910323) + (((y1.toUInt64 >>> ((iI 2).toInt64.toUInt64 &&& Int64.toUInt64 63)).toInt64) &&& 3689348814741910323) = y2 at a2 ⊢
  have b2 : tn y2 ≤ 2 * 3689348814741910323 := by
    rw [a2]; unfold stg
    have e3 : (tn y1 / 2 ^ 2) &&& alt 2 16 ≤ alt 2 16 := Nat.and_le_right
    have e4 : tn y1 &&& alt 2 16 ≤ alt 2 16 := Nat.and_le_right
    omega
  have d1 : dle 2 2 (2 * 16) (tn y1) := by rw [a1]; exact dle_stg (w := 1) (by decide) 32 _ (dle_bits _ _)
  have d2 : dle 4 4 (2 * 8) (tn y2) := by rw [a2]; exact dle_stg (w := 2) (by decide) 16 _ d1
  have a3 : tn ((y2 + ((y2.toUInt64 >>> ((iI 4).toInt64.toUInt64 &&& Int64.toUInt64 63)).toInt64)) &&& 1085102592571150095) = stg 4 8 (tn y2) := by
    have e : tn ((y2.toUInt64 >>> ((iI 4).toInt64.toUInt64 &&& Int64.toUInt64 63)).toInt64) = tn y2 / 16 := tn_shr y2 (s := 4) (by decide)
    have d2' : dle 4 7 (2 * 8) (tn y2) := by
      have mono : ∀ n x, dle 4 4 n x → dle 4 7 n x := by
        intro n
        induction n with
        | zero => intro x _; trivial
        | succ n ih => intro x h; exact ⟨Nat.le_trans h.1 (by decide), ih _ h.2⟩
      exact mono _ _ d2
    rw [tn_and, c3, tn_add (by rw [e]; omega), e, stg3 8 _ d2']
  generalize (y2 + ((y2.toUInt64 >>> ((iI 4).toInt64.toUInt64 &&& Int64.toUInt64 63)).toInt64)) &&& 1085102592571150095 = y3 at a3 ⊢
  have d3 : dle 8 8 8 (tn y3) := by rw [a3]; exact dle_stg (w := 4) (by decide) 8 _ d2
  obtain ⟨z4, z5, z6, f4, f5, f6, l4, l5, l6, fs⟩ := fin_sum (tn y3) d3 (tn_lt y3)
  have g4 : tn (y3 + ((y3.toUInt64 >>> ((iI 8).toInt64.toUInt64 &&& Int64.toUInt64 63)).toInt64)) = z4 := by
    have e : tn ((y3.toUInt64 >>> ((iI 8).toInt64.toUInt64 &&& Int64.toUInt64 63)).toInt64) = tn y3 / 2 ^ 8 := tn_shr y3 (s := 8) (by decide)
    rw [tn_add (by rw [e, ← f4]; exact l4), e, ← f4]
  generalize y3 + ((y3.toUInt64 >>> ((iI 8).toInt64.toUInt64 &&& Int64.toUInt64 63)).toInt64) = y4 at g4 ⊢
  have g5 : tn (y4 + ((y4.toUInt64 >>> ((iI 16).toInt64.toUInt64 &&& Int64.toUInt64 63)).toInt64)) = z5 := by
    have e : tn ((y4.toUInt64 >>> ((iI 16).toInt64.toUInt64 &&& Int64.toUInt64 63)).toInt64) = tn y4 / 2 ^ 16 := tn_shr y4 (s := 16) (by decide)
    rw [tn_add (by rw [e, g4, ← f5]; exact l5), e, g4, ← f5]
  generalize y4 + ((y4.toUInt64 >>> ((iI 16).toInt64.toUInt64 &&& Int64.toUInt64 63)).toInt64) = y5 at g5 ⊢
  have g6 : tn (y5 + ((y5.toUInt64 >>> ((iI 32).toInt64.toUInt64 &&& Int64.toUInt64 63)).toInt64)) = z6 := by
    have e : tn ((y5.toUInt64 >>> ((iI 32).toInt64.toUInt64 &&& Int64.toUInt64 63)).toInt64) = tn y5 / 2 ^ 32 := tn_shr y5 (s := 32) (by decide)
    rw [tn_add (by rw [e, g5, ← f6]; exact l6), e, g5, ← f6]
  generalize y5 + ((y5.toUInt64 >>> ((iI 32).toInt64.toUInt64 &&& Int64.toUInt64 63)).toInt64) = y6 at g6 ⊢
  rw [tn_127, g6, fs, a3]
  have r3 : ds 8 8 (stg 4 8 (tn y2)) = ds 4 16 (tn y2) := ds_stg (w := 4) (by decide) 8 _
  have r2 : ds 4 16 (stg 2 16 (tn y1)) = ds 2 32 (tn y1) := ds_stg (w := 2) (by decide) 16 _
  have r1 : ds 2 32 (stg 1 32 (tn x)) = ds 1 64 (tn x) := ds_stg (w := 1) (by decide) 32 _
  rw [r3, a2, r2, a1, r1, ds_bits, mw_of (Nat.le_refl _) (Nat.le_refl _)]
  rfl
theorem q_JInt_bitCount {s : Nat} (hs : s < 64) (σ : AM) : M_JInt_bitCount (iI (s : Int)) σ = some (iI (pc6 s : Int), σ) := by
  unfold M_JInt_bitCount
  rw [E_JInt_bitCount_0]
  simp only [letT_eq]
  have : ∀ s : Fin 64, (let x := iI (s.val : Int); let x1 := x - (((x.toUInt32 >>> ((1 : Int32).toUInt32 &&& Int32.toUInt32 31)).toInt32) &&& (1431655765 : Int32)); let x2 := (x1 &&& (858993459 : Int32)) + (((x1.toUInt32 >>> ((2 : Int32).toUInt32 &&& Int32.toUInt32 31)).toInt32) &&& (858993459 : Int32)); let x3 := (x2 + ((x2.toUInt32 >>> ((4 : Int32).toUInt32 &&& Int32.toUInt32 31)).toInt32)) &&& (252645135 : Int32); let x4 := x3 + ((x3.toUInt32 >>> ((8 : Int32).toUInt32 &&& Int32.toUInt32 31)).toInt32); let x5 := x4 + ((x4.toUInt32 >>> ((16 : Int32).toUInt32 &&& Int32.toUInt32 31)).toInt32); x5 &&& (63 : Int32)) = iI (pc6 s.val : Int) := by decide +kernel
  have h := this ⟨s, hs⟩
  simp only [] at h
  rw [h, mw_of (Nat.le_refl _) (Nat.le_refl _)]
/-- the sets of a size, as the tables have them -/
theorem q_St_ofSize {k : Nat} (hk : k ≤ 6) (σ : AM) : M_St_ofSize (iI (k : Int)) σ = some (tbOF_SIZE k, σ) := by
  unfold M_St_ofSize
  rw [E_St_ofSize_0]; simp (disch := omega) only [E_St_ofSize_1, E_St_ofSize_2, l_0, l_7, letT_eq, gd_true, bnd_some, iI_add, iI_sub, iI_mul, iI_neg, iI_lt, iI_eq, iI_cl, nI_iI, gd_in, bZ_0, bZ_1, bZ_eq, isB_bZ, isB_0, isB_1, nar_bZ, nar_0, nar_1, iI_s, iI_na, Int.toNat_natCast, Int.add_zero, Int.zero_add, Nat.reduceEqDiff, Nat.reduceAdd, Int.reduceAdd, Int.reduceNeg, Int.reduceSub, Int.reduceMul, Int.reduceLT, Int.reduceEq, Int.reduceToNat, reduceCtorEq, ↓reduceIte]
  rw [if_neg (by omega), if_pos (by omega), mw_of (Nat.le_refl _) (Nat.le_refl _)]
theorem bt_OF {k s : Nat} (hk : k ≤ 6) (hs : s < 64) : bt (tbOF_SIZE k) s = decide (pc6 s = k) := by
  have : ∀ k : Fin 7, ∀ s : Fin 64, bt (tbOF_SIZE k.val) s.val = decide (pc6 s.val = k.val) := by decide +kernel
  exact this ⟨k, by omega⟩ ⟨s, hs⟩
theorem pcl_OF {k : Nat} (hk : k ≤ 6) (x : Int64) : pcl (x &&& tbOF_SIZE k) = cntS x k := cntN_congr fun s hs => by rw [bt_and, bt_OF hk hs]
