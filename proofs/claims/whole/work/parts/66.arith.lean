/-! ===== long numbers, fractions in lowest terms, rows filled ===== -/
def jI (a : Int) : Int64 := Int64.ofInt a
theorem jI_toInt {a : Int} (h1 : -9223372036854775808 ≤ a) (h2 : a < 9223372036854775808) : (jI a).toInt = a := Int64.toInt_ofInt_of_le h1 h2
theorem jI_add (a b : Int) : jI a + jI b = jI (a + b) := (Int64.ofInt_add a b).symm
theorem jI_sub (a b : Int) : jI a - jI b = jI (a - b) := (Int64.ofInt_sub a b).symm
theorem jI_mul (a b : Int) : jI a * jI b = jI (a * b) := (Int64.ofInt_mul a b).symm
theorem jI_eq {a b : Int} (h1 : -9223372036854775808 ≤ a) (h2 : a < 9223372036854775808) (h3 : -9223372036854775808 ≤ b) (h4 : b < 9223372036854775808) : (jI a = jI b) = (a = b) := by
  rw [← Int64.toInt_inj, jI_toInt h1 h2, jI_toInt h3 h4]
theorem jI_div {a b : Nat} (h1 : a < 2147483648) (h2 : b < 2147483648) : jI (a : Int) / jI (b : Int) = jI ((a / b : Nat) : Int) := by
  apply Int64.toInt_inj.mp
  have ha : (jI (a : Int)).toInt = a := jI_toInt (by omega) (by omega)
  have hb : (jI (b : Int)).toInt = b := jI_toInt (by omega) (by omega)
  have hq : a / b ≤ a := Nat.div_le_self _ _
  generalize hc : a / b = c at hq
  have hab : (jI (c : Int)).toInt = (c : Int) := jI_toInt (by omega) (by omega)
  rw [hab, Int64.toInt_div, ha, hb, Int.tdiv_eq_ediv_of_nonneg (by omega), ← Int.natCast_ediv, hc, Int.bmod_eq_of_le (by omega) (by omega)]
theorem jI_mod (a b : Nat) : jI (a : Int) - jI ((a / b : Nat) : Int) * jI (b : Int) = jI ((a % b : Nat) : Int) := by
  have hm := Nat.div_add_mod a b
  rw [jI_mul, jI_sub]
  congr 1
  rw [← Int.natCast_mul, Nat.mul_comm]
  omega
theorem nzJ_jI {a : Int} (h : a ≠ 0) (h1 : -9223372036854775808 ≤ a) (h2 : a < 9223372036854775808) : nzJ (jI a) = true := by
  unfold nzJ
  rw [Bool.not_eq_true', beq_eq_false_iff_ne]
  intro q
  have q' : jI a = jI 0 := q
  rw [jI_eq h1 h2 (by decide) (by decide)] at q'
  exact h q'
theorem iI_j {a : Int} (h1 : -2147483648 ≤ a) (h2 : a < 2147483648) : (iI a).toInt64 = jI a := by
  apply Int64.toInt_inj.mp
  rw [Int32.toInt_toInt64, iI_toInt h1 h2, jI_toInt (by omega) (by omega)]
theorem jI_i (a : Int) : (jI a).toInt32 = iI a := Int64.toInt32_ofInt
theorem j_0 : (0 : Int64) = jI 0 := rfl
theorem j_1 : (1 : Int64) = jI 1 := rfl
def lowS (x y what : Nat) : Nat := (if what = 0 then x else y) / Nat.gcd x y
theorem lowS_le (x y what : Nat) : lowS x y what ≤ x + y := by
  unfold lowS
  refine Nat.le_trans (Nat.div_le_self _ _) ?_
  split <;> omega
theorem gcd_st (a b : Nat) : Nat.gcd a b = Nat.gcd b (a % b) := by rw [Nat.gcd_comm a b, Nat.gcd_rec b a, Nat.gcd_comm]
theorem half_mod {b r n : Nat} (hr : 0 < r) (hrb : r < b) (hb : b ≤ 2 * n) : b % r ≤ n := by
  have h1 := Nat.mod_lt b hr
  have h2 : b % r ≤ b - r := by
    rw [Nat.mod_eq_sub_mod (by omega)]
    exact Nat.mod_le _ _
  omega
theorem St_low1 (x y what : Int32) (σ : AM) : ∀ n a b i : Nat, a < 2147483648 → b ≤ 2 ^ n → 2 ^ n ≤ 65536 → i + 2 * n + 2 ≤ 64 → L_St_lowest_1 x y what (iI (a : Int)) (iI (b : Int)) (iI (i : Int)) σ = L_St_lowest_2 x y what (iI (Nat.gcd a b : Int)) σ := by
  intro n
  induction n with
  | zero =>
    intro a b i ha hb _ hi
    by_cases q : b = 0
    · subst q
      rw [E_St_lowest_1]
      simp (disch := omega) only [l_0, l_64, iI_lt, iI_eq]
      rw [if_pos (by omega), if_pos (by omega), Nat.gcd_zero_right]
    · obtain rfl : b = 1 := by omega
      rw [E_St_lowest_1]
      simp (disch := omega) only [l_0, l_1, l_64, iI_lt, iI_eq, nzI_iI, iI_div, iI_mod, letT_eq, gd_true, iI_add]
      rw [if_pos (by omega), if_neg (by omega), E_St_lowest_1]
      simp (disch := omega) only [l_0, l_1, l_64, iI_lt, iI_eq]
      rw [if_pos (by omega), if_pos (by omega), Nat.gcd_one_right]
  | succ n ih =>
    intro a b i ha hb hn hi
    have hp : 2 ^ (n + 1) = 2 * 2 ^ n := by rw [Nat.pow_succ]; omega
    by_cases q : b = 0
    · subst q
      rw [E_St_lowest_1]
      simp (disch := omega) only [l_0, l_64, iI_lt, iI_eq]
      rw [if_pos (by omega), if_pos (by omega), Nat.gcd_zero_right]
    · have hm := Nat.mod_lt a (show 0 < b by omega)
      rw [E_St_lowest_1]
      simp (disch := omega) only [l_0, l_1, l_64, iI_lt, iI_eq, nzI_iI, iI_div, iI_mod, letT_eq, gd_true, iI_add]
      rw [if_pos (by omega), if_neg (by omega), gcd_st a b]
      generalize a % b = r at hm
      rw [E_St_lowest_1]
      by_cases q2 : r = 0
      · subst q2
        simp (disch := omega) only [l_0, l_1, l_64, iI_lt, iI_eq]
        rw [if_pos (by omega), if_pos (by omega), Nat.gcd_zero_right]
      · have hh := half_mod (n := 2 ^ n) (show 0 < r by omega) hm (by omega)
        simp (disch := omega) only [l_0, l_1, l_64, iI_lt, iI_eq, nzI_iI, iI_div, iI_mod, letT_eq, gd_true, iI_add]
        rw [if_pos (by omega), if_neg (by omega), gcd_st b r]
        exact ih r (b % r) (i + 2) (by omega) hh (by omega) (by omega)
theorem q_St_lowest {x y what : Nat} (hx : x < 2147483648) (hy : y ≤ 16384) (hy0 : 0 < y) (hw : what < 2147483648) (σ : AM) : M_St_lowest (iI (x : Int)) (iI (y : Int)) (iI (what : Int)) σ = some (iI (lowS x y what : Int), σ) := by
  have hg : 0 < Nat.gcd x y := Nat.gcd_pos_of_pos_right _ hy0
  have hgl : Nat.gcd x y ≤ y := Nat.gcd_le_right _ hy0
  have h := St_low1 (iI (x : Int)) (iI (y : Int)) (iI (what : Int)) σ 14 x y 0 hx hy (by decide) (by decide)
  have e : L_St_lowest_2 (iI (x : Int)) (iI (y : Int)) (iI (what : Int)) (iI (Nat.gcd x y : Int)) σ = some (iI (lowS x y what : Int), σ) := by
    unfold lowS
    by_cases q : what = 0
    · rw [if_pos q]
      rw [E_St_lowest_2]
      simp (disch := omega) only [E_St_lowest_3, l_0, l_1, iI_eq, nzI_iI, iI_div, gd_true]
      rw [if_neg (by omega), if_pos (by omega)]
    · rw [if_neg q]
      rw [E_St_lowest_2]
      simp (disch := omega) only [E_St_lowest_3, l_0, l_1, iI_eq, nzI_iI, iI_div, gd_true]
      rw [if_neg (by omega), if_neg (by omega)]
  unfold M_St_lowest
  rw [E_St_lowest_0]
  simp only [l_0]
  exact (congrArg (mw σ) (h.trans e)).trans (mw_of (Nat.le_refl _) (Nat.le_refl _))
theorem Md_common1 (σ : AM) : ∀ n a b : Nat, b ≤ n → a < 2147483648 → b < 2147483648 → L_Md_common_1 (jI (a : Int)) (jI (b : Int)) σ = some (jI (Nat.gcd a b : Int), σ) := by
  intro n
  induction n with
  | zero =>
    intro a b hn ha hb
    obtain rfl : b = 0 := by omega
    rw [E_Md_common_1]
    simp (disch := omega) only [l_0, j_0, lgc0, jI_eq]
    rw [if_pos (by omega), Nat.gcd_zero_right]
  | succ n ih =>
    intro a b hn ha hb
    rw [E_Md_common_1]
    by_cases q : b = 0
    · subst q
      simp (disch := omega) only [l_0, j_0, lgc0, jI_eq]
      rw [if_pos (by omega), Nat.gcd_zero_right]
    · have hm := Nat.mod_lt a (show 0 < b by omega)
      simp (disch := omega) only [l_0, j_0, lgc0, jI_eq, nzJ_jI, jI_div, jI_mod, gd_true, letT_eq]
      rw [if_neg (by omega), gcd_st a b]
      exact ih b (a % b) (by omega) hb (by omega)
theorem q_Md_lowest {x y what : Nat} (hx : x < 2147483648) (hy : y < 2147483648) (hy0 : 0 < y) (hw : what < 2147483648) (σ : AM) : M_Md_lowest (jI (x : Int)) (jI (y : Int)) (iI (what : Int)) σ = some (iI (lowS x y what : Int), σ) := by
  have hg : 0 < Nat.gcd x y := Nat.gcd_pos_of_pos_right _ hy0
  have hgl : Nat.gcd x y ≤ y := Nat.gcd_le_right _ hy0
  have h : M_Md_common (jI (x : Int)) (jI (y : Int)) σ = some (jI (Nat.gcd x y : Int), σ) := by
    unfold M_Md_common
    rw [E_Md_common_0]
    exact (congrArg (mw σ) (Md_common1 σ y x y (Nat.le_refl _) hx hy)).trans (mw_of (Nat.le_refl _) (Nat.le_refl _))
  unfold M_Md_lowest lowS
  rw [E_Md_lowest_0]
  simp (disch := omega) only [E_Md_lowest_1, l_0, iI_eq, h, bnd_some, nzJ_jI, jI_div, gd_true, jI_i]
  by_cases q : what = 0
  · rw [if_pos q, if_pos (by omega)]; exact mw_of (Nat.le_refl _) (Nat.le_refl _)
  · rw [if_neg q, if_neg (by omega)]; exact mw_of (Nat.le_refl _) (Nat.le_refl _)
/-! rows filled with one number -/
def fillV (m : VM) (c n : Nat) (v : Int32) : VM := (fun a j => if a = c ∧ j < n then v else m.1 a j, m.2)
def fillW (m : VM) (c n : Nat) (v : Int64) : VM := (m.1, fun a j => if a = c ∧ j < n then v else m.2 a j)
theorem fillV_s (m : VM) (c n : Nat) (v : Int32) : sV (fillV m c n v) c n v = fillV m c (n + 1) v := by
  refine Prod.ext ?_ rfl
  funext a j
  by_cases h : a = c
  · subst h
    rw [sV_eq]
    show (if j = n then v else if a = a ∧ j < n then v else m.1 a j) = if a = a ∧ j < n + 1 then v else m.1 a j
    by_cases h2 : j = n
    · rw [if_pos h2, if_pos ⟨rfl, by omega⟩]
    · rw [if_neg h2]
      by_cases h3 : j < n
      · rw [if_pos ⟨rfl, h3⟩, if_pos ⟨rfl, by omega⟩]
      · rw [if_neg (fun z => h3 z.2), if_neg (fun z => by omega)]
  · rw [sV_ne _ _ _ _ h]
    show (if a = c ∧ j < n then v else m.1 a j) = if a = c ∧ j < n + 1 then v else m.1 a j
    rw [if_neg (fun z => h z.1), if_neg (fun z => h z.1)]
theorem fillW_s (m : VM) (c n : Nat) (v : Int64) : sW (fillW m c n v) c n v = fillW m c (n + 1) v := by
  refine Prod.ext rfl ?_
  funext a j
  by_cases h : a = c
  · subst h
    rw [sW_eq]
    show (if j = n then v else if a = a ∧ j < n then v else m.2 a j) = if a = a ∧ j < n + 1 then v else m.2 a j
    by_cases h2 : j = n
    · rw [if_pos h2, if_pos ⟨rfl, by omega⟩]
    · rw [if_neg h2]
      by_cases h3 : j < n
      · rw [if_pos ⟨rfl, h3⟩, if_pos ⟨rfl, by omega⟩]
      · rw [if_neg (fun z => h3 z.2), if_neg (fun z => by omega)]
  · rw [sW_ne _ _ _ _ h]
    show (if a = c ∧ j < n then v else m.2 a j) = if a = c ∧ j < n + 1 then v else m.2 a j
    rw [if_neg (fun z => h z.1), if_neg (fun z => h z.1)]
theorem fillV_0 (m : VM) (c : Nat) (v : Int32) : fillV m c 0 v = m := Prod.ext (by funext a j; exact if_neg (fun z => Nat.not_lt_zero _ z.2)) rfl
theorem fillW_0 (m : VM) (c : Nat) (v : Int64) : fillW m c 0 v = m := Prod.ext rfl (by funext a j; exact if_neg (fun z => Nat.not_lt_zero _ z.2))
theorem fillV_at (m : VM) (c n : Nat) (v : Int32) (j : Nat) : (fillV m c n v).1 c j = if j < n then v else m.1 c j := by
  show (if c = c ∧ j < n then v else m.1 c j) = _
  by_cases h : j < n
  · rw [if_pos ⟨rfl, h⟩, if_pos h]
  · rw [if_neg (fun z => h z.2), if_neg h]
theorem fillW_at (m : VM) (c n : Nat) (v : Int64) (j : Nat) : (fillW m c n v).2 c j = if j < n then v else m.2 c j := by
  show (if c = c ∧ j < n then v else m.2 c j) = _
  by_cases h : j < n
  · rw [if_pos ⟨rfl, h⟩, if_pos h]
  · rw [if_neg (fun z => h z.2), if_neg h]
theorem fillV_ne (m : VM) (c n : Nat) (v : Int32) {a : Nat} (h : a ≠ c) : (fillV m c n v).1 a = m.1 a := by funext j; exact if_neg (fun z => h z.1)
theorem fillW_ne (m : VM) (c n : Nat) (v : Int64) {a : Nat} (h : a ≠ c) : (fillW m c n v).2 a = m.2 a := by funext j; exact if_neg (fun z => h z.1)
theorem fillV_2 (m : VM) (c n : Nat) (v : Int32) : (fillV m c n v).2 = m.2 := rfl
theorem fillW_1 (m : VM) (c n : Nat) (v : Int64) : (fillW m c n v).1 = m.1 := rfl
theorem q_fill2 {n : Nat} {A : Nat → Nat} {σ : AM} (hA : Inj n A) (m : VM) {c : Nat} (hc : c < n) (hk : aK σ (A c) = 101) (hl : aN σ (A c) < 2147483648) (v : Int32) : M_JArr_fill2 (A c) v (ov n A m σ) = some ((), ov n A (fillV m c (aN σ (A c)) v) σ) := by
  have h := up_loop (fun k => L_JArr_fill2_1 (A c) v (iI (k : Int)) (iI (aN σ (A c) : Int)) (ov n A (fillV m c k v) σ)) (aN σ (A c)) (some ((), ov n A (fillV m c (aN σ (A c)) v) σ)) (fun k hk2 ih => by
    show L_JArr_fill2_1 _ _ _ _ _ = _
    rw [E_JArr_fill2_1]
    simp (disch := omega) only [iI_lt, okO_ov, okO_of hk, aN_ov, gd_true, gd_in, letT_eq, iI_cl, Int.toNat_natCast, sI_ov hA, fillV_s, l_1, iI_add]
    rw [if_pos (by omega)]
    exact ih) (by
    show L_JArr_fill2_1 _ _ _ _ _ = _
    rw [E_JArr_fill2_1]
    simp (disch := omega) only [iI_lt]
    rw [if_neg (by omega)]) 0 (Nat.zero_le _)
  replace h : L_JArr_fill2_1 (A c) v (iI 0) (iI (aN σ (A c) : Int)) (ov n A (fillV m c 0 v) σ) = _ := h
  rw [fillV_0] at h
  unfold M_JArr_fill2
  rw [E_JArr_fill2_0]
  simp only [okO_ov, okO_of hk, aN_ov, gd_true, letT_eq, nI_iI, l_0]
  exact (congrArg (mw _) h).trans (mw_ov _ _ _ _ _ _)
theorem q_fill {n : Nat} {A : Nat → Nat} {σ : AM} (hA : Inj n A) (m : VM) {c : Nat} (hc : c < n) (hk : aK σ (A c) = 102) (hl : aN σ (A c) < 2147483648) (v : Int64) : M_JArr_fill (A c) v (ov n A m σ) = some ((), ov n A (fillW m c (aN σ (A c)) v) σ) := by
  have h := up_loop (fun k => L_JArr_fill_1 (A c) v (iI (k : Int)) (iI (aN σ (A c) : Int)) (ov n A (fillW m c k v) σ)) (aN σ (A c)) (some ((), ov n A (fillW m c (aN σ (A c)) v) σ)) (fun k hk2 ih => by
    show L_JArr_fill_1 _ _ _ _ _ = _
    rw [E_JArr_fill_1]
    simp (disch := omega) only [iI_lt, okO_ov, okO_of hk, aN_ov, gd_true, gd_in, letT_eq, iI_cl, Int.toNat_natCast, sL_ov hA, fillW_s, l_1, iI_add]
    rw [if_pos (by omega)]
    exact ih) (by
    show L_JArr_fill_1 _ _ _ _ _ = _
    rw [E_JArr_fill_1]
    simp (disch := omega) only [iI_lt]
    rw [if_neg (by omega)]) 0 (Nat.zero_le _)
  replace h : L_JArr_fill_1 (A c) v (iI 0) (iI (aN σ (A c) : Int)) (ov n A (fillW m c 0 v) σ) = _ := h
  rw [fillW_0] at h
  unfold M_JArr_fill
  rw [E_JArr_fill_0]
  simp only [okO_ov, okO_of hk, aN_ov, gd_true, letT_eq, nI_iI, l_0]
  exact (congrArg (mw _) h).trans (mw_ov _ _ _ _ _ _)
