/-! ===== numbers ===== -/
def iI (a : Int) : Int32 := Int32.ofInt a
theorem iI_of (x : Int32) : ∃ a : Int, x = iI a ∧ -2147483648 ≤ a ∧ a < 2147483648 := ⟨x.toInt, (Int32.ofInt_toInt x).symm, Int32.le_toInt x, Int32.toInt_lt x⟩
theorem iI_toInt {a : Int} (h1 : -2147483648 ≤ a) (h2 : a < 2147483648) : (iI a).toInt = a := Int32.toInt_ofInt_of_le h1 h2
theorem iI_add (a b : Int) : iI a + iI b = iI (a + b) := (Int32.ofInt_add a b).symm
theorem iI_sub (a b : Int) : iI a - iI b = iI (a - b) := (Int32.ofInt_sub a b).symm
theorem iI_mul (a b : Int) : iI a * iI b = iI (a * b) := (Int32.ofInt_mul a b).symm
theorem iI_neg (a : Int) : - iI a = iI (-a) := (Int32.ofInt_neg a).symm
theorem iI_lt {a b : Int} (h1 : -2147483648 ≤ a) (h2 : a < 2147483648) (h3 : -2147483648 ≤ b) (h4 : b < 2147483648) : (iI a < iI b) = (a < b) := by
  rw [Int32.lt_iff_toInt_lt, iI_toInt h1 h2, iI_toInt h3 h4]
theorem iI_eq {a b : Int} (h1 : -2147483648 ≤ a) (h2 : a < 2147483648) (h3 : -2147483648 ≤ b) (h4 : b < 2147483648) : (iI a = iI b) = (a = b) := by
  rw [← Int32.toInt_inj, iI_toInt h1 h2, iI_toInt h3 h4]
theorem iI_cl {a : Int} (h1 : 0 ≤ a) (h2 : a < 2147483648) : (iI a).toNatClampNeg = a.toNat := Int32.toNatClampNeg_ofInt_of_le (by omega) h2
theorem iI_cn {n : Nat} (h2 : n < 2147483648) : (iI (n : Int)).toNatClampNeg = n := by rw [iI_cl (by omega) (by omega)]; rfl
theorem nI_iI (n : Nat) : nI n = iI (n : Int) := (Int32.ofInt_eq_ofNat).symm
theorem inB_iI {a : Int} {n : Nat} (h1 : 0 ≤ a) (h2 : a < n) (h3 : a < 2147483648) : inB (iI a) n = true := by
  unfold inB
  rw [iI_cl h1 h3, Bool.and_eq_true, decide_eq_true_eq, decide_eq_true_eq]
  refine ⟨?_, by omega⟩
  have := iI_lt (a := a) (b := 0) (by omega) h3 (by decide) (by decide)
  intro h
  have h' : iI a < iI 0 := h
  rw [this] at h'
  omega
theorem okN_iI {a : Int} (h1 : 0 ≤ a) (h2 : a ≤ 1000000) : okN (iI a) = true := by
  rw [okN_iff]
  refine ⟨fun h => ?_, by rw [iI_cl h1 (by omega)]; omega⟩
  have h' : iI a < iI 0 := h
  rw [iI_lt (by omega) (by omega) (by decide) (by decide)] at h'
  omega
/-! truth values -/
def bZ (b : Bool) : Int32 := if b = true then iI 1 else iI 0
theorem bZ_t : bZ true = iI 1 := rfl
theorem bZ_f : bZ false = iI 0 := rfl
theorem bZ_0 (b : Bool) : (bZ b = iI 0) = (b = false) := by cases b <;> decide
theorem bZ_1 (b : Bool) : (bZ b = iI 1) = (b = true) := by cases b <;> decide
theorem bZ_eq (a b : Bool) : (bZ a = bZ b) = (a = b) := by cases a <;> cases b <;> decide
theorem isB_bZ (b : Bool) : isB (bZ b) = true := by cases b <;> decide
theorem isB_0 : isB (iI 0) = true := by decide
theorem isB_1 : isB (iI 1) = true := by decide
theorem nar_bZ (b : Bool) : vp_nar .boolean (bZ b) = bZ b := by cases b <;> rfl
theorem nar_0 : vp_nar .boolean (iI 0) = iI 0 := rfl
theorem nar_1 : vp_nar .boolean (iI 1) = iI 1 := rfl
/-! ===== cells that a side owns, over the rest ===== -/
abbrev VM : Type := (Nat → Nat → Int32) × (Nat → Nat → Int64)
def fd (A : Nat → Nat) (b : Nat) : Nat → Option Nat
  | 0 => none
  | n + 1 => if A n = b then some n else fd A b n
def ov (n : Nat) (A : Nat → Nat) (m : VM) (σ : AM) : AM := (fun b j => match fd A b n with | some k => m.1 k j | none => σ.1 b j, fun b j => match fd A b n with | some k => m.2 k j | none => σ.2.1 b j, σ.2.2)
def Inj (n : Nat) (A : Nat → Nat) : Prop := ∀ i j, i < n → j < n → A i = A j → i = j
theorem fd_lt {A : Nat → Nat} {b : Nat} : ∀ {n k : Nat}, fd A b n = some k → k < n ∧ A k = b
  | 0, k, h => by cases h
  | n + 1, k, h => by
    unfold fd at h
    split at h
    · cases h; exact ⟨Nat.lt_succ_self _, by assumption⟩
    · have := fd_lt h; exact ⟨Nat.lt_succ_of_lt this.1, this.2⟩
theorem fd_none {A : Nat → Nat} {b : Nat} : ∀ {n : Nat}, fd A b n = none → ∀ k, k < n → A k ≠ b
  | 0, _, k, hk => absurd hk (Nat.not_lt_zero k)
  | n + 1, h, k, hk => by
    unfold fd at h
    split at h
    · cases h
    · rcases Nat.lt_succ_iff_lt_or_eq.mp hk with q | q
      · exact fd_none h k q
      · subst q; assumption
theorem fd_self {n : Nat} {A : Nat → Nat} (hA : Inj n A) {k : Nat} (hk : k < n) : fd A (A k) n = some k := by
  cases h : fd A (A k) n with
  | none => exact absurd rfl (fd_none h k hk)
  | some j => obtain ⟨h1, h2⟩ := fd_lt h; rw [hA j k h1 hk h2]
theorem fd_out {n : Nat} {A : Nat → Nat} {b : Nat} (h : ∀ k, k < n → A k ≠ b) : fd A b n = none := by
  cases q : fd A b n with
  | none => rfl
  | some j => obtain ⟨h1, h2⟩ := fd_lt q; exact absurd h2 (h j h1)
def sV (m : VM) (k j : Nat) (v : Int32) : VM := (up2 m.1 k j v, m.2)
def sW (m : VM) (k j : Nat) (v : Int64) : VM := (m.1, up2 m.2 k j v)
theorem sV_eq (m : VM) (k j : Nat) (v : Int32) (i : Nat) : (sV m k j v).1 k i = if i = j then v else m.1 k i := by
  unfold sV up2; simp
theorem sV_ne (m : VM) (k j : Nat) (v : Int32) {b : Nat} (h : b ≠ k) : (sV m k j v).1 b = m.1 b := by
  funext i; unfold sV up2; simp [h]
theorem sV_2 (m : VM) (k j : Nat) (v : Int32) : (sV m k j v).2 = m.2 := rfl
theorem sW_eq (m : VM) (k j : Nat) (v : Int64) (i : Nat) : (sW m k j v).2 k i = if i = j then v else m.2 k i := by
  unfold sW up2; simp
theorem sW_ne (m : VM) (k j : Nat) (v : Int64) {b : Nat} (h : b ≠ k) : (sW m k j v).2 b = m.2 b := by
  funext i; unfold sW up2; simp [h]
theorem sW_1 (m : VM) (k j : Nat) (v : Int64) : (sW m k j v).1 = m.1 := rfl
theorem aR_ov (n : Nat) (A : Nat → Nat) (m : VM) (σ : AM) : aR (ov n A m σ) = aR σ := rfl
theorem aK_ov (n : Nat) (A : Nat → Nat) (m : VM) (σ : AM) : aK (ov n A m σ) = aK σ := rfl
theorem aN_ov (n : Nat) (A : Nat → Nat) (m : VM) (σ : AM) : aN (ov n A m σ) = aN σ := rfl
theorem aZ_ov (n : Nat) (A : Nat → Nat) (m : VM) (σ : AM) : aZ (ov n A m σ) = aZ σ := rfl
theorem aU_ov (n : Nat) (A : Nat → Nat) (m : VM) (σ : AM) : aU (ov n A m σ) = aU σ := rfl
theorem okO_ov (n : Nat) (A : Nat → Nat) (m : VM) (σ : AM) : okO (ov n A m σ) = okO σ := rfl
theorem aI_ov {n : Nat} {A : Nat → Nat} (hA : Inj n A) (m : VM) (σ : AM) {k : Nat} (hk : k < n) (j : Nat) : aI (ov n A m σ) (A k) j = m.1 k j := by
  show (match fd A (A k) n with | some k => m.1 k j | none => σ.1 (A k) j) = m.1 k j
  rw [fd_self hA hk]
theorem aL_ov {n : Nat} {A : Nat → Nat} (hA : Inj n A) (m : VM) (σ : AM) {k : Nat} (hk : k < n) (j : Nat) : aL (ov n A m σ) (A k) j = m.2 k j := by
  show (match fd A (A k) n with | some k => m.2 k j | none => σ.2.1 (A k) j) = m.2 k j
  rw [fd_self hA hk]
theorem sI_ov {n : Nat} {A : Nat → Nat} (hA : Inj n A) (m : VM) (σ : AM) {k : Nat} (hk : k < n) (j : Nat) (v : Int32) : sI (ov n A m σ) (A k) j v = ov n A (sV m k j v) σ := by
  unfold sI ov
  refine Prod.ext ?_ rfl
  funext b i
  show (if b = A k ∧ i = j then v else _) = _
  by_cases hb : b = A k
  · subst hb
    simp only [fd_self hA hk, true_and, sV_eq]
  · simp only [hb, false_and, if_false]
    cases h : fd A b n with
    | none => rfl
    | some q =>
      have hq : q ≠ k := fun e => by subst e; exact hb (fd_lt h).2.symm
      simp only [sV_ne m k j v hq]
theorem sL_ov {n : Nat} {A : Nat → Nat} (hA : Inj n A) (m : VM) (σ : AM) {k : Nat} (hk : k < n) (j : Nat) (v : Int64) : sL (ov n A m σ) (A k) j v = ov n A (sW m k j v) σ := by
  unfold sL ov
  refine Prod.ext rfl (Prod.ext ?_ rfl)
  funext b i
  show (if b = A k ∧ i = j then v else _) = _
  by_cases hb : b = A k
  · subst hb
    simp only [fd_self hA hk, true_and, sW_eq]
  · simp only [hb, false_and, if_false]
    cases h : fd A b n with
    | none => rfl
    | some q =>
      have hq : q ≠ k := fun e => by subst e; exact hb (fd_lt h).2.symm
      simp only [sW_ne m k j v hq]
theorem mw_ov {ρ : Type} (n : Nat) (A : Nat → Nat) (m m' : VM) (σ : AM) (r : ρ) : mw (ov n A m σ) (some (r, ov n A m' σ)) = some (r, ov n A m' σ) := mw_of (Nat.le_refl _) (Nat.le_refl _)
/-- what the cells hold: every memory is its own picture over itself -/
def rd (A : Nat → Nat) (σ : AM) : VM := (fun k j => aI σ (A k) j, fun k j => aL σ (A k) j)
theorem ov_rd (n : Nat) (A : Nat → Nat) (σ : AM) : ov n A (rd A σ) σ = σ := by
  unfold ov
  refine Prod.ext ?_ (Prod.ext ?_ rfl)
  · funext b j
    show (match fd A b n with | some k => aI σ (A k) j | none => σ.1 b j) = σ.1 b j
    cases h : fd A b n with
    | none => rfl
    | some k => show aI σ (A k) j = σ.1 b j; rw [(fd_lt h).2]; rfl
  · funext b j
    show (match fd A b n with | some k => aL σ (A k) j | none => σ.2.1 b j) = σ.2.1 b j
    cases h : fd A b n with
    | none => rfl
    | some k => show aL σ (A k) j = σ.2.1 b j; rw [(fd_lt h).2]; rfl
theorem gd_in {B : Type} {a : Int} {n : Nat} {t : Option B} (h1 : 0 ≤ a) (h2 : a < n) (h3 : a < 2147483648) : gd (inB (iI a) n) t = t := gd_t (inB_iI h1 h2 h3) t
theorem gd_okN {B : Type} {a : Int} {t : Option B} (h1 : 0 ≤ a) (h2 : a ≤ 1000000) : gd (okN (iI a)) t = t := gd_t (okN_iI h1 h2) t
theorem nz_iI {B : Type} {a : Int} {t : Option B} (h : a ≠ 0) (h1 : -2147483648 ≤ a) (h2 : a < 2147483648) : gd (nzI (iI a)) t = t := gd_t (nzI_iff.mpr fun e => h ((iI_eq h1 h2 (by decide) (by decide)).mp e)) t
/-! powers of two and single bits -/
theorem iI_shl1 {t : Nat} (h : t < 31) : iI 1 <<< (iI (t : Int) &&& iI 31) = iI ((2 ^ t : Nat) : Int) := by
  have : ∀ t : Fin 31, iI 1 <<< (iI (t.val : Int) &&& iI 31) = iI ((2 ^ t.val : Nat) : Int) := by decide
  exact this ⟨t, h⟩
