/-! ===== the reference cuts the TAPE ===== -/
theorem q_Md_isLetter {c : Nat} (h : c < 1000) (σ : AM) : M_Md_isLetter (iI (c : Int)) σ = some (bZ (isLt c), σ) := by
  unfold M_Md_isLetter
  rw [E_Md_isLetter_0]
  simp (disch := omega) only [E_Md_isLetter_1, E_Md_isLetter_2, l_0, l_1, l_97, l_122, iI_lt, isB_0, isB_1, gd_true]
  unfold isLt
  by_cases c1 : 97 ≤ c
  · rw [if_neg (by omega), decide_eq_true c1]
    by_cases c2 : c ≤ 122
    · rw [if_neg (by omega), mw_of (Nat.le_refl _) (Nat.le_refl _), decide_eq_true c2]; rfl
    · rw [if_pos (by omega), mw_of (Nat.le_refl _) (Nat.le_refl _), decide_eq_false c2]; rfl
  · rw [if_pos (by omega), mw_of (Nat.le_refl _) (Nat.le_refl _), decide_eq_false c1]; rfl
theorem q_Md_isDigit {c : Nat} (h : c < 1000) (σ : AM) : M_Md_isDigit (iI (c : Int)) σ = some (bZ (isDg c), σ) := by
  unfold M_Md_isDigit
  rw [E_Md_isDigit_0]
  simp (disch := omega) only [E_Md_isDigit_1, E_Md_isDigit_2, l_0, l_1, l_48, l_57, iI_lt, isB_0, isB_1, gd_true]
  unfold isDg
  by_cases c1 : 48 ≤ c
  · rw [if_neg (by omega), decide_eq_true c1]
    by_cases c2 : c ≤ 57
    · rw [if_neg (by omega), mw_of (Nat.le_refl _) (Nat.le_refl _), decide_eq_true c2]; rfl
    · rw [if_pos (by omega), mw_of (Nat.le_refl _) (Nat.le_refl _), decide_eq_false c2]; rfl
  · rw [if_pos (by omega), mw_of (Nat.le_refl _) (Nat.le_refl _), decide_eq_false c1]; rfl
theorem q_Md_rank {c : Nat} (h : isLt c = true) (σ : AM) : M_Md_rank (iI (c : Int)) σ = some (iI (gMt c : Int), σ) := by
  have hb := lt_b h
  have q := q_Md_isLetter (c := c) (by omega) σ
  rw [h] at q
  have e : (c : Int) - 96 = ((c - 96 : Nat) : Int) := by omega
  unfold M_Md_rank gMt
  rw [E_Md_rank_0]
  simp (disch := omega) only [E_Md_rank_1, q, bnd_some, bZ_0, l_0, l_96, iI_sub, e, reduceCtorEq, ↓reduceIte]
  exact mw_of (Nat.le_refl _) (Nat.le_refl _)
theorem q_Md_isSignOf {c : Nat} (h : c < 128) (σ : AM) : M_Md_isSignOf (iI (c : Int)) σ = some (bZ (isSg c), σ) := by
  have key : ∀ b : Bool, isSg c = b → L_Md_isSignOf_0 (iI (c : Int)) σ = some (bZ b, σ) := fun b hb => by
    rw [E_Md_isSignOf_0]
    simp (disch := omega) only [E_Md_isSignOf_1, E_Md_isSignOf_2, l_0, l_1, l_40, l_41, l_42, l_43, l_45, l_59, l_60, l_61, iI_eq, isB_0, isB_1, gd_true]
    subst hb
    unfold isSg
    by_cases z : c ∈ [40, 41, 60, 61, 43, 45, 42, 59]
    · rw [decide_eq_true z]
      simp only [List.mem_cons, List.not_mem_nil, or_false] at z
      rcases z with z | z | z | z | z | z | z | z <;> subst z <;> rfl
    · rw [decide_eq_false z]
      simp only [List.mem_cons, List.not_mem_nil, or_false, not_or] at z
      rw [if_neg (by omega), if_neg (by omega), if_neg (by omega), if_neg (by omega), if_neg (by omega), if_neg (by omega), if_neg (by omega), if_neg (by omega)]
      rfl
  unfold M_Md_isSignOf
  rw [key _ rfl]
  exact mw_of (Nat.le_refl _) (Nat.le_refl _)
/-- a word's value in the reference -/
def mw64 (l : List Nat) : Int64 := l.foldl (fun v (c : Nat) => 37 * v + (iI (gMt c : Int)).toInt64) 0
theorem mw_app (l : List Nat) (c : Nat) : mw64 (l ++ [c]) = 37 * mw64 l + (iI (gMt c : Int)).toInt64 := by unfold mw64; rw [List.foldl_append]; rfl
theorem tn_37 {x : Int64} (hx : tn x < 2 ^ 57) : tn (37 * x) = 37 * tn x := by
  unfold tn at *
  rw [Int64.toBitVec_mul, BitVec.toNat_mul]
  show 37 * x.toBitVec.toNat % 2 ^ 64 = _
  rw [Nat.mod_eq_of_lt (by omega)]
theorem tn_step {x : Int64} {c : Nat} (hx : tn x < 2 ^ 57) (hc : isLt c = true) : tn (37 * x + (iI (gMt c : Int)).toInt64) = tn x * 37 + gMt c := by
  have hb := lt_b hc
  have e1 : tn ((iI (gMt c : Int)).toInt64) = gMt c := by
    have : ∀ c : Fin 64, tn ((iI (c.val : Int)).toInt64) = c.val := by decide +kernel
    exact this ⟨gMt c, by unfold gMt; omega⟩
  have e2 := tn_37 hx
  have hg : gMt c ≤ 26 := by unfold gMt; omega
  rw [tn_add (by rw [e1, e2]; omega), e1, e2]; omega
theorem tn_mw : ∀ {l : List Nat}, l.length ≤ 8 → (∀ c ∈ l, isLt c = true) → tn (mw64 l) = nmB 37 gMt l := by
  intro l
  induction l using revI with
  | nil => intro _ _; decide
  | step l c ih =>
    intro h1 h2
    rw [List.length_append, List.length_singleton] at h1
    have h3 := ih (by omega) (fun x hx => h2 x (List.mem_append_left _ hx))
    have h5 := nm_lt (B := 37) (g := gMt) l (fun x hx => by have := lt_b (h2 x (List.mem_append_left _ hx)); unfold gMt; omega)
    have h6 : (37 : Nat) ^ l.length ≤ 37 ^ 7 := Nat.pow_le_pow_right (by omega) (by omega)
    have h7 : (37 : Nat) ^ 7 < 2 ^ 57 := by decide
    rw [mw_app, tn_step (by rw [h3]; omega) (h2 c (List.mem_append_right _ (List.mem_singleton.mpr rfl))), h3, nm_app]
theorem mw_inj {l r : List Nat} (l1 : l.length ≤ 8) (l2 : r.length ≤ 8) (h1 : ∀ c ∈ l, isLt c = true) (h2 : ∀ c ∈ r, isLt c = true) : mw64 l = mw64 r ↔ l = r := by
  constructor
  · intro e
    refine nmM_inj h1 h2 ?_
    rw [← tn_mw l1 h1, ← tn_mw l2 h2, e]
  · intro e; rw [e]
theorem wd_mw : ∀ i : Fin 10, words.getD i.val 0 = mw64 (wlT i.val) := by decide +kernel
