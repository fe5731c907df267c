/-! ===== the reference cuts the TAPE ===== -/
theorem q_Md_isLetter {c : Nat} (h : c < 1000) (σ : AM) : M_Md_isLetter (iI (c : Int)) σ = some (bZ (isLt c), σ) := by
  unfold M_Md_isLetter
  rw [E_Md_isLetter_0]
  simp (disch := omega) only [E_Md_isLetter_1, E_Md_isLetter_2, l_0, l_1, l_97, l_122, iI_lt, isB_0, isB_1, gd_true]
  unfold isLt
  by_cases c1 : 97 ≤ c
  · rw [if_neg (by omega), decide_eq_true c1]
    by_cases c2 : c ≤ 122
    · rw [if_neg (by omega), mw_of (Nat.le_refl _) (Nat.le_refl _), decide_eq_true c2]; rfl
    · rw [if_pos (by omega), mw_of (Nat.le_refl _) (Nat.le_refl _), decide_eq_false c2]; rfl
  · rw [if_pos (by omega), mw_of (Nat.le_refl _) (Nat.le_refl _), decide_eq_false c1]; rfl
theorem q_Md_isDigit {c : Nat} (h : c < 1000) (σ : AM) : M_Md_isDigit (iI (c : Int)) σ = some (bZ (isDg c), σ) := by
  unfold M_Md_isDigit
  rw [E_Md_isDigit_0]
  simp (disch := omega) only [E_Md_isDigit_1, E_Md_isDigit_2, l_0, l_1, l_48, l_57, iI_lt, isB_0, isB_1, gd_true]
  unfold isDg
  by_cases c1 : 48 ≤ c
  · rw [if_neg (by omega), decide_eq_true c1]
    by_cases c2 : c ≤ 57
    · rw [if_neg (by omega), mw_of (Nat.le_refl _) (Nat.le_refl _), decide_eq_true c2]; rfl
    · rw [if_pos (by omega), mw_of (Nat.le_refl _) (Nat.le_refl _), decide_eq_false c2]; rfl
  · rw [if_pos (by omega), mw_of (Nat.le_refl _) (Nat.le_refl _), decide_eq_false c1]; rfl
theorem q_Md_rank {c : Nat} (h : isLt c = true) (σ : AM) : M_Md_rank (iI (c : Int)) σ = some (iI (gMt c : Int), σ) := by
  have hb := lt_b h
  have q := q_Md_isLetter (c := c) (by omega) σ
  rw [h] at q
  have e : (c : Int) - 96 = ((c - 96 : Nat) : Int) := by omega
  unfold M_Md_rank gMt
  rw [E_Md_rank_0]
  simp (disch := omega) only [E_Md_rank_1, q, bnd_some, bZ_0, l_0, l_96, iI_sub, e, reduceCtorEq, ↓reduceIte]
  exact mw_of (Nat.le_refl _) (Nat.le_refl _)
theorem q_Md_isSignOf {c : Nat} (h : c < 128) (σ : AM) : M_Md_isSignOf (iI (c : Int)) σ = some (bZ (isSg c), σ) := by
  have key : ∀ b : Bool, isSg c = b → L_Md_isSignOf_0 (iI (c : Int)) σ = some (bZ b, σ) := fun b hb => by
    rw [E_Md_isSignOf_0]
    simp (disch := omega) only [E_Md_isSignOf_1, E_Md_isSignOf_2, l_0, l_1, l_40, l_41, l_42, l_43, l_45, l_59, l_60, l_61, iI_eq, isB_0, isB_1, gd_true]
    subst hb
    unfold isSg
    by_cases z : c ∈ [40, 41, 60, 61, 43, 45, 42, 59]
    · rw [decide_eq_true z]
      simp only [List.mem_cons, List.not_mem_nil, or_false] at z
      rcases z with z | z | z | z | z | z | z | z <;> subst z <;> rfl
    · rw [decide_eq_false z]
      simp only [List.mem_cons, List.not_mem_nil, or_false, not_or] at z
      rw [if_neg (by omega), if_neg (by omega), if_neg (by omega), if_neg (by omega), if_neg (by omega), if_neg (by omega), if_neg (by omega), if_neg (by omega)]
      rfl
  unfold M_Md_isSignOf
  rw [key _ rfl]
  exact mw_of (Nat.le_refl _) (Nat.le_refl _)
/-- a word's value in the reference -/
def mw64 (l : List Nat) : Int64 := l.foldl (fun v (c : Nat) => 37 * v + (iI (gMt c : Int)).toInt64) 0
theorem mw_app (l : List Nat) (c : Nat) : mw64 (l ++ [c]) = 37 * mw64 l + (iI (gMt c : Int)).toInt64 := by unfold mw64; rw [List.foldl_append]; rfl
