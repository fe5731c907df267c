/-! ===== formulas are worth the same on both sides ===== -/
theorem q_truth (b : Bool) (σ : AM) : M_Tw_truth (bZ b) σ = some (bZ b, σ) := by
  unfold M_Tw_truth
  rw [E_Tw_truth_0]
  simp only [E_Tw_truth_1, l_0, l_1, bZ_0]
  cases b
  · rw [if_pos rfl, mw_of (Nat.le_refl _) (Nat.le_refl _)]; rfl
  · rw [if_neg (by decide), mw_of (Nat.le_refl _) (Nat.le_refl _)]; rfl
theorem q_truth1 (σ : AM) : M_Tw_truth (iI 1) σ = some (iI 1, σ) := q_truth true σ
theorem q_truth0 (σ : AM) : M_Tw_truth (iI 0) σ = some (iI 0, σ) := q_truth false σ
theorem q_joined {c : Nat} (h1 : 1 ≤ c) (h2 : c ≤ 7) (a b : Int32) (σ : AM) : M_Tw_joined (iI (c : Int)) a b σ = some (jnV c a b, σ) := by
  unfold M_Tw_joined jnV
  rw [E_Tw_joined_0]
  simp (disch := omega) only [E_Tw_joined_1, E_Tw_joined_2, E_Tw_joined_3, E_Tw_joined_4, E_Tw_joined_5, E_Tw_joined_6, q_truth1, q_truth0, bnd_some, l_0, l_1, l_2, l_3, l_4, l_5, l_6, iI_eq]
  by_cases c1 : c = 1
  · rw [if_pos (by omega), if_pos c1]
    by_cases x : a = iI 0
    · rw [if_pos x, if_pos (Or.inl x)]; exact mw_of (Nat.le_refl _) (Nat.le_refl _)
    · rw [if_neg x]
      by_cases y : b = iI 0
      · rw [if_pos y, if_pos (Or.inr y)]; exact mw_of (Nat.le_refl _) (Nat.le_refl _)
      · rw [if_neg y, if_neg (fun z => z.elim x y)]; exact mw_of (Nat.le_refl _) (Nat.le_refl _)
  rw [if_neg (by omega), if_neg c1]
  by_cases c2 : c = 2
  · rw [if_pos (by omega), if_pos c2]
    by_cases x : a = iI 0
    · rw [if_pos x]
      by_cases y : b = iI 0
      · rw [if_pos y, if_pos ⟨x, y⟩]; exact mw_of (Nat.le_refl _) (Nat.le_refl _)
      · rw [if_neg y, if_neg (fun z => y z.2)]; exact mw_of (Nat.le_refl _) (Nat.le_refl _)
    · rw [if_neg x, if_neg (fun z => x z.1)]; exact mw_of (Nat.le_refl _) (Nat.le_refl _)
  rw [if_neg (by omega), if_neg c2]
  by_cases c3 : c = 3
  · rw [if_pos (by omega), if_pos c3]
    by_cases x : a < b
    · rw [if_pos x, if_pos x]; exact mw_of (Nat.le_refl _) (Nat.le_refl _)
    · rw [if_neg x, if_neg x]; exact mw_of (Nat.le_refl _) (Nat.le_refl _)
  rw [if_neg (by omega), if_neg c3]
  by_cases c4 : c = 4
  · rw [if_pos (by omega), if_pos c4]
    by_cases x : a = b
    · rw [if_pos x, if_pos x]; exact mw_of (Nat.le_refl _) (Nat.le_refl _)
    · rw [if_neg x, if_neg x]; exact mw_of (Nat.le_refl _) (Nat.le_refl _)
  rw [if_neg (by omega), if_neg c4]
  by_cases c5 : c = 5
  · rw [if_pos (by omega), if_pos c5]; exact mw_of (Nat.le_refl _) (Nat.le_refl _)
  rw [if_neg (by omega), if_neg c5]
  by_cases c6 : c = 6
  · rw [if_pos (by omega), if_pos c6]; exact mw_of (Nat.le_refl _) (Nat.le_refl _)
  rw [if_neg (by omega), if_neg c6]; exact mw_of (Nat.le_refl _) (Nat.le_refl _)
theorem op_17 {c : Nat} (h1 : 1 ≤ c) (h2 : c ≤ 7) : opR c = if c = 1 then 9 else if c = 2 then 10 else if c = 3 then 7 else if c = 4 then 8 else if c = 5 then 4 else if c = 6 then 5 else 6 := by
  have : ∀ c : Fin 8, 1 ≤ c.val → opR c.val = if c.val = 1 then 9 else if c.val = 2 then 10 else if c.val = 3 then 7 else if c.val = 4 then 8 else if c.val = 5 then 4 else if c.val = 6 then 5 else 6 := by decide
  exact this ⟨c, by omega⟩ h1
theorem q_both {c : Nat} (h1 : 1 ≤ c) (h2 : c ≤ 7) (a b : Int32) (σ : AM) : M_Md_both (iI (opR c : Int)) a b σ = some (jnV c a b, σ) := by
  have hop := op_17 h1 h2
  have hob : opR c ≤ 10 := by rw [hop]; repeat (first | omega | split)
  unfold M_Md_both jnV
  rw [E_Md_both_0]
  simp (disch := omega) only [E_Md_both_1, E_Md_both_2, E_Md_both_3, E_Md_both_4, E_Md_both_5, E_Md_both_6, l_0, l_1, l_4, l_5, l_6, l_7, l_8, l_9, iI_eq]
  by_cases c1 : c = 1
  · rw [if_pos c1] at hop
    rw [if_neg (by omega), if_neg (by omega), if_neg (by omega), if_neg (by omega), if_neg (by omega), if_pos (by omega), if_pos c1]
    by_cases x : a = iI 0
    · rw [if_pos x, if_pos (Or.inl x)]; exact mw_of (Nat.le_refl _) (Nat.le_refl _)
    · rw [if_neg x]
      by_cases y : b = iI 0
      · rw [if_pos y, if_pos (Or.inr y)]; exact mw_of (Nat.le_refl _) (Nat.le_refl _)
      · rw [if_neg y, if_neg (fun z => z.elim x y)]; exact mw_of (Nat.le_refl _) (Nat.le_refl _)
  rw [if_neg c1] at hop ⊢
  by_cases c2 : c = 2
  · rw [if_pos c2] at hop
    rw [if_neg (by omega), if_neg (by omega), if_neg (by omega), if_neg (by omega), if_neg (by omega), if_neg (by omega), if_pos c2]
    by_cases x : a = iI 0
    · rw [if_pos x]
      by_cases y : b = iI 0
      · rw [if_pos y, if_pos ⟨x, y⟩]; exact mw_of (Nat.le_refl _) (Nat.le_refl _)
      · rw [if_neg y, if_neg (fun z => y z.2)]; exact mw_of (Nat.le_refl _) (Nat.le_refl _)
    · rw [if_neg x, if_neg (fun z => x z.1)]; exact mw_of (Nat.le_refl _) (Nat.le_refl _)
  rw [if_neg c2] at hop ⊢
  by_cases c3 : c = 3
  · rw [if_pos c3] at hop
    rw [if_neg (by omega), if_neg (by omega), if_neg (by omega), if_pos (by omega), if_pos c3]
    by_cases x : a < b
    · rw [if_pos x, if_pos x]; exact mw_of (Nat.le_refl _) (Nat.le_refl _)
    · rw [if_neg x, if_neg x]; exact mw_of (Nat.le_refl _) (Nat.le_refl _)
  rw [if_neg c3] at hop ⊢
  by_cases c4 : c = 4
  · rw [if_pos c4] at hop
    rw [if_neg (by omega), if_neg (by omega), if_neg (by omega), if_neg (by omega), if_pos (by omega), if_pos c4]
    by_cases x : a = b
    · rw [if_pos x, if_pos x]; exact mw_of (Nat.le_refl _) (Nat.le_refl _)
    · rw [if_neg x, if_neg x]; exact mw_of (Nat.le_refl _) (Nat.le_refl _)
  rw [if_neg c4] at hop ⊢
  by_cases c5 : c = 5
  · rw [if_pos c5] at hop
    rw [if_pos (by omega), if_pos c5]; exact mw_of (Nat.le_refl _) (Nat.le_refl _)
  rw [if_neg c5] at hop ⊢
  by_cases c6 : c = 6
  · rw [if_pos c6] at hop
    rw [if_neg (by omega), if_pos (by omega), if_pos c6]; exact mw_of (Nat.le_refl _) (Nat.le_refl _)
  rw [if_neg c6] at hop ⊢
  rw [if_neg (by omega), if_neg (by omega), if_pos (by omega)]; exact mw_of (Nat.le_refl _) (Nat.le_refl _)
def cdB (T c : Nat) : Prop := c = 8 ∨ 16 ≤ c ∧ c < 16 + T ∨ 32 ≤ c ∧ c < 10032
theorem q_operand {n : Nat} {A : Nat → Nat} {σ : AM} (hI : Inj n A) {rc : Nat} (hrc : rc < n) (hrk : okO σ (A rc) 101 = true) (hrn : aN σ (A rc) = 6) {m : VM} {T c : Nat} (hT : T ≤ 6) (hc : cdB T c) (wh : Int32) : M_Tw_operand (iI (c : Int)) (A rc) wh (ov n A m σ) = some (opV (m.1 rc) wh c, ov n A m σ) := by
  unfold M_Tw_operand opV cdB at *
  rw [E_Tw_operand_0]
  by_cases c32 : 32 ≤ c
  · simp (disch := omega) only [l_32, iI_lt, iI_sub]
    rw [if_neg (by omega), if_pos c32, mw_ov, show (c : Int) - 32 = ((c - 32 : Nat) : Int) by omega]
  · by_cases c16 : 16 ≤ c
    · have e : (c : Int) - 16 = ((c - 16 : Nat) : Int) := by omega
      simp (disch := omega) only [E_Tw_operand_2, letT_eq, okO_ov, aN_ov, hrk, hrn, gd_true, gd_in, l_0, l_16, l_32, iI_lt, iI_sub, e, nI_iI, iI_cl, Int.toNat_natCast, aI_ov hI]
      rw [if_pos (by omega), if_neg (by omega), if_pos (by omega), if_neg c32, if_pos c16, mw_ov]
    · simp (disch := omega) only [E_Tw_operand_1, E_Tw_operand_2, letT_eq, l_0, l_16, l_32, iI_lt, iI_sub]
      rw [if_pos (by omega), if_pos (by omega), if_neg c32, if_neg c16, mw_ov]
def On1 (x : Nat) (m m' : VM) : Prop := (∀ c, c ≠ x → m'.1 c = m.1 c) ∧ m'.2 = m.2
theorem On1_r (x : Nat) (m : VM) : On1 x m m := ⟨fun _ _ => rfl, rfl⟩
theorem On1_t {x : Nat} {a b c : VM} (h : On1 x a b) (k : On1 x b c) : On1 x a c := ⟨fun i hi => (k.1 i hi).trans (h.1 i hi), k.2.trans h.2⟩
theorem On1_V {x : Nat} {m m' : VM} (h : On1 x m m') (j : Nat) (v : Int32) : On1 x m (sV m' x j v) := ⟨fun i hi => by rw [sV_ne _ _ _ _ hi]; exact h.1 i hi, h.2⟩
/-- the stack holds what it should -/
def Skk (x : Nat) (S : SK) (m : VM) : Prop := ∀ j, j < S.1 → m.1 x j = S.2 j
theorem Skk_op {x : Nat} {S : SK} {m : VM} {f : Nat → Int32} {wh : Int32} {c : Nat} (h : Skk x S m) (hc : 8 ≤ c) : Skk x (stV f wh S c) (sV m x S.1 (opV f wh c)) := by
  unfold stV
  rw [if_pos hc]
  intro j hj
  have hj : j < S.1 + 1 := hj
  show _ = pu S.2 S.1 (opV f wh c) j
  unfold pu
  rw [sV_eq]
  by_cases e : j = S.1
  · rw [if_pos e, if_pos e]
  · rw [if_neg e, if_neg e]; exact h j (by omega)
theorem Skk_not {x : Nat} {S : SK} {m : VM} {f : Nat → Int32} {wh : Int32} (h : Skk x S m) : Skk x (stV f wh S 0) (sV m x (S.1 - 1) (if S.2 (S.1 - 1) = iI 0 then iI 1 else iI 0)) := by
  unfold stV
  rw [if_neg (by omega), if_pos rfl]
  intro j hj
  have hj : j < S.1 := hj
  show _ = pu S.2 (S.1 - 1) (if S.2 (S.1 - 1) = iI 0 then iI 1 else iI 0) j
  unfold pu
  rw [sV_eq]
  by_cases e : j = S.1 - 1
  · rw [if_pos e, if_pos e]
  · rw [if_neg e, if_neg e]; exact h j (by omega)
theorem Skk_jn {x : Nat} {S : SK} {m : VM} {f : Nat → Int32} {wh : Int32} {c : Nat} (h : Skk x S m) (h1 : 1 ≤ c) (h2 : c ≤ 7) (hn : 2 ≤ S.1) : Skk x (stV f wh S c) (sV m x (S.1 - 2) (jnV c (S.2 (S.1 - 2)) (S.2 (S.1 - 1)))) := by
  unfold stV
  rw [if_neg (by omega), if_neg (by omega)]
  intro j hj
  have hj : j < S.1 - 1 := hj
  show _ = pu S.2 (S.1 - 2) (jnV c (S.2 (S.1 - 2)) (S.2 (S.1 - 1))) j
  unfold pu
  rw [sV_eq]
  by_cases e : j = S.1 - 2
  · rw [if_pos e, if_pos e]
  · rw [if_neg e, if_neg e]; exact h j (by omega)
/-- how one step goes on, by heights -/
theorem okCd_c {T n n' c : Nat} {l : List Nat} (h : okCd T n (c :: l) n') : (8 ≤ c ∧ n < 32 ∧ cdB T c ∧ okCd T (n + 1) l n') ∨ (c = 0 ∧ 1 ≤ n ∧ okCd T n l n') ∨ (1 ≤ c ∧ c ≤ 7 ∧ 2 ≤ n ∧ okCd T (n - 1) l n') := by
  unfold okCd at h
  by_cases c8 : 8 ≤ c
  · rw [if_pos c8] at h; exact Or.inl ⟨c8, h.1.1, h.1.2, h.2⟩
  rw [if_neg c8] at h
  by_cases c0 : c = 0
  · rw [if_pos c0] at h; exact Or.inr (Or.inl ⟨c0, h.1, h.2⟩)
  · rw [if_neg c0] at h; exact Or.inr (Or.inr ⟨by omega, by omega, h.1, h.2⟩)
theorem st_h {f : Nat → Int32} {wh : Int32} {S : SK} {c : Nat} : (stV f wh S c).1 = if 8 ≤ c then S.1 + 1 else if c = 0 then S.1 else S.1 - 1 := by
  unfold stV
  by_cases c8 : 8 ≤ c
  · rw [if_pos c8, if_pos c8]
  rw [if_neg c8, if_neg c8]
  by_cases c0 : c = 0
  · rw [if_pos c0, if_pos c0]
  · rw [if_neg c0, if_neg c0]
theorem ru_ext {T : Nat} {f g : Nat → Int32} (hf : ∀ j, j < T → f j = g j) (wh : Int32) : ∀ {l : List Nat} {S : SK} {n' : Nat}, okCd T S.1 l n' → ruV f wh S l = ruV g wh S l := by
  intro l
  induction l with
  | nil => intro S n' _; rfl
  | cons c l ih =>
    intro S n' h
    have e : stV f wh S c = stV g wh S c := by
      rcases okCd_c h with ⟨h1, h2, h3, h4⟩ | ⟨h1, h2, h3⟩ | ⟨h1, h2, h3, h4⟩
      · unfold stV
        rw [if_pos h1, if_pos h1]
        have : opV f wh c = opV g wh c := by
          unfold opV
          by_cases c32 : 32 ≤ c
          · rw [if_pos c32, if_pos c32]
          rw [if_neg c32, if_neg c32]
          by_cases c16 : 16 ≤ c
          · rw [if_pos c16, if_pos c16]
            unfold cdB at h3
            exact hf _ (by omega)
          · rw [if_neg c16, if_neg c16]
        rw [this]
      · unfold stV
        rw [h1]; rfl
      · unfold stV
        have c8 : ¬ 8 ≤ c := by omega
        rw [if_neg c8, if_neg c8]
    show ruV f wh (stV f wh S c) l = ruV g wh (stV g wh S c) l
    rw [← e]
    have hh := st_h (f := f) (wh := wh) (S := S) (c := c)
    rcases okCd_c h with ⟨h1, h2, h3, h4⟩ | ⟨h1, h2, h3⟩ | ⟨h1, h2, h3, h4⟩
    · rw [if_pos h1] at hh; exact ih (by rw [hh]; exact h4)
    · rw [if_neg (by omega), if_pos h1] at hh; exact ih (by rw [hh]; exact h3)
    · rw [if_neg (by omega), if_neg (by omega)] at hh; exact ih (by rw [hh]; exact h4)
theorem va_ext {T : Nat} {f g : Nat → Int32} (hf : ∀ j, j < T → f j = g j) (wh : Int32) {l : List Nat} (h : okCd T 0 l 1) : vaF f wh l = vaF g wh l := by
  unfold vaF
  rw [ru_ext hf wh (S := (0, fun _ => iI 0)) h]
