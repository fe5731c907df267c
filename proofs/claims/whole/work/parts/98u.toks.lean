/-! ===== the TAPE cut into tokens ===== -/
def isBl (c : Nat) : Bool := decide (c = 10) || decide (c = 32)
def isLt (c : Nat) : Bool := decide (97 ≤ c) && decide (c ≤ 122)
def isDg (c : Nat) : Bool := decide (48 ≤ c) && decide (c ≤ 57)
def isSg (c : Nat) : Bool := decide (c ∈ [40, 41, 60, 61, 43, 45, 42, 59])
/-- the first place from i on that p doesn't hold of, at most k further -/
def ruN (p : Nat → Bool) : Nat → Nat → Nat
  | 0, i => i
  | k + 1, i => if p i = true then ruN p k (i + 1) else i
def enT (t : PD) (p : Nat → Bool) (i : Nat) : Nat := ruN (fun j => p (t.2 j)) (t.1 - i) i
theorem en_1 {t : PD} {p : Nat → Bool} {i : Nat} (h : i < t.1) (hp : p (t.2 i) = true) : enT t p i = enT t p (i + 1) := by
  unfold enT
  rw [show t.1 - i = (t.1 - (i + 1)) + 1 by omega]
  exact if_pos hp
theorem en_0 {t : PD} {p : Nat → Bool} {i : Nat} (hp : p (t.2 i) = false) : enT t p i = i := by
  unfold enT
  cases t.1 - i with
  | zero => rfl
  | succ k => exact if_neg (show ¬ p (t.2 i) = true by rw [hp]; decide)
theorem en_n {t : PD} {p : Nat → Bool} {i : Nat} (h : ¬ i < t.1) : enT t p i = i := by
  unfold enT
  rw [show t.1 - i = 0 by omega]; rfl
theorem ru_ge (p : Nat → Bool) : ∀ k i, i ≤ ruN p k i ∧ ruN p k i ≤ i + k := by
  intro k
  induction k with
  | zero => intro i; exact ⟨Nat.le_refl _, Nat.le_refl _⟩
  | succ k ih =>
    intro i
    have := ih (i + 1)
    show i ≤ (if p i = true then ruN p k (i + 1) else i) ∧ (if p i = true then ruN p k (i + 1) else i) ≤ i + (k + 1)
    split <;> omega
theorem en_ge (t : PD) (p : Nat → Bool) (i : Nat) : i ≤ enT t p i := (ru_ge _ _ i).1
theorem en_le {t : PD} (p : Nat → Bool) {i : Nat} (h : i ≤ t.1) : enT t p i ≤ t.1 := by
  have := (ru_ge (fun j => p (t.2 j)) (t.1 - i) i).2
  unfold enT; omega
theorem ru_in {p : Nat → Bool} : ∀ {k i j : Nat}, i ≤ j → j < ruN p k i → p j = true := by
  intro k
  induction k with
  | zero => intro i j h1 h2; exact absurd h2 (by show ¬ j < i; omega)
  | succ k ih =>
    intro i j h1 h2
    have h2 : j < (if p i = true then ruN p k (i + 1) else i) := h2
    by_cases c : p i = true
    · rw [if_pos c] at h2
      by_cases e : j = i
      · rw [e]; exact c
      · exact ih (by omega) h2
    · rw [if_neg c] at h2; omega
theorem en_in {t : PD} {p : Nat → Bool} {i j : Nat} (h1 : i ≤ j) (h2 : j < enT t p i) : p (t.2 j) = true := ru_in (p := fun j => p (t.2 j)) h1 h2
theorem ru_no {p : Nat → Bool} : ∀ {k i : Nat}, ruN p k i < i + k → p (ruN p k i) = false := by
  intro k
  induction k with
  | zero => intro i h; exact absurd h (by show ¬ i < i + 0; omega)
  | succ k ih =>
    intro i h
    have h : (if p i = true then ruN p k (i + 1) else i) < i + (k + 1) := h
    show p (if p i = true then ruN p k (i + 1) else i) = false
    by_cases c : p i = true
    · rw [if_pos c] at h ⊢
      exact ih (by omega)
    · rw [if_neg c]
      cases q : p i
      · rfl
      · exact absurd q c
theorem en_no {t : PD} {p : Nat → Bool} {i : Nat} (h : i ≤ t.1) (h2 : enT t p i < t.1) : p (t.2 (enT t p i)) = false := ru_no (p := fun j => p (t.2 j)) (by show enT t p i < _; omega)
/-- the letters, or digits, between two places -/
def wdT (t : PD) (a e : Nat) : List Nat := (List.range (e - a)).map (fun i => t.2 (a + i))
theorem wd_len (t : PD) (a e : Nat) : (wdT t a e).length = e - a := by unfold wdT; rw [List.length_map, List.length_range]
theorem wd_s {t : PD} {a e : Nat} (h : a ≤ e) : wdT t a (e + 1) = wdT t a e ++ [t.2 e] := by
  unfold wdT
  rw [show e + 1 - a = (e - a) + 1 by omega, List.range_succ, List.map_append, List.map_singleton, show a + (e - a) = e by omega]
theorem wd_0 (t : PD) (a : Nat) : wdT t a a = [] := by unfold wdT; rw [Nat.sub_self]; rfl
theorem wd_in {t : PD} {a e : Nat} {p : Nat → Bool} (h : ∀ j, a ≤ j → j < e → p (t.2 j) = true) : ∀ c ∈ wdT t a e, p c = true := by
  intro c hc
  unfold wdT at hc
  obtain ⟨i, hi, rfl⟩ := List.mem_map.mp hc
  rw [List.mem_range] at hi
  exact h _ (by omega) (by omega)
theorem revI {P : List Nat → Prop} (nil : P []) (step : ∀ l c, P l → P (l ++ [c])) (l : List Nat) : P l := by
  have key : ∀ n (l : List Nat), l.length = n → P l := by
    intro n
    induction n with
    | zero => intro l h; rw [List.eq_nil_of_length_eq_zero h]; exact nil
    | succ n ih =>
      intro l h
      rcases List.eq_nil_or_concat l with z | ⟨s, c, z⟩
      · rw [z] at h; cases h
      · rw [List.concat_eq_append] at z
        subst z
        rw [List.length_append, List.length_singleton] at h
        exact step s c (ih s (by omega))
  exact key _ l rfl
/-- numbers in a base -/
def nmB (B : Nat) (g : Nat → Nat) (l : List Nat) : Nat := l.foldl (fun v c => v * B + g c) 0
theorem nm_app (B : Nat) (g : Nat → Nat) (l : List Nat) (c : Nat) : nmB B g (l ++ [c]) = nmB B g l * B + g c := by unfold nmB; rw [List.foldl_append]; rfl
theorem nm_lt {B : Nat} {g : Nat → Nat} (l : List Nat) (h : ∀ c ∈ l, g c < B) : nmB B g l < B ^ l.length := by
  induction l using revI with
  | nil => exact Nat.one_pos
  | step l c ih =>
    have h1 := ih fun x hx => h x (List.mem_append_left _ hx)
    have h2 := h c (List.mem_append_right _ (List.mem_singleton.mpr rfl))
    rw [nm_app, List.length_append, List.length_singleton, Nat.pow_succ]
    have h3 : (nmB B g l + 1) * B ≤ B ^ l.length * B := Nat.mul_le_mul_right _ h1
    rw [Nat.add_mul, Nat.one_mul] at h3
    omega
theorem nm_inj {B : Nat} {g : Nat → Nat} (hg : ∀ a c, isLt a = true → isLt c = true → g a = g c → a = c) (hp : ∀ c, isLt c = true → 0 < g c ∧ g c < B) : ∀ {l r : List Nat}, (∀ c ∈ l, isLt c = true) → (∀ c ∈ r, isLt c = true) → nmB B g l = nmB B g r → l = r := by
  intro l
  induction l using revI with
  | nil =>
    intro r _ hr e
    rcases List.eq_nil_or_concat r with z | ⟨s, c, z⟩
    · exact z.symm
    · rw [List.concat_eq_append] at z
      subst z
      rw [nm_app] at e
      have := hp c (hr c (List.mem_append_right _ (List.mem_singleton.mpr rfl)))
      have e : 0 = nmB B g s * B + g c := e
      omega
  | step l a ih =>
    intro r hl hr e
    have ha := hl a (List.mem_append_right _ (List.mem_singleton.mpr rfl))
    have ga := hp a ha
    rcases List.eq_nil_or_concat r with z | ⟨s, c, z⟩
    · rw [z, nm_app] at e
      have e : nmB B g l * B + g a = 0 := e
      omega
    · rw [List.concat_eq_append] at z
      subst z
      have hc := hr c (List.mem_append_right _ (List.mem_singleton.mpr rfl))
      have gc := hp c hc
      rw [nm_app, nm_app] at e
      have e1 : nmB B g l = nmB B g s := by
        have h1 : (nmB B g l * B + g a) / B = (nmB B g s * B + g c) / B := by rw [e]
        rw [Nat.add_comm, Nat.add_mul_div_right _ _ (by omega), Nat.add_comm (nmB B g s * B), Nat.add_mul_div_right _ _ (by omega), Nat.div_eq_of_lt ga.2, Nat.div_eq_of_lt gc.2] at h1
        omega
      rw [e1] at e
      rw [ih (fun x hx => hl x (List.mem_append_left _ hx)) (fun x hx => hr x (List.mem_append_left _ hx)) e1, hg a c ha hc (by omega)]
/-- the ten words -/
def wlT : Nat → List Nat
  | 0 => [116, 104, 105, 110, 103]
  | 1 => [109, 111, 115, 116]
  | 2 => [98, 97, 114]
  | 3 => [97, 108, 108, 111, 119]
  | 4 => [99, 111, 115, 116]
  | 5 => [110, 111, 116]
  | 6 => [97, 110, 100]
  | 7 => [111, 114]
  | 8 => [115, 117, 109]
  | _ => [115, 105, 122, 101]
def gCt (c : Nat) : Nat := c
def gMt (c : Nat) : Nat := c - 96
theorem wl_lt : ∀ i : Fin 10, ∀ c ∈ wlT i.val, isLt c = true := by decide
theorem wl_C : ∀ i : Fin 10, tbWORDS i.val = Int64.ofInt (nmB 256 gCt (wlT i.val) : Int) := by decide
theorem wl_M : ∀ i : Fin 10, words.getD i.val 0 = Int64.ofInt (nmB 37 gMt (wlT i.val) : Int) := by decide
theorem wl_ne : ∀ i j : Fin 10, wlT i.val = wlT j.val → i = j := by decide
theorem wlT_len : ∀ i : Fin 10, (wlT i.val).length ≤ 8 := by decide
theorem lt_b {c : Nat} (h : isLt c = true) : 97 ≤ c ∧ c ≤ 122 := by
  unfold isLt at h
  rw [Bool.and_eq_true] at h
  exact ⟨of_decide_eq_true h.1, of_decide_eq_true h.2⟩
theorem dg_b {c : Nat} (h : isDg c = true) : 48 ≤ c ∧ c ≤ 57 := by
  unfold isDg at h
  rw [Bool.and_eq_true] at h
  exact ⟨of_decide_eq_true h.1, of_decide_eq_true h.2⟩
theorem nmC_inj {l r : List Nat} (h1 : ∀ c ∈ l, isLt c = true) (h2 : ∀ c ∈ r, isLt c = true) (e : nmB 256 gCt l = nmB 256 gCt r) : l = r := nm_inj (g := gCt) (fun _ _ _ _ h => h) (fun c h => by have := lt_b h; show 0 < c ∧ c < 256; omega) h1 h2 e
theorem nmM_inj {l r : List Nat} (h1 : ∀ c ∈ l, isLt c = true) (h2 : ∀ c ∈ r, isLt c = true) (e : nmB 37 gMt l = nmB 37 gMt r) : l = r := nm_inj (fun a c h1 h2 h => by have := lt_b h1; have := lt_b h2; unfold gMt at h; omega) (fun c h => by have := lt_b h; unfold gMt; omega) h1 h2 e
/-! one token -/
def eT (t : PD) (a : Nat) : Nat := if a < t.1 then (if isLt (t.2 a) = true then enT t isLt a else if isDg (t.2 a) = true then enT t isDg a else a + 1) else a
/-- 3 + the word's place among the ten, or 3 -/
def wk (l : List Nat) : Nat → Nat
  | 0 => 3
  | n + 1 => if wlT n = l then 4 + n else wk l n
def kT0 (t : PD) (a : Nat) : Nat := if a < t.1 then (if isLt (t.2 a) = true then (if 8 < eT t a - a then 1 else wk (wdT t a (eT t a)) 10) else if isDg (t.2 a) = true then (if 4 < eT t a - a then 1 else 2) else if isSg (t.2 a) = true then t.2 a else 1) else 0
def plT (t : PD) : Nat → Nat
  | 0 => enT t isBl 0
  | k + 1 => enT t isBl (eT t (plT t k))
def kdT (t : PD) (k : Nat) : Nat := kT0 t (plT t k)
def wdK (t : PD) (k : Nat) : List Nat := wdT t (plT t k) (eT t (plT t k))
def vlK (t : PD) (k : Nat) : Nat := nmB 10 (fun c => c - 48) (wdK t k)
theorem eT_ge (t : PD) (a : Nat) : a ≤ eT t a := by
  unfold eT
  by_cases c : a < t.1
  · rw [if_pos c]
    by_cases c1 : isLt (t.2 a) = true
    · rw [if_pos c1]; exact en_ge _ _ _
    · rw [if_neg c1]
      by_cases c2 : isDg (t.2 a) = true
      · rw [if_pos c2]; exact en_ge _ _ _
      · rw [if_neg c2]; omega
  · rw [if_neg c]; exact Nat.le_refl _
theorem eT_gt {t : PD} {a : Nat} (h : a < t.1) : a < eT t a := by
  unfold eT
  rw [if_pos h]
  by_cases c1 : isLt (t.2 a) = true
  · rw [if_pos c1, en_1 h c1]; exact en_ge _ _ _
  · rw [if_neg c1]
    by_cases c2 : isDg (t.2 a) = true
    · rw [if_pos c2, en_1 h c2]; exact en_ge _ _ _
    · rw [if_neg c2]; omega
theorem eT_le {t : PD} {a : Nat} (h : a ≤ t.1) : eT t a ≤ t.1 := by
  unfold eT
  by_cases c : a < t.1
  · rw [if_pos c]
    by_cases c1 : isLt (t.2 a) = true
    · rw [if_pos c1]; exact en_le _ h
    · rw [if_neg c1]
      by_cases c2 : isDg (t.2 a) = true
      · rw [if_pos c2]; exact en_le _ h
      · rw [if_neg c2]; omega
  · rw [if_neg c]; exact h
theorem pl_le (t : PD) (k : Nat) : plT t k ≤ t.1 := by
  induction k with
  | zero => exact en_le _ (Nat.zero_le _)
  | succ k ih => exact en_le _ (eT_le ih)
theorem pl_up {t : PD} {k : Nat} (h : plT t k < t.1) : plT t k < plT t (k + 1) := Nat.lt_of_lt_of_le (eT_gt h) (en_ge _ _ _)
theorem pl_ge {t : PD} : ∀ {k : Nat}, (∀ j, j < k → plT t j < t.1) → k ≤ plT t k := by
  intro k
  induction k with
  | zero => intro _; exact Nat.zero_le _
  | succ k ih =>
    intro h
    have h1 := ih fun j hj => h j (by omega)
    have h2 := pl_up (h k (by omega))
    omega
/-! the class reads a token -/
theorem q_Rd_isBlank {c : Nat} (h : c < 1000) (σ : AM) : M_Rd_isBlank (iI (c : Int)) σ = some (bZ (isBl c), σ) := by
  unfold M_Rd_isBlank
  rw [E_Rd_isBlank_0]
  simp (disch := omega) only [E_Rd_isBlank_1, E_Rd_isBlank_2, l_0, l_1, l_10, l_32, iI_eq, isB_0, isB_1, gd_true]
  unfold isBl
  by_cases c1 : c = 10
  · rw [if_pos (by omega), mw_of (Nat.le_refl _) (Nat.le_refl _), decide_eq_true c1]; rfl
  · rw [if_neg (by omega)]
    by_cases c2 : c = 32
    · rw [if_pos (by omega), mw_of (Nat.le_refl _) (Nat.le_refl _), decide_eq_false c1, decide_eq_true c2]; rfl
    · rw [if_neg (by omega), mw_of (Nat.le_refl _) (Nat.le_refl _), decide_eq_false c1, decide_eq_false c2]; rfl
theorem q_Rd_isLetter {c : Nat} (h : c < 1000) (σ : AM) : M_Rd_isLetter (iI (c : Int)) σ = some (bZ (isLt c), σ) := by
  unfold M_Rd_isLetter
  rw [E_Rd_isLetter_0]
  simp (disch := omega) only [E_Rd_isLetter_1, E_Rd_isLetter_2, l_0, l_1, l_97, l_122, iI_lt, isB_0, isB_1, gd_true]
  unfold isLt
  by_cases c1 : 97 ≤ c
  · rw [if_neg (by omega), decide_eq_true c1]
    by_cases c2 : c ≤ 122
    · rw [if_neg (by omega), mw_of (Nat.le_refl _) (Nat.le_refl _), decide_eq_true c2]; rfl
    · rw [if_pos (by omega), mw_of (Nat.le_refl _) (Nat.le_refl _), decide_eq_false c2]; rfl
  · rw [if_pos (by omega), mw_of (Nat.le_refl _) (Nat.le_refl _), decide_eq_false c1]; rfl
theorem q_Rd_isDigit {c : Nat} (h : c < 1000) (σ : AM) : M_Rd_isDigit (iI (c : Int)) σ = some (bZ (isDg c), σ) := by
  unfold M_Rd_isDigit
  rw [E_Rd_isDigit_0]
  simp (disch := omega) only [E_Rd_isDigit_1, E_Rd_isDigit_2, l_0, l_1, l_48, l_57, iI_lt, isB_0, isB_1, gd_true]
  unfold isDg
  by_cases c1 : 48 ≤ c
  · rw [if_neg (by omega), decide_eq_true c1]
    by_cases c2 : c ≤ 57
    · rw [if_neg (by omega), mw_of (Nat.le_refl _) (Nat.le_refl _), decide_eq_true c2]; rfl
    · rw [if_pos (by omega), mw_of (Nat.le_refl _) (Nat.le_refl _), decide_eq_false c2]; rfl
  · rw [if_pos (by omega), mw_of (Nat.le_refl _) (Nat.le_refl _), decide_eq_false c1]; rfl
theorem q_JStr_indexOf {c : Nat} (h : c < 128) (σ : AM) : ∃ r : Int, M_JStr_indexOf (iI (c : Int)) σ = some (iI r, σ) ∧ -1 ≤ r ∧ r < 8 ∧ (isSg c = decide (0 ≤ r)) := by
  have e8 : (iI (c : Int)).toInt8.toInt32 = iI (c : Int) := by
    have : ∀ c : Fin 128, (iI (c.val : Int)).toInt8.toInt32 = iI (c.val : Int) := by decide +kernel
    exact this ⟨c, h⟩
  have hsg : isSg c = anyN 8 (fun j => decide (tbSIGNS j = iI (c : Int))) := by
    have : ∀ c : Fin 128, isSg c.val = anyN 8 (fun j => decide (tbSIGNS j = iI (c.val : Int))) := by decide +kernel
    exact this ⟨c, h⟩
  have lp : ∀ k i, i + k = 8 → (∀ j, j < i → ¬ tbSIGNS j = iI (c : Int)) → ∃ r : Int, L_JLat_indexOfChar_1 (iI 8) (iI (c : Int)) (iI (i : Int)) σ = some (iI r, σ) ∧ -1 ≤ r ∧ r < 8 ∧ (isSg c = decide (0 ≤ r)) := by
    intro k
    induction k with
    | zero =>
      intro i hi hno
      refine ⟨-1, ?_, by omega, by omega, ?_⟩
      · rw [E_JLat_indexOfChar_1]
        simp (disch := omega) only [l_1, iI_neg, iI_lt]
        rw [if_neg (by omega)]
      · rw [hsg, decide_eq_false (show ¬ (0 : Int) ≤ -1 by omega)]
        cases q : anyN 8 (fun j => decide (tbSIGNS j = iI (c : Int)))
        · rfl
        · obtain ⟨j, hj, z⟩ := anyN_iff.mp q
          exact absurd (of_decide_eq_true z) (hno j (by omega))
    | succ k ih =>
      intro i hi hno
      have hin : inB (iI (i : Int)) 8 := by
        rw [inB_iI (by omega) (by omega)]; omega
      by_cases q : tbSIGNS i = iI (c : Int)
      · refine ⟨i, ?_, by omega, by omega, ?_⟩
        · rw [E_JLat_indexOfChar_1]
          simp (disch := omega) only [iI_lt, gd_in, iI_cl, Int.toNat_natCast, q, if_true]
          rw [if_pos (by omega)]
        · rw [hsg, decide_eq_true (show (0 : Int) ≤ (i : Int) by omega)]
          exact anyN_iff.mpr ⟨i, by omega, decide_eq_true q⟩
      · have ih := ih (i + 1) (by omega) (fun j hj => by
          by_cases e : j = i
          · rw [e]; exact q
          · exact hno j (by omega))
        rw [E_JLat_indexOfChar_1]
        simp (disch := omega) only [iI_lt, gd_in, iI_cl, Int.toNat_natCast, l_1, iI_add, iI_s]
        rw [if_pos (by omega), if_neg q]
        exact ih
  obtain ⟨r, e, r1, r2, r3⟩ := lp 8 0 (by omega) (fun j hj => by omega)
  replace e : L_JLat_indexOfChar_1 (iI 8) (iI (c : Int)) (iI 0) σ = _ := e
  refine ⟨r, ?_, r1, r2, r3⟩
  have e1 : M_JLat_indexOfChar (iI (c : Int)) (iI 0) (iI 8) σ = some (iI r, σ) := by
    unfold M_JLat_indexOfChar
    rw [E_JLat_indexOfChar_0, e8, letT_eq, e]
    exact mw_of (Nat.le_refl _) (Nat.le_refl _)
  have e2 : M_JLat_canEncode (iI (c : Int)) σ = some (bZ true, σ) := by
    unfold M_JLat_canEncode
    rw [E_JLat_canEncode_0]
    simp (disch := omega) only [E_JLat_canEncode_2, l_0, l_1, l_255, iI_lt, isB_1, gd_true]
    rw [if_neg (by omega), if_neg (by omega)]
    exact mw_of (Nat.le_refl _) (Nat.le_refl _)
  have e3 : M_JLat_indexOf (iI (c : Int)) (iI 0) (iI 8) σ = some (iI r, σ) := by
    unfold M_JLat_indexOf
    rw [E_JLat_indexOf_0]
    simp (disch := omega) only [e2, bnd_some, bZ_0, l_0, l_8, mxI_iI, mnI_iI, letT_eq, iI_lt, e1, reduceCtorEq, Int.reduceLT, ↓reduceIte]
    exact mw_of (Nat.le_refl _) (Nat.le_refl _)
  have e4 : M_JStr_isLatin1 σ = some (bZ true, σ) := by
    unfold M_JStr_isLatin1
    rw [E_JStr_isLatin1_0]
    simp only [E_JStr_isLatin1_2, l_0, l_1, isB_1, gd_true, if_true]
    rw [if_neg (by decide)]
    exact mw_of (Nat.le_refl _) (Nat.le_refl _)
  have e5 : M_JStr_length σ = some (iI 8, σ) := by
    have e6 : M_JStr_coder σ = some (iI 0, σ) := by
      unfold M_JStr_coder
      rw [E_JStr_coder_0]
      simp only [E_JStr_coder_1, l_0, l_1, isB_0, gd_true]
      rw [if_neg (by decide)]
      exact mw_of (Nat.le_refl _) (Nat.le_refl _)
    unfold M_JStr_length
    rw [E_JStr_length_0, e6, bnd_some]
    exact (mw_of (Nat.le_refl _) (Nat.le_refl _)).trans (congrArg (fun x => some (x, σ)) (by decide))
  have e7 : M_JStr_indexOf2 (iI (c : Int)) (iI 0) σ = some (iI r, σ) := by
    unfold M_JStr_indexOf2
    rw [E_JStr_indexOf2_0]
    simp only [e4, bnd_some, bZ_0, l_0, e5, e3, reduceCtorEq, ↓reduceIte]
    exact mw_of (Nat.le_refl _) (Nat.le_refl _)
  unfold M_JStr_indexOf
  rw [E_JStr_indexOf_0]
  simp only [l_0, e7, bnd_some]
  exact mw_of (Nat.le_refl _) (Nat.le_refl _)
