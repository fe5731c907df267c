/-! ===== the typed memory: ints, longs, references (0: null), kinds, lengths, how many cells, how many slots ===== -/
abbrev AM : Type := (Nat → Nat → Int32) × (Nat → Nat → Int64) × (Nat → Nat → Nat) × (Nat → Nat) × (Nat → Nat) × Nat × Nat
def aI (σ : AM) (a k : Nat) : Int32 := σ.1 a k
def aL (σ : AM) (a k : Nat) : Int64 := σ.2.1 a k
def aR (σ : AM) (a k : Nat) : Nat := σ.2.2.1 a k
def aK (σ : AM) (a : Nat) : Nat := σ.2.2.2.1 a
def aN (σ : AM) (a : Nat) : Nat := σ.2.2.2.2.1 a
def aZ (σ : AM) : Nat := σ.2.2.2.2.2.1
def aU (σ : AM) : Nat := σ.2.2.2.2.2.2
def up2 {α : Type} (f : Nat → Nat → α) (a k : Nat) (v : α) : Nat → Nat → α := fun b j => if b = a ∧ j = k then v else f b j
def sI (σ : AM) (a k : Nat) (v : Int32) : AM := (up2 σ.1 a k v, σ.2)
def sL (σ : AM) (a k : Nat) (v : Int64) : AM := (σ.1, up2 σ.2.1 a k v, σ.2.2)
def sR (σ : AM) (a k : Nat) (v : Nat) : AM := (σ.1, σ.2.1, up2 σ.2.2.1 a k v, σ.2.2.2)
def nw (σ : AM) (kd ln : Nat) : AM := (fun b j => if b = aZ σ then 0 else σ.1 b j, fun b j => if b = aZ σ then 0 else σ.2.1 b j, fun b j => if b = aZ σ then 0 else σ.2.2.1 b j, fun b => if b = aZ σ then kd else aK σ b, fun b => if b = aZ σ then ln else aN σ b, aZ σ + 1, aU σ + ln)
theorem aI_sI (σ : AM) (a k : Nat) (v : Int32) (b j : Nat) : aI (sI σ a k v) b j = if b = a ∧ j = k then v else aI σ b j := rfl
theorem aL_sI (σ : AM) (a k : Nat) (v : Int32) (b j : Nat) : aL (sI σ a k v) b j = aL σ b j := rfl
theorem aR_sI (σ : AM) (a k : Nat) (v : Int32) (b j : Nat) : aR (sI σ a k v) b j = aR σ b j := rfl
theorem aK_sI (σ : AM) (a k : Nat) (v : Int32) (b : Nat) : aK (sI σ a k v) b = aK σ b := rfl
theorem aN_sI (σ : AM) (a k : Nat) (v : Int32) (b : Nat) : aN (sI σ a k v) b = aN σ b := rfl
theorem aZ_sI (σ : AM) (a k : Nat) (v : Int32) : aZ (sI σ a k v) = aZ σ := rfl
theorem aU_sI (σ : AM) (a k : Nat) (v : Int32) : aU (sI σ a k v) = aU σ := rfl
theorem aI_sL (σ : AM) (a k : Nat) (v : Int64) (b j : Nat) : aI (sL σ a k v) b j = aI σ b j := rfl
theorem aL_sL (σ : AM) (a k : Nat) (v : Int64) (b j : Nat) : aL (sL σ a k v) b j = if b = a ∧ j = k then v else aL σ b j := rfl
theorem aR_sL (σ : AM) (a k : Nat) (v : Int64) (b j : Nat) : aR (sL σ a k v) b j = aR σ b j := rfl
theorem aK_sL (σ : AM) (a k : Nat) (v : Int64) (b : Nat) : aK (sL σ a k v) b = aK σ b := rfl
theorem aN_sL (σ : AM) (a k : Nat) (v : Int64) (b : Nat) : aN (sL σ a k v) b = aN σ b := rfl
theorem aZ_sL (σ : AM) (a k : Nat) (v : Int64) : aZ (sL σ a k v) = aZ σ := rfl
theorem aU_sL (σ : AM) (a k : Nat) (v : Int64) : aU (sL σ a k v) = aU σ := rfl
theorem aI_sR (σ : AM) (a k : Nat) (v : Nat) (b j : Nat) : aI (sR σ a k v) b j = aI σ b j := rfl
theorem aL_sR (σ : AM) (a k : Nat) (v : Nat) (b j : Nat) : aL (sR σ a k v) b j = aL σ b j := rfl
theorem aR_sR (σ : AM) (a k : Nat) (v : Nat) (b j : Nat) : aR (sR σ a k v) b j = if b = a ∧ j = k then v else aR σ b j := rfl
theorem aK_sR (σ : AM) (a k : Nat) (v : Nat) (b : Nat) : aK (sR σ a k v) b = aK σ b := rfl
theorem aN_sR (σ : AM) (a k : Nat) (v : Nat) (b : Nat) : aN (sR σ a k v) b = aN σ b := rfl
theorem aZ_sR (σ : AM) (a k : Nat) (v : Nat) : aZ (sR σ a k v) = aZ σ := rfl
theorem aU_sR (σ : AM) (a k : Nat) (v : Nat) : aU (sR σ a k v) = aU σ := rfl
theorem aI_nw (σ : AM) (k n : Nat) (b j : Nat) : aI (nw σ k n) b j = if b = aZ σ then 0 else aI σ b j := rfl
theorem aL_nw (σ : AM) (k n : Nat) (b j : Nat) : aL (nw σ k n) b j = if b = aZ σ then 0 else aL σ b j := rfl
theorem aR_nw (σ : AM) (k n : Nat) (b j : Nat) : aR (nw σ k n) b j = if b = aZ σ then 0 else aR σ b j := rfl
theorem aK_nw (σ : AM) (k n : Nat) (b : Nat) : aK (nw σ k n) b = if b = aZ σ then k else aK σ b := rfl
theorem aN_nw (σ : AM) (k n : Nat) (b : Nat) : aN (nw σ k n) b = if b = aZ σ then n else aN σ b := rfl
theorem aZ_nw (σ : AM) (k n : Nat) : aZ (nw σ k n) = aZ σ + 1 := rfl
theorem aU_nw (σ : AM) (k n : Nat) : aU (nw σ k n) = aU σ + n := rfl
def refV (a : Nat) : Value := if a = 0 then .null else .ref a
theorem refV_of {a : Nat} (h : a ≠ 0) : refV a = .ref a := if_neg h
theorem refV_cat (a : Nat) : (refV a).category = 1 := by unfold refV; split <;> rfl
/-! ===== tail loops without a bound of steps ===== -/
def lpK {S R : Type} (g : S → Option R) (x : S ⊕ Option R) : Option R := match x with
  | .inl s => g s
  | .inr r => r
def lpn {S R : Type} (F : S → S ⊕ Option R) : Nat → S → Option R
  | 0, _ => none
  | n + 1, s => lpK (lpn F n) (F s)
theorem lpn_mono {S R : Type} (F : S → S ⊕ Option R) (n : Nat) : ∀ (s : S) (r : R), lpn F n s = some r → lpn F (n + 1) s = some r := by
  induction n with
  | zero => intro s r h; cases h
  | succ n ih =>
    intro s r h
    show lpK (lpn F (n + 1)) (F s) = some r
    have h' : lpK (lpn F n) (F s) = some r := h
    cases hF : F s with
    | inl s' => rw [hF] at h'; exact ih s' r h'
    | inr x => rw [hF] at h'; exact h'
theorem lpn_le {S R : Type} (F : S → S ⊕ Option R) {n m : Nat} (hnm : n ≤ m) (s : S) (r : R) (h : lpn F n s = some r) : lpn F m s = some r := by
  induction hnm with
  | refl => exact h
  | step _ ih => exact lpn_mono F _ s r ih
noncomputable def lp {S R : Type} (F : S → S ⊕ Option R) (s : S) : Option R := by
  classical
  exact if h : ∃ n, (lpn F n s).isSome = true then lpn F (Classical.choose h) s else none
theorem lp_iff {S R : Type} (F : S → S ⊕ Option R) (s : S) (r : R) : lp F s = some r ↔ ∃ n, lpn F n s = some r := by
  classical
  unfold lp
  constructor
  · intro h
    split at h
    · exact ⟨_, h⟩
    · cases h
  · rintro ⟨n, hn⟩
    have hex : ∃ n, (lpn F n s).isSome = true := ⟨n, by rw [hn]; rfl⟩
    rw [dif_pos hex]
    obtain ⟨r', hr'⟩ := Option.isSome_iff_exists.mp (Classical.choose_spec hex)
    rw [hr']
    have h1 := lpn_le F (Nat.le_max_left n (Classical.choose hex)) s r hn
    have h2 := lpn_le F (Nat.le_max_right n (Classical.choose hex)) s r' hr'
    exact (h2.symm.trans h1)
theorem lp_eq {S R : Type} (F : S → S ⊕ Option R) (s : S) : lp F s = lpK (lp F) (F s) := by
  cases h : lpK (lp F) (F s) with
  | some r =>
    rw [lp_iff]
    cases hF : F s with
    | inl s' =>
      rw [hF] at h
      obtain ⟨n, hn⟩ := (lp_iff F s' r).mp h
      exact ⟨n + 1, by show lpK (lpn F n) (F s) = some r; rw [hF]; exact hn⟩
    | inr x =>
      rw [hF] at h
      exact ⟨1, by show lpK (lpn F 0) (F s) = some r; rw [hF]; exact h⟩
  | none =>
    cases h2 : lp F s with
    | none => rfl
    | some r =>
      obtain ⟨n, hn⟩ := (lp_iff F s r).mp h2
      cases n with
      | zero => cases hn
      | succ n =>
        have hn' : lpK (lpn F n) (F s) = some r := hn
        cases hF : F s with
        | inl s' =>
          rw [hF] at hn' h
          have : lp F s' = some r := (lp_iff F s' r).mpr ⟨n, hn'⟩
          have h3 : lp F s' = none := h
          rw [this] at h3; cases h3
        | inr x =>
          rw [hF] at hn' h
          have h3 : x = none := h
          have h4 : x = some r := hn'
          rw [h3] at h4; cases h4
/-- a call in a step: its answer and the memory behind it, or none -/
def bndT {S R A : Type} (x : Option (A × AM)) (f : A → AM → S ⊕ Option R) : S ⊕ Option R := match x with
  | none => .inr none
  | some q => f q.1 q.2
def bnd {A B : Type} (x : Option (A × AM)) (f : A → AM → Option B) : Option B := match x with
  | none => none
  | some q => f q.1 q.2
theorem bnd_some {A B : Type} (a : A) (σ : AM) (f : A → AM → Option B) : bnd (some (a, σ)) f = f a σ := rfl
theorem bnd_none {A B : Type} (f : A → AM → Option B) : bnd none f = none := rfl
/-- what a step must find: else none -/
def gdT {S R : Type} (b : Bool) (t : S ⊕ Option R) : S ⊕ Option R := if b = true then t else .inr none
def gd {B : Type} (b : Bool) (t : Option B) : Option B := if b = true then t else none
theorem gd_t {B : Type} {b : Bool} (h : b = true) (t : Option B) : gd b t = t := if_pos h
theorem gd_true {B : Type} (t : Option B) : gd true t = t := rfl
def letT {A B : Type} (e : A) (f : A → B) : B := f e
theorem letT_eq {A B : Type} (e : A) (f : A → B) : letT e f = f e := rfl
theorem lpK_inl {S R : Type} (g : S → Option R) (s : S) : lpK g (.inl s) = g s := rfl
theorem lpK_inr {S R : Type} (g : S → Option R) (r : Option R) : lpK g (.inr r) = r := rfl
theorem lpK_ite {S R : Type} (g : S → Option R) (c : Prop) [Decidable c] (a b : S ⊕ Option R) : lpK g (if c then a else b) = if c then lpK g a else lpK g b := by split <;> rfl
theorem lpK_bnd {S R A : Type} (g : S → Option R) (x : Option (A × AM)) (f : A → AM → S ⊕ Option R) : lpK g (bndT x f) = bnd x (fun a σ => lpK g (f a σ)) := by cases x <;> rfl
theorem lpK_gd {S R : Type} (g : S → Option R) (b : Bool) (t : S ⊕ Option R) : lpK g (gdT b t) = gd b (lpK g t) := by cases b <;> rfl
theorem lpK_let {S R A : Type} (g : S → Option R) (e : A) (f : A → S ⊕ Option R) : lpK g (letT e f) = letT e (fun x => lpK g (f x)) := rfl
def inB (i : Int32) (n : Nat) : Bool := decide (¬ i < 0) && decide (i.toNatClampNeg < n)
def okO (σ : AM) (a k : Nat) : Bool := aK σ a == k
def okA (σ : AM) (a k : Nat) (i : Int32) : Bool := aK σ a == k && inB i (aN σ a)
def isB (v : Int32) : Bool := v == 0 || v == 1
def nzI (v : Int32) : Bool := !(v == 0)
def nzJ (v : Int64) : Bool := !(v == 0)
def okN (n : Int32) : Bool := decide (¬ n < 0) && decide (n.toNatClampNeg ≤ 1000000)
theorem okO_of {σ : AM} {a k : Nat} (h : aK σ a = k) : okO σ a k = true := by unfold okO; rw [h]; exact beq_self_eq_true k
theorem okO_iff {σ : AM} {a k : Nat} : okO σ a k = true ↔ aK σ a = k := by unfold okO; exact beq_iff_eq
theorem inB_iff {i : Int32} {n : Nat} : inB i n = true ↔ vp_in i n := by
  unfold inB vp_in
  rw [Bool.and_eq_true, decide_eq_true_eq, decide_eq_true_eq]
  constructor
  · rintro ⟨h1, h2⟩ (h | h)
    · exact h1 h
    · omega
  · intro h
    exact ⟨fun q => h (Or.inl q), Nat.not_le.mp fun q => h (Or.inr q)⟩
theorem okA_iff {σ : AM} {a k : Nat} {i : Int32} : okA σ a k i = true ↔ aK σ a = k ∧ vp_in i (aN σ a) := by
  unfold okA; rw [Bool.and_eq_true, inB_iff, beq_iff_eq]
theorem okA_nI {σ : AM} {a k n : Nat} (h : aK σ a = k) (hn : n < aN σ a) (hs : n < 2 ^ 31) : okA σ a k (nI n) = true := by
  rw [okA_iff]
  refine ⟨h, ?_⟩
  unfold vp_in
  rw [nI_clamp hs]
  rintro (q | q)
  · exact nI_pos hs q
  · omega
theorem isB_iff {v : Int32} : isB v = true ↔ v = 0 ∨ v = 1 := by unfold isB; rw [Bool.or_eq_true, beq_iff_eq, beq_iff_eq]
theorem nzI_iff {v : Int32} : nzI v = true ↔ ¬ v = 0 := by unfold nzI; simp
theorem nzJ_iff {v : Int64} : nzJ v = true ↔ ¬ v = 0 := by unfold nzJ; simp
theorem okN_iff {n : Int32} : okN n = true ↔ ¬ n < 0 ∧ n.toNatClampNeg ≤ 1000000 := by unfold okN; rw [Bool.and_eq_true, decide_eq_true_eq, decide_eq_true_eq]
theorem isB_narrow {v : Int32} (h : isB v = true) : narrow .boolean (.int v) = .int v := by
  rcases isB_iff.mp h with rfl | rfl <;> rfl
theorem isB_fits {v : Int32} (h : isB v = true) : fits .boolean (.int v) = true := by
  rcases isB_iff.mp h with rfl | rfl <;> rfl
