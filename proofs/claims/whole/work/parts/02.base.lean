/-! ===== the typed memory: ints, longs, references (0: null), kinds, lengths, how many cells, how many slots ===== -/
abbrev AM : Type := (Nat → Nat → Int32) × (Nat → Nat → Int64) × (Nat → Nat → Nat) × (Nat → Nat) × (Nat → Nat) × Nat × Nat
def aI (σ : AM) (a k : Nat) : Int32 := σ.1 a k
def aL (σ : AM) (a k : Nat) : Int64 := σ.2.1 a k
def aR (σ : AM) (a k : Nat) : Nat := σ.2.2.1 a k
def aK (σ : AM) (a : Nat) : Nat := σ.2.2.2.1 a
def aN (σ : AM) (a : Nat) : Nat := σ.2.2.2.2.1 a
def aZ (σ : AM) : Nat := σ.2.2.2.2.2.1
def aU (σ : AM) : Nat := σ.2.2.2.2.2.2
def up2 {α : Type} (f : Nat → Nat → α) (a k : Nat) (v : α) : Nat → Nat → α := fun b j => if b = a ∧ j = k then v else f b j
def sI (σ : AM) (a k : Nat) (v : Int32) : AM := (up2 σ.1 a k v, σ.2)
def sL (σ : AM) (a k : Nat) (v : Int64) : AM := (σ.1, up2 σ.2.1 a k v, σ.2.2)
def sR (σ : AM) (a k : Nat) (v : Nat) : AM := (σ.1, σ.2.1, up2 σ.2.2.1 a k v, σ.2.2.2)
def nw (σ : AM) (kd ln : Nat) : AM := (fun b j => if b = aZ σ then 0 else σ.1 b j, fun b j => if b = aZ σ then 0 else σ.2.1 b j, fun b j => if b = aZ σ then 0 else σ.2.2.1 b j, fun b => if b = aZ σ then kd else aK σ b, fun b => if b = aZ σ then ln else aN σ b, aZ σ + 1, aU σ + ln)
theorem aI_sI (σ : AM) (a k : Nat) (v : Int32) (b j : Nat) : aI (sI σ a k v) b j = if b = a ∧ j = k then v else aI σ b j := rfl
theorem aL_sI (σ : AM) (a k : Nat) (v : Int32) (b j : Nat) : aL (sI σ a k v) b j = aL σ b j := rfl
theorem aR_sI (σ : AM) (a k : Nat) (v : Int32) (b j : Nat) : aR (sI σ a k v) b j = aR σ b j := rfl
theorem aK_sI (σ : AM) (a k : Nat) (v : Int32) (b : Nat) : aK (sI σ a k v) b = aK σ b := rfl
theorem aN_sI (σ : AM) (a k : Nat) (v : Int32) (b : Nat) : aN (sI σ a k v) b = aN σ b := rfl
theorem aZ_sI (σ : AM) (a k : Nat) (v : Int32) : aZ (sI σ a k v) = aZ σ := rfl
theorem aU_sI (σ : AM) (a k : Nat) (v : Int32) : aU (sI σ a k v) = aU σ := rfl
theorem aI_sL (σ : AM) (a k : Nat) (v : Int64) (b j : Nat) : aI (sL σ a k v) b j = aI σ b j := rfl
theorem aL_sL (σ : AM) (a k : Nat) (v : Int64) (b j : Nat) : aL (sL σ a k v) b j = if b = a ∧ j = k then v else aL σ b j := rfl
theorem aR_sL (σ : AM) (a k : Nat) (v : Int64) (b j : Nat) : aR (sL σ a k v) b j = aR σ b j := rfl
theorem aK_sL (σ : AM) (a k : Nat) (v : Int64) (b : Nat) : aK (sL σ a k v) b = aK σ b := rfl
theorem aN_sL (σ : AM) (a k : Nat) (v : Int64) (b : Nat) : aN (sL σ a k v) b = aN σ b := rfl
theorem aZ_sL (σ : AM) (a k : Nat) (v : Int64) : aZ (sL σ a k v) = aZ σ := rfl
theorem aU_sL (σ : AM) (a k : Nat) (v : Int64) : aU (sL σ a k v) = aU σ := rfl
theorem aI_sR (σ : AM) (a k : Nat) (v : Nat) (b j : Nat) : aI (sR σ a k v) b j = aI σ b j := rfl
theorem aL_sR (σ : AM) (a k : Nat) (v : Nat) (b j : Nat) : aL (sR σ a k v) b j = aL σ b j := rfl
theorem aR_sR (σ : AM) (a k : Nat) (v : Nat) (b j : Nat) : aR (sR σ a k v) b j = if b = a ∧ j = k then v else aR σ b j := rfl
theorem aK_sR (σ : AM) (a k : Nat) (v : Nat) (b : Nat) : aK (sR σ a k v) b = aK σ b := rfl
theorem aN_sR (σ : AM) (a k : Nat) (v : Nat) (b : Nat) : aN (sR σ a k v) b = aN σ b := rfl
theorem aZ_sR (σ : AM) (a k : Nat) (v : Nat) : aZ (sR σ a k v) = aZ σ := rfl
theorem aU_sR (σ : AM) (a k : Nat) (v : Nat) : aU (sR σ a k v) = aU σ := rfl
theorem aI_nw (σ : AM) (k n : Nat) (b j : Nat) : aI (nw σ k n) b j = if b = aZ σ then 0 else aI σ b j := rfl
theorem aL_nw (σ : AM) (k n : Nat) (b j : Nat) : aL (nw σ k n) b j = if b = aZ σ then 0 else aL σ b j := rfl
theorem aR_nw (σ : AM) (k n : Nat) (b j : Nat) : aR (nw σ k n) b j = if b = aZ σ then 0 else aR σ b j := rfl
theorem aK_nw (σ : AM) (k n : Nat) (b : Nat) : aK (nw σ k n) b = if b = aZ σ then k else aK σ b := rfl
theorem aN_nw (σ : AM) (k n : Nat) (b : Nat) : aN (nw σ k n) b = if b = aZ σ then n else aN σ b := rfl
theorem aZ_nw (σ : AM) (k n : Nat) : aZ (nw σ k n) = aZ σ + 1 := rfl
theorem aU_nw (σ : AM) (k n : Nat) : aU (nw σ k n) = aU σ + n := rfl
def refV (a : Nat) : Value := if a = 0 then .null else .ref a
theorem refV_of {a : Nat} (h : a ≠ 0) : refV a = .ref a := if_neg h
theorem refV_cat (a : Nat) : (refV a).category = 1 := by unfold refV; split <;> rfl
/-! ===== tail loops without a bound of steps ===== -/
def lpK {S R : Type} (g : S → Option R) (x : S ⊕ Option R) : Option R := match x with
  | .inl s => g s
  | .inr r => r
def lpn {S R : Type} (F : S → S ⊕ Option R) : Nat → S → Option R
  | 0, _ => none
  | n + 1, s => lpK (lpn F n) (F s)
theorem lpn_mono {S R : Type} (F : S → S ⊕ Option R) (n : Nat) : ∀ (s : S) (r : R), lpn F n s = some r → lpn F (n + 1) s = some r := by
  induction n with
  | zero => intro s r h; cases h
  | succ n ih =>
    intro s r h
    show lpK (lpn F (n + 1)) (F s) = some r
    have h' : lpK (lpn F n) (F s) = some r := h
    cases hF : F s with
    | inl s' => rw [hF] at h'; exact ih s' r h'
    | inr x => rw [hF] at h'; exact h'
theorem lpn_le {S R : Type} (F : S → S ⊕ Option R) {n m : Nat} (hnm : n ≤ m) (s : S) (r : R) (h : lpn F n s = some r) : lpn F m s = some r := by
  induction hnm with
  | refl => exact h
  | step _ ih => exact lpn_mono F _ s r ih
noncomputable def lp {S R : Type} (F : S → S ⊕ Option R) (s : S) : Option R := by
  classical
  exact if h : ∃ n, (lpn F n s).isSome = true then lpn F (Classical.choose h) s else none
theorem lp_iff {S R : Type} (F : S → S ⊕ Option R) (s : S) (r : R) : lp F s = some r ↔ ∃ n, lpn F n s = some r := by
  classical
  unfold lp
  constructor
  · intro h
    split at h
    · exact ⟨_, h⟩
    · cases h
  · rintro ⟨n, hn⟩
    have hex : ∃ n, (lpn F n s).isSome = true := ⟨n, by rw [hn]; rfl⟩
    rw [dif_pos hex]
    obtain ⟨r', hr'⟩ := Option.isSome_iff_exists.mp (Classical.choose_spec hex)
    rw [hr']
    have h1 := lpn_le F (Nat.le_max_left n (Classical.choose hex)) s r hn
    have h2 := lpn_le F (Nat.le_max_right n (Classical.choose hex)) s r' hr'
    exact (h2.symm.trans h1)
theorem lp_eq {S R : Type} (F : S → S ⊕ Option R) (s : S) : lp F s = lpK (lp F) (F s) := by
  cases h : lpK (lp F) (F s) with
  | some r =>
    rw [lp_iff]
    cases hF : F s with
    | inl s' =>
      rw [hF] at h
      obtain ⟨n, hn⟩ := (lp_iff F s' r).mp h
      exact ⟨n + 1, by show lpK (lpn F n) (F s) = some r; rw [hF]; exact hn⟩
    | inr x =>
      rw [hF] at h
      exact ⟨1, by show lpK (lpn F 0) (F s) = some r; rw [hF]; exact h⟩
  | none =>
    cases h2 : lp F s with
    | none => rfl
    | some r =>
      obtain ⟨n, hn⟩ := (lp_iff F s r).mp h2
      cases n with
      | zero => cases hn
      | succ n =>
        have hn' : lpK (lpn F n) (F s) = some r := hn
        cases hF : F s with
        | inl s' =>
          rw [hF] at hn' h
          have : lp F s' = some r := (lp_iff F s' r).mpr ⟨n, hn'⟩
          have h3 : lp F s' = none := h
          rw [this] at h3; cases h3
        | inr x =>
          rw [hF] at hn' h
          have h3 : x = none := h
          have h4 : x = some r := hn'
          rw [h3] at h4; cases h4
/-- a call in a step: its answer, or none -/
def bndT {S R A : Type} (x : Option A) (f : A → S ⊕ Option R) : S ⊕ Option R := match x with
  | none => .inr none
  | some a => f a
theorem lpK_inl {S R : Type} (g : S → Option R) (s : S) : lpK g (.inl s) = g s := rfl
theorem lpK_inr {S R : Type} (g : S → Option R) (r : Option R) : lpK g (.inr r) = r := rfl
theorem lpK_ite {S R : Type} (g : S → Option R) (c : Prop) [Decidable c] (a b : S ⊕ Option R) : lpK g (if c then a else b) = if c then lpK g a else lpK g b := by split <;> rfl
theorem lpK_bnd {S R A : Type} (g : S → Option R) (x : Option A) (f : A → S ⊕ Option R) : lpK g (bndT x f) = x.bind (fun a => lpK g (f a)) := by cases x <;> rfl
