/-! ===== what a tower tells: things, most, bar, allow lines, which weights may be, what a set costs ===== -/
abbrev TD : Type := Nat × Nat × Nat × Nat × (Nat → Bool) × (Nat → Int32)
abbrev dT (d : TD) : Nat := d.1
abbrev dM (d : TD) : Nat := d.2.1
abbrev dB (d : TD) : Nat := d.2.2.1
abbrev dA (d : TD) : Nat := d.2.2.2.1
abbrev dMay (d : TD) : Nat → Bool := d.2.2.2.2.1
abbrev dCo (d : TD) : Nat → Int32 := d.2.2.2.2.2
def sN (d : TD) : Nat := 2 ^ dT d
def dW (d : TD) : Nat := (dM d + 1) ^ dT d
/-- a thing's weight by the number of the weights -/
def dg (d : TD) (w t : Nat) : Nat := if t < dT d then w / (dM d + 1) ^ t % (dM d + 1) else 0
/-- what a set weighs -/
def wtS (f : Nat → Nat) (s : Nat) : Nat := sumN 6 (fun t => if s.testBit t = true then f t else 0)
def ringsAt (d : TD) (w s : Nat) : Bool := decide (dB d ≤ wtS (dg d w) s)
def lst (d : TD) (w : Nat) : Int64 := mkB (sN d) (ringsAt d w)
/-- the lists of the weights below w that may be, in the order of their first weights -/
def LLs (d : TD) : Nat → List Int64
  | 0 => []
  | w + 1 => if dMay d w = true ∧ ¬ lst d w ∈ LLs d w then LLs d w ++ [lst d w] else LLs d w
def LLd (d : TD) : List Int64 := LLs d (dW d)
def NL (d : TD) : Nat := (LLd d).length
def LL (d : TD) (k : Nat) : Int64 := (LLd d).getD k 0
def sh (d : TD) (k : Nat) : Nat := cntN (dW d) (fun w => dMay d w && decide (lst d w = LL d k))
def num (d : TD) (w : Nat) : Nat := (LLd d).idxOf (lst d w)
def nMay (d : TD) : Nat := cntN (dW d) (dMay d)
def wfD (d : TD) : Prop := dT d ≤ 6 ∧ 1 ≤ dM d ∧ dM d ≤ 9 ∧ 1 ≤ dB d ∧ dB d ≤ 60 ∧ dA d ≤ 4 ∧ dW d ≤ 16384
theorem sN_le {d : TD} (hd : wfD d) : sN d ≤ 64 := Nat.le_trans (Nat.pow_le_pow_right (by omega) hd.1) (by decide)
theorem sN_pos (d : TD) : 0 < sN d := Nat.pow_pos (by omega)
theorem dW_pos (d : TD) : 0 < dW d := Nat.pow_pos (by omega)
/-! the book: trials and hints -/
abbrev BD : Type := Nat × (Nat → Nat) × (Nat → Bool) × Nat × (Nat → Nat) × (Nat → Nat)
abbrev nT (b : BD) : Nat := b.1
abbrev tS (b : BD) : Nat → Nat := b.2.1
abbrev tR (b : BD) : Nat → Bool := b.2.2.1
abbrev nH (b : BD) : Nat := b.2.2.2.1
abbrev hS (b : BD) : Nat → Nat := b.2.2.2.2.1
abbrev hN (b : BD) : Nat → Nat := b.2.2.2.2.2
def wfB (d : TD) (b : BD) : Prop := nT b ≤ 60 ∧ nH b ≤ 8 ∧ (∀ j, j < 60 → tS b j < 64) ∧ (∀ j, j < nT b → tS b j < sN d) ∧ (∀ j, j < 8 → hS b j ≤ 6 ∧ hN b j ≤ 64)
/-! marks: how many were laid; of each its order (0: none), its trials, its hints -/
abbrev KD : Type := Nat × (Nat → Nat) × (Nat → Nat) × (Nat → Nat)
abbrev kL (k : KD) : Nat := k.1
abbrev kO (k : KD) : Nat → Nat := k.2.1
abbrev kT (k : KD) : Nat → Nat := k.2.2.1
abbrev kH (k : KD) : Nat → Nat := k.2.2.2
/-! a row with its length: the tape's signs, the plate's things -/
abbrev PD : Type := Nat × (Nat → Nat)
/-! ===== the reference's state ===== -/
def MT (d : TD) (m : VM) : Prop := (m.1 0 10 = iI (dT d : Int) ∧ m.1 0 11 = iI (dM d : Int) ∧ m.1 0 12 = iI (dB d : Int) ∧ m.1 0 13 = iI (dA d : Int) ∧ m.1 0 26 = iI (dW d : Int) ∧ m.1 0 29 = iI (NL d : Int)) ∧ (∀ w, w < dW d → m.2 12 w = lst d w) ∧ (∀ w, w < dW d → m.1 13 w = bZ (dMay d w)) ∧ (∀ k, k < NL d → m.2 14 k = LL d k) ∧ (∀ k, k < NL d → m.1 15 k = iI (sh d k : Int)) ∧ (∀ s, s < sN d → m.1 20 s = dCo d s)
def MB (b : BD) (m : VM) : Prop := (m.1 0 37 = iI (nT b : Int) ∧ m.1 0 42 = iI (nH b : Int)) ∧ (∀ j, j < 60 → m.1 21 j = iI (tS b j : Int)) ∧ (∀ j, j < 60 → m.1 22 j = bZ (tR b j)) ∧ (∀ j, j < 8 → m.1 23 j = iI (hS b j : Int)) ∧ (∀ j, j < 8 → m.1 24 j = iI (hN b j : Int))
def MKs (k : KD) (m : VM) : Prop := m.1 0 72 = iI (kL k : Int) ∧ (∀ j, j < 4 → m.1 37 j = iI (kO k j : Int)) ∧ (∀ j, j < 4 → m.1 38 j = iI (kT k j : Int)) ∧ (∀ j, j < 4 → m.1 39 j = iI (kH k j : Int))
def MTp (t : PD) (m : VM) : Prop := m.1 0 2 = iI (t.1 : Int) ∧ ∀ j, j < t.1 → m.1 1 j = iI (t.2 j : Int)
def MPl (p : PD) (m : VM) : Prop := m.1 0 70 = iI (p.1 : Int) ∧ ∀ j, j < p.1 → m.1 36 j = iI (p.2 j : Int)
def words : List Int64 := [37901290, 679747, 2793, 2499003, 173217, 19741, 1891, 573, 26801, 975695]
def MWd (m : VM) : Prop := ∀ j, j < 10 → m.2 5 j = words.getD j 0
/-! what a call leaves as it was -/
def persF : List Nat := [2, 10, 11, 12, 13, 26, 29, 37, 42, 70, 72]
def persC : List Nat := [1, 13, 15, 20, 21, 22, 23, 24, 36, 37, 38, 39]
def persL : List Nat := [5, 12, 14]
def KM (m m' : VM) : Prop := (∀ j ∈ persF, m'.1 0 j = m.1 0 j) ∧ (∀ c ∈ persC, m'.1 c = m.1 c) ∧ (∀ c ∈ persL, m'.2 c = m.2 c)
theorem KM_r (m : VM) : KM m m := ⟨fun _ _ => rfl, fun _ _ => rfl, fun _ _ => rfl⟩
theorem KM_t {m m' m'' : VM} (h : KM m m') (h' : KM m' m'') : KM m m'' := ⟨fun j hj => (h'.1 j hj).trans (h.1 j hj), fun c hc => (h'.2.1 c hc).trans (h.2.1 c hc), fun c hc => (h'.2.2 c hc).trans (h.2.2 c hc)⟩
theorem KM_V {m m' : VM} (h : KM m m') {c j : Nat} (v : Int32) (hc : (decide (c ∈ persC) || (decide (c = 0) && decide (j ∈ persF))) = false) : KM m (sV m' c j v) := by
  rw [Bool.or_eq_false_iff, decide_eq_false_iff_not, Bool.and_eq_false_iff, decide_eq_false_iff_not, decide_eq_false_iff_not] at hc
  refine ⟨fun i hi => ?_, fun i hi => ?_, h.2.2⟩
  · rw [← h.1 i hi]
    by_cases e : c = 0
    · subst e
      rw [sV_eq, if_neg]
      intro q; subst q
      exact hc.2.elim (fun q => q rfl) (fun q => q hi)
    · rw [sV_ne m' c j v (fun q => e q.symm)]
  · rw [sV_ne m' c j v (fun q => hc.1 (q ▸ hi)), h.2.1 i hi]
theorem KM_A {m m' : VM} (h : KM m m') {c : Nat} (j : Nat) (v : Int32) (hc : (decide (c ∈ persC) || decide (c = 0)) = false) : KM m (sV m' c j v) := KM_V h v (by
  rw [Bool.or_eq_false_iff] at hc ⊢; exact ⟨hc.1, by rw [hc.2]; rfl⟩)
theorem KM_W {m m' : VM} (h : KM m m') {c : Nat} (j : Nat) (v : Int64) (hc : (decide (c ∈ persL)) = false) : KM m (sW m' c j v) := by
  rw [decide_eq_false_iff_not] at hc
  exact ⟨h.1, h.2.1, fun i hi => by rw [sW_ne m' c j v (fun q => hc (q ▸ hi)), h.2.2 i hi]⟩
theorem MT_K {d : TD} {m m' : VM} (h : KM m m') (k : MT d m) : MT d m' := by
  obtain ⟨⟨a1, a2, a3, a4, a5, a6⟩, b1, b2, b3, b4, b5⟩ := k
  obtain ⟨h1, h2, h3⟩ := h
  refine ⟨⟨?_, ?_, ?_, ?_, ?_, ?_⟩, ?_, ?_, ?_, ?_, ?_⟩
  · rw [h1 10 (by decide)]; exact a1
  · rw [h1 11 (by decide)]; exact a2
  · rw [h1 12 (by decide)]; exact a3
  · rw [h1 13 (by decide)]; exact a4
  · rw [h1 26 (by decide)]; exact a5
  · rw [h1 29 (by decide)]; exact a6
  · rw [h3 12 (by decide)]; exact b1
  · rw [h2 13 (by decide)]; exact b2
  · rw [h3 14 (by decide)]; exact b3
  · rw [h2 15 (by decide)]; exact b4
  · rw [h2 20 (by decide)]; exact b5
theorem MB_K {b : BD} {m m' : VM} (h : KM m m') (k : MB b m) : MB b m' := by
  obtain ⟨⟨a1, a2⟩, b1, b2, b3, b4⟩ := k
  obtain ⟨h1, h2, h3⟩ := h
  refine ⟨⟨?_, ?_⟩, ?_, ?_, ?_, ?_⟩
  · rw [h1 37 (by decide)]; exact a1
  · rw [h1 42 (by decide)]; exact a2
  · rw [h2 21 (by decide)]; exact b1
  · rw [h2 22 (by decide)]; exact b2
  · rw [h2 23 (by decide)]; exact b3
  · rw [h2 24 (by decide)]; exact b4
theorem MKs_K {k : KD} {m m' : VM} (h : KM m m') (q : MKs k m) : MKs k m' := by
  obtain ⟨a1, b1, b2, b3⟩ := q
  obtain ⟨h1, h2, h3⟩ := h
  refine ⟨?_, ?_, ?_, ?_⟩
  · rw [h1 72 (by decide)]; exact a1
  · rw [h2 37 (by decide)]; exact b1
  · rw [h2 38 (by decide)]; exact b2
  · rw [h2 39 (by decide)]; exact b3
theorem MTp_K {t : PD} {m m' : VM} (h : KM m m') (q : MTp t m) : MTp t m' := by
  refine ⟨?_, ?_⟩
  · rw [h.1 2 (by decide)]; exact q.1
  · rw [h.2.1 1 (by decide)]; exact q.2
theorem MPl_K {t : PD} {m m' : VM} (h : KM m m') (q : MPl t m) : MPl t m' := by
  refine ⟨?_, ?_⟩
  · rw [h.1 70 (by decide)]; exact q.1
  · rw [h.2.1 36 (by decide)]; exact q.2
theorem MWd_K {m m' : VM} (h : KM m m') (q : MWd m) : MWd m' := by
  unfold MWd; rw [h.2.2 5 (by decide)]; exact q
/-! the whole state that both sides speak of -/
abbrev SD : Type := TD × BD × KD × PD × PD
abbrev sD (s : SD) : TD := s.1
abbrev sB (s : SD) : BD := s.2.1
abbrev sK (s : SD) : KD := s.2.2.1
abbrev sT (s : SD) : PD := s.2.2.2.1
abbrev sP (s : SD) : PD := s.2.2.2.2
def MI (s : SD) (m : VM) : Prop := MT (sD s) m ∧ MB (sB s) m ∧ MKs (sK s) m ∧ MTp (sT s) m ∧ MPl (sP s) m ∧ MWd m
theorem MI_K {s : SD} {m m' : VM} (h : KM m m') (q : MI s m) : MI s m' := ⟨MT_K h q.1, MB_K h q.2.1, MKs_K h q.2.2.1, MTp_K h q.2.2.2.1, MPl_K h q.2.2.2.2.1, MWd_K h q.2.2.2.2.2⟩
/-- what every state of a run keeps to: ages and orders are below the number of the calls done -/
def wfS (s : SD) (c : Nat) : Prop := wfD (sD s) ∧ wfB (sD s) (sB s) ∧ (kL (sK s) ≤ c ∧ ∀ j, j < 4 → kO (sK s) j ≤ kL (sK s)) ∧ (∀ j, j < 4 → kO (sK s) j ≠ 0 → kT (sK s) j ≤ 60 ∧ kH (sK s) j ≤ 8 ∧ ∀ i, i < kT (sK s) j → tS (sB s) i < sN (sD s)) ∧ ((sT s).1 ≤ 1000 ∧ ∀ j, j < (sT s).1 → (sT s).2 j = 10 ∨ 32 ≤ (sT s).2 j ∧ (sT s).2 j ≤ 126) ∧ ((sP s).1 ≤ 6 ∧ (∀ j, j < (sP s).1 → (sP s).2 j < dT (sD s)) ∧ ∀ i j, i < j → j < (sP s).1 → (sP s).2 i ≠ (sP s).2 j)
