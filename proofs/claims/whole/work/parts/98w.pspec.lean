/-! ===== formulas, read from tokens ===== -/
/-- what reading comes to: the FAULT (0: none), the next token, the codes -/
abbrev PRs : Type := Nat × Nat × List Nat
def bR (x : PRs) (f : Nat → List Nat → PRs) : PRs := if x.1 = 0 then f x.2.1 x.2.2 else x
theorem bR_ok {k : Nat} {l : List Nat} (f : Nat → List Nat → PRs) : bR (0, k, l) f = f k l := rfl
theorem bR_no {x : PRs} (h : ¬ x.1 = 0) (f : Nat → List Nat → PRs) : bR x f = x := if_neg h
def faP (t : PD) (k c : Nat) : PRs := (c + 16 * plT t k, 0, [])
/-- the place of a name among the names told; as many as there are: none -/
def idxN (ns : List (List Nat)) (w : List Nat) : Nat := ns.findIdx (fun n => decide (n = w))
def lvO (c : Nat) : Nat := if c = 10 ∨ c = 11 then 0 else if c = 60 ∨ c = 61 then 1 else if c = 43 ∨ c = 45 then 2 else if c = 42 then 3 else 4
def cdO (c : Nat) : Nat := if c = 10 then 1 else if c = 11 then 2 else if c = 60 then 3 else if c = 61 then 4 else if c = 43 then 5 else if c = 45 then 6 else 7
def stP (ic : Bool) (c : Nat) : Bool := decide (c = 2 ∨ c = 3 ∨ c = 9 ∨ c = 40 ∨ c = if ic = true then 13 else 12)
def foP (t : PD) (ns : List (List Nat)) (ic : Bool) (w k : Nat) : Nat := if stP ic (kdT t k) = true then (if kdT t k = 3 ∧ idxN ns (wdK t k) = ns.length then 2 else if w = 0 then 5 else 0) else 1
def cdP (t : PD) (ns : List (List Nat)) (k : Nat) : Nat := if kdT t k = 2 then 32 + vlK t k else if kdT t k = 3 then 16 + idxN ns (wdK t k) else 8
def loS (t : PD) (sub : Nat → PRs) (lv : Nat) : Nat → Nat → List Nat → PRs
  | 0, k, l => (0, k, l)
  | n + 1, k, l => if lvO (kdT t k) = lv then bR (sub (k + 1)) (fun k' l' => loS t sub lv n k' (l ++ l' ++ [cdO (kdT t k)])) else (0, k, l)
def lvS (t : PD) (sub : Nat → PRs) (lv : Nat) (k : Nat) : PRs := bR (sub k) (fun k' l => loS t sub lv (if lv = 1 then 1 else 1000) k' l)
/-- from a level on -/
def exS (t : PD) (part : Nat → PRs) : Nat → Nat → PRs
  | 0 => part
  | n + 1 => lvS t (exS t part n) (3 - n)
def epS (t : PD) (c k : Nat) (l : List Nat) : PRs := if kdT t k = c then (0, k + 1, l) else faP t k 1
def paS (t : PD) (ns : List (List Nat)) (ic : Bool) : Nat → Nat → PRs
  | 0, k => faP t k (foP t ns ic 0 k)
  | w + 1, k => if foP t ns ic (w + 1) k = 0 then (if kdT t k = 9 then bR (paS t ns ic w (k + 1)) (fun k' l => (0, k', l ++ [0])) else if kdT t k = 40 then bR (exS t (paS t ns ic w) 4 (k + 1)) (fun k' l => epS t 41 k' l) else (0, k + 1, [cdP t ns k])) else faP t k (foP t ns ic (w + 1) k)
/-- all tokens before are tokens -/
def kOk (t : PD) (k : Nat) : Prop := ∀ j, j < k → plT t j < t.1
theorem kOk_le {t : PD} (ht : wfT t) {k : Nat} (h : kOk t k) : k ≤ 1000 := by
  have h1 := pl_ge h
  have h2 := pl_le t k
  have h3 := ht.1
  omega
theorem kOk_s {t : PD} {k : Nat} (h : kOk t k) (hk : ¬ kdT t k = 0) : kOk t (k + 1) := fun j hj => by
  by_cases e : j = k
  · subst e
    rcases Nat.lt_or_ge (plT t j) t.1 with z | z
    · exact z
    · exact absurd (show kdT t j = 0 by unfold kdT kT0; exact if_neg (by omega)) hk
  · exact h j (by omega)
theorem lvO_0 {c : Nat} {lv : Nat} (h : lvO c = lv) (hl : lv < 4) : ¬ c = 0 := fun e => by
  subst e
  have : lvO 0 = 4 := by decide
  omega
def gdP (t : PD) (s : Nat → PRs) : Prop := ∀ k, kOk t k → (s k).1 = 0 → kOk t (s k).2.1 ∧ k + (s k).2.2.length ≤ (s k).2.1 ∧ 0 < (s k).2.2.length
theorem lo_gd {t : PD} {sub : Nat → PRs} (hs : gdP t sub) {lv : Nat} (hl : lv < 4) : ∀ n k l k0, kOk t k → k0 + l.length ≤ k → 0 < l.length → (loS t sub lv n k l).1 = 0 → kOk t (loS t sub lv n k l).2.1 ∧ k0 + (loS t sub lv n k l).2.2.length ≤ (loS t sub lv n k l).2.1 ∧ 0 < (loS t sub lv n k l).2.2.length := by
  intro n
  induction n with
  | zero => intro k l k0 h1 h2 h3 _; exact ⟨h1, h2, h3⟩
  | succ n ih =>
    intro k l k0 h1 h2 h3
    by_cases c : lvO (kdT t k) = lv
    · have e : loS t sub lv (n + 1) k l = bR (sub (k + 1)) (fun k' l' => loS t sub lv n k' (l ++ l' ++ [cdO (kdT t k)])) := if_pos c
      rw [e]
      have hk := kOk_s h1 (lvO_0 c hl)
      by_cases z : (sub (k + 1)).1 = 0
      · obtain ⟨g1, g2, g3⟩ := hs (k + 1) hk z
        have e2 : bR (sub (k + 1)) (fun k' l' => loS t sub lv n k' (l ++ l' ++ [cdO (kdT t k)])) = loS t sub lv n (sub (k + 1)).2.1 (l ++ (sub (k + 1)).2.2 ++ [cdO (kdT t k)]) := if_pos z
        rw [e2]
        refine ih _ _ k0 g1 ?_ ?_
        · rw [List.length_append, List.length_append, List.length_singleton]; omega
        · rw [List.length_append, List.length_singleton]; omega
      · rw [bR_no z]; intro y; exact absurd y z
    · have e : loS t sub lv (n + 1) k l = (0, k, l) := if_neg c
      rw [e]
      intro _
      exact ⟨h1, h2, h3⟩
theorem lv_gd {t : PD} {sub : Nat → PRs} (hs : gdP t sub) {lv : Nat} (hl : lv < 4) : gdP t (lvS t sub lv) := by
  intro k hk
  by_cases z : (sub k).1 = 0
  · obtain ⟨g1, g2, g3⟩ := hs k hk z
    have e2 : lvS t sub lv k = loS t sub lv (if lv = 1 then 1 else 1000) (sub k).2.1 (sub k).2.2 := if_pos z
    rw [e2]
    exact lo_gd hs hl _ _ _ k g1 g2 g3
  · have e2 : lvS t sub lv k = sub k := if_neg z
    rw [e2]
    exact fun y => absurd y z
theorem ex_gd {t : PD} {part : Nat → PRs} (hp : gdP t part) : ∀ n, n ≤ 4 → gdP t (exS t part n) := by
  intro n
  induction n with
  | zero => intro _; exact hp
  | succ n ih => intro h; exact lv_gd (ih (by omega)) (by omega)
theorem fo_kd {t : PD} {ns : List (List Nat)} {ic : Bool} {w k : Nat} (h : foP t ns ic w k = 0) : ¬ kdT t k = 0 := fun e => by
  unfold foP at h
  rw [e] at h
  have : stP ic 0 = false := by cases ic <;> decide
  rw [if_neg (by rw [this]; decide)] at h
  omega
theorem fo_0 {t : PD} {ns : List (List Nat)} {ic : Bool} {k : Nat} : 1 ≤ foP t ns ic 0 k := by
  unfold foP
  split
  · split
    · omega
    · rw [if_pos rfl]; omega
  · omega
theorem pa_gd {t : PD} {ns : List (List Nat)} {ic : Bool} : ∀ w, gdP t (paS t ns ic w) := by
  intro w
  induction w with
  | zero =>
    intro k hk h
    have h : foP t ns ic 0 k + 16 * plT t k = 0 := h
    have := fo_0 (t := t) (ns := ns) (ic := ic) (k := k)
    omega
  | succ w ih =>
    intro k hk
    by_cases c : foP t ns ic (w + 1) k = 0
    · have hk1 := kOk_s hk (fo_kd c)
      by_cases c9 : kdT t k = 9
      · have e : paS t ns ic (w + 1) k = bR (paS t ns ic w (k + 1)) (fun k' l => (0, k', l ++ [0])) := (if_pos c).trans (if_pos c9)
        rw [e]
        by_cases z : (paS t ns ic w (k + 1)).1 = 0
        · obtain ⟨g1, g2, g3⟩ := ih (k + 1) hk1 z
          have e2 : bR (paS t ns ic w (k + 1)) (fun k' l => (0, k', l ++ [0])) = (0, (paS t ns ic w (k + 1)).2.1, (paS t ns ic w (k + 1)).2.2 ++ [0]) := if_pos z
          rw [e2]
          intro _
          refine ⟨g1, ?_, ?_⟩
          · show k + ((paS t ns ic w (k + 1)).2.2 ++ [0]).length ≤ _
            rw [List.length_append, List.length_singleton]
            show _ ≤ (paS t ns ic w (k + 1)).2.1
            omega
          · show 0 < ((paS t ns ic w (k + 1)).2.2 ++ [0]).length
            rw [List.length_append, List.length_singleton]; omega
        · rw [bR_no z]; exact fun y => absurd y z
      · by_cases c40 : kdT t k = 40
        · have e : paS t ns ic (w + 1) k = bR (exS t (paS t ns ic w) 4 (k + 1)) (fun k' l => epS t 41 k' l) := (if_pos c).trans ((if_neg c9).trans (if_pos c40))
          rw [e]
          by_cases z : (exS t (paS t ns ic w) 4 (k + 1)).1 = 0
          · obtain ⟨g1, g2, g3⟩ := ex_gd ih 4 (Nat.le_refl _) (k + 1) hk1 z
            have e2 : bR (exS t (paS t ns ic w) 4 (k + 1)) (fun k' l => epS t 41 k' l) = epS t 41 (exS t (paS t ns ic w) 4 (k + 1)).2.1 (exS t (paS t ns ic w) 4 (k + 1)).2.2 := if_pos z
            rw [e2]
            unfold epS
            by_cases y : kdT t (exS t (paS t ns ic w) 4 (k + 1)).2.1 = 41
            · rw [if_pos y]
              intro _
              refine ⟨kOk_s g1 (by rw [y]; decide), ?_, g3⟩
              show k + (exS t (paS t ns ic w) 4 (k + 1)).2.2.length ≤ (exS t (paS t ns ic w) 4 (k + 1)).2.1 + 1
              omega
            · rw [if_neg y]
              intro x
              have x : 1 + 16 * plT t _ = 0 := x
              omega
          · rw [bR_no z]; exact fun y => absurd y z
        · have e : paS t ns ic (w + 1) k = (0, k + 1, [cdP t ns k]) := (if_pos c).trans ((if_neg c9).trans (if_neg c40))
          rw [e]
          exact fun _ => ⟨hk1, Nat.le_refl _, Nat.one_pos⟩
    · have e : paS t ns ic (w + 1) k = faP t k (foP t ns ic (w + 1) k) := if_neg c
      rw [e]
      intro x
      have x : foP t ns ic (w + 1) k + 16 * plT t k = 0 := x
      omega
