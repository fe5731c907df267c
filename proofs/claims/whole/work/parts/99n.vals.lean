/-! ===== what a formula is worth: a stack, and how high it grows ===== -/
def jnV (c : Nat) (a b : Int32) : Int32 := if c = 1 then (if a = iI 0 ∨ b = iI 0 then iI 0 else iI 1) else if c = 2 then (if a = iI 0 ∧ b = iI 0 then iI 0 else iI 1) else if c = 3 then (if a < b then iI 1 else iI 0) else if c = 4 then (if a = b then iI 1 else iI 0) else if c = 5 then a + b else if c = 6 then a - b else a * b
def opV (f : Nat → Int32) (wh : Int32) (c : Nat) : Int32 := if 32 ≤ c then iI ((c - 32 : Nat) : Int) else if 16 ≤ c then f (c - 16) else wh
/-- a stack: its height, its places -/
abbrev SK : Type := Nat × (Nat → Int32)
def pu (s : Nat → Int32) (j : Nat) (v : Int32) : Nat → Int32 := fun i => if i = j then v else s i
def stV (f : Nat → Int32) (wh : Int32) (s : SK) (c : Nat) : SK := if 8 ≤ c then (s.1 + 1, pu s.2 s.1 (opV f wh c)) else if c = 0 then (s.1, pu s.2 (s.1 - 1) (if s.2 (s.1 - 1) = iI 0 then iI 1 else iI 0)) else (s.1 - 1, pu s.2 (s.1 - 2) (jnV c (s.2 (s.1 - 2)) (s.2 (s.1 - 1))))
def ruV (f : Nat → Int32) (wh : Int32) (s : SK) (l : List Nat) : SK := l.foldl (stV f wh) s
def vaF (f : Nat → Int32) (wh : Int32) (l : List Nat) : Int32 := (ruV f wh (0, fun _ => iI 0) l).2 0
/-- from height n to n', all well; T things -/
def okCd (T : Nat) : Nat → List Nat → Nat → Prop
  | n, [], n' => n = n'
  | n, c :: l, n' => if 8 ≤ c then (n < 32 ∧ (c = 8 ∨ 16 ≤ c ∧ c < 16 + T ∨ 32 ≤ c ∧ c < 10032)) ∧ okCd T (n + 1) l n' else if c = 0 then 1 ≤ n ∧ okCd T n l n' else 2 ≤ n ∧ okCd T (n - 1) l n'
theorem okCd_app {T : Nat} : ∀ {l r : List Nat} {n n1 n2 : Nat}, okCd T n l n1 → okCd T n1 r n2 → okCd T n (l ++ r) n2 := by
  intro l
  induction l with
  | nil => intro r n n1 n2 h k; have h : n = n1 := h; subst h; exact k
  | cons c l ih =>
    intro r n n1 n2 h k
    show okCd T n (c :: (l ++ r)) n2
    unfold okCd at h ⊢
    by_cases c8 : 8 ≤ c
    · rw [if_pos c8] at h ⊢; exact ⟨h.1, ih h.2 k⟩
    rw [if_neg c8] at h ⊢
    by_cases c0 : c = 0
    · rw [if_pos c0] at h ⊢; exact ⟨h.1, ih h.2 k⟩
    · rw [if_neg c0] at h ⊢; exact ⟨h.1, ih h.2 k⟩
theorem okCd_T {T T' : Nat} (hT : T ≤ T') : ∀ {l : List Nat} {n n1 : Nat}, okCd T n l n1 → okCd T' n l n1 := by
  intro l
  induction l with
  | nil => intro n n1 h; exact h
  | cons c l ih =>
    intro n n1 h
    unfold okCd at h ⊢
    by_cases c8 : 8 ≤ c
    · rw [if_pos c8] at h ⊢
      refine ⟨⟨h.1.1, ?_⟩, ih h.2⟩
      have := h.1.2
      omega
    rw [if_neg c8] at h ⊢
    by_cases c0 : c = 0
    · rw [if_pos c0] at h ⊢; exact ⟨h.1, ih h.2⟩
    · rw [if_neg c0] at h ⊢; exact ⟨h.1, ih h.2⟩
/-- a formula: one value more, D places wanted -/
def gcP (T : Nat) (s : Nat → PRs) (D : Nat) : Prop := ∀ k, (s k).1 = 0 → ∀ n, n + D ≤ 32 → okCd T n (s k).2.2 (n + 1)
theorem cdO_b (c : Nat) : 1 ≤ cdO c ∧ cdO c ≤ 7 := by unfold cdO; repeat (first | omega | split)
theorem okCd_op {T n c : Nat} (hn : 2 ≤ n) (h1 : 1 ≤ c) (h2 : c ≤ 7) : okCd T n [c] (n - 1) := by
  unfold okCd
  rw [if_neg (by omega), if_neg (by omega)]
  exact ⟨hn, rfl⟩
theorem lo_gc {t : PD} {T : Nat} {sub : Nat → PRs} {D : Nat} (hs : gcP T sub D) {lv : Nat} {N : Nat} (hN : N + (D + 1) ≤ 32) : ∀ n k l, okCd T N l (N + 1) → (loS t sub lv n k l).1 = 0 → okCd T N (loS t sub lv n k l).2.2 (N + 1) := by
  intro n
  induction n with
  | zero => intro k l h _; exact h
  | succ n ih =>
    intro k l h
    by_cases c : lvO (kdT t k) = lv
    · have e : loS t sub lv (n + 1) k l = bR (sub (k + 1)) (fun k' l' => loS t sub lv n k' (l ++ l' ++ [cdO (kdT t k)])) := if_pos c
      rw [e]
      by_cases z : (sub (k + 1)).1 = 0
      · rw [show bR (sub (k + 1)) (fun k' l' => loS t sub lv n k' (l ++ l' ++ [cdO (kdT t k)])) = loS t sub lv n (sub (k + 1)).2.1 (l ++ (sub (k + 1)).2.2 ++ [cdO (kdT t k)]) from if_pos z]
        refine ih _ _ ?_
        have h2 := hs (k + 1) z (N + 1) (by omega)
        have hb := cdO_b (kdT t k)
        exact okCd_app (okCd_app h h2) (okCd_op (n := N + 1 + 1) (by omega) hb.1 hb.2)
      · rw [bR_no z]; intro y; exact absurd y z
    · have e : loS t sub lv (n + 1) k l = (0, k, l) := if_neg c
      rw [e]
      intro _; exact h
theorem lv_gc {t : PD} {T : Nat} {sub : Nat → PRs} {D : Nat} (hs : gcP T sub D) (lv : Nat) : gcP T (lvS t sub lv) (D + 1) := by
  intro k
  by_cases z : (sub k).1 = 0
  · rw [show lvS t sub lv k = loS t sub lv (if lv = 1 then 1 else 1000) (sub k).2.1 (sub k).2.2 from if_pos z]
    intro h n hn
    exact lo_gc hs hn _ _ _ (hs k z n (by omega)) h
  · rw [show lvS t sub lv k = sub k from if_neg z]
    intro h; exact absurd h z
theorem ex_gc {t : PD} {T : Nat} {part : Nat → PRs} {D : Nat} (hp : gcP T part D) : ∀ n, gcP T (exS t part n) (D + n) := by
  intro n
  induction n with
  | zero => exact hp
  | succ n ih => exact lv_gc ih _
theorem pa_gc {t : PD} (ht : wfT t) {ns : List (List Nat)} {ic : Bool} : ∀ w, gcP ns.length (paS t ns ic w) (4 * w + 1) := by
  intro w
  induction w with
  | zero =>
    intro k h
    have h : foP t ns ic 0 k + 16 * plT t k = 0 := h
    have := fo_0 (t := t) (ns := ns) (ic := ic) (k := k)
    omega
  | succ w ih =>
    intro k
    by_cases c : foP t ns ic (w + 1) k = 0
    · by_cases c9 : kdT t k = 9
      · have e : paS t ns ic (w + 1) k = bR (paS t ns ic w (k + 1)) (fun k' l => (0, k', l ++ [0])) := (if_pos c).trans (if_pos c9)
        rw [e]
        by_cases z : (paS t ns ic w (k + 1)).1 = 0
        · rw [show bR (paS t ns ic w (k + 1)) (fun k' l => (0, k', l ++ [0])) = (0, (paS t ns ic w (k + 1)).2.1, (paS t ns ic w (k + 1)).2.2 ++ [0]) from if_pos z]
          intro _ n hn
          refine okCd_app (ih (k + 1) z n (by omega)) ?_
          unfold okCd
          rw [if_neg (by omega), if_pos rfl]
          exact ⟨by omega, rfl⟩
        · rw [bR_no z]; exact fun y => absurd y z
      · by_cases c40 : kdT t k = 40
        · have e : paS t ns ic (w + 1) k = bR (exS t (paS t ns ic w) 4 (k + 1)) (fun k' l => epS t 41 k' l) := (if_pos c).trans ((if_neg c9).trans (if_pos c40))
          rw [e]
          by_cases z : (exS t (paS t ns ic w) 4 (k + 1)).1 = 0
          · rw [show bR (exS t (paS t ns ic w) 4 (k + 1)) (fun k' l => epS t 41 k' l) = epS t 41 (exS t (paS t ns ic w) 4 (k + 1)).2.1 (exS t (paS t ns ic w) 4 (k + 1)).2.2 from if_pos z]
            unfold epS
            by_cases y : kdT t (exS t (paS t ns ic w) 4 (k + 1)).2.1 = 41
            · rw [if_pos y]
              intro _ n hn
              exact ex_gc ih 4 (k + 1) z n (by omega)
            · rw [if_neg y]
              intro x
              have x : 1 + 16 * plT t _ = 0 := x
              omega
          · rw [bR_no z]; exact fun y => absurd y z
        · have e : paS t ns ic (w + 1) k = (0, k + 1, [cdP t ns k]) := (if_pos c).trans ((if_neg c9).trans (if_neg c40))
          rw [e]
          intro _ n hn
          have hb : 8 ≤ cdP t ns k ∧ (cdP t ns k = 8 ∨ 16 ≤ cdP t ns k ∧ cdP t ns k < 16 + ns.length ∨ 32 ≤ cdP t ns k ∧ cdP t ns k < 10032) := by
            unfold cdP
            by_cases c2 : kdT t k = 2
            · have := vl_lt c2 ht
              rw [if_pos c2]; omega
            rw [if_neg c2]
            by_cases c3 : kdT t k = 3
            · rw [if_pos c3]
              have hi := idx_le ns (wdK t k)
              have hz : ¬ idxN ns (wdK t k) = ns.length := fun y => by
                unfold foP at c
                split at c
                · rw [if_pos ⟨c3, y⟩] at c; omega
                · omega
              omega
            · rw [if_neg c3]; omega
          show okCd ns.length n [cdP t ns k] (n + 1)
          unfold okCd
          rw [if_pos hb.1]
          exact ⟨⟨by omega, hb.2⟩, rfl⟩
    · have e : paS t ns ic (w + 1) k = faP t k (foP t ns ic (w + 1) k) := if_neg c
      rw [e]
      intro x
      have x : foP t ns ic (w + 1) k + 16 * plT t k = 0 := x
      omega
theorem fm_gc {t : PD} (ht : wfT t) {ns : List (List Nat)} {ic : Bool} {k : Nat} (h : (fmS t ns ic k).1 = 0) : okCd ns.length 0 (fmS t ns ic k).2.2 1 := ex_gc (pa_gc ht 5) 4 k h 0 (by omega)
/-- what was told is well formed -/
def fOk (x : XS) : Prop := (∀ l ∈ xsA x, okCd (xsN x).length 0 l 1) ∧ ∀ l, xsC x = some l → okCd (xsN x).length 0 l 1
theorem fOk_ln {t : PD} (ht : wfT t) {x : XS} (hx : fOk x) (h : (lnS t x).1 = 0) : fOk (lnS t x).2 := by
  have ep : ∀ k y y0, (epL t k y y0).1 = 0 → epL t k y y0 = (0, y) := fun k y y0 z => by
    unfold epL at z ⊢
    by_cases c : kdT t k = 59
    · rw [if_pos c]
    · rw [if_neg c] at z
      have z : 1 + 16 * plT t k = 0 := z
      omega
  have fa : ∀ k c y, 0 < c → ¬ (faL t k c y).1 = 0 := fun k c y hc z => by
    have z : c + 16 * plT t k = 0 := z
    omega
  have nu : ∀ k g f y, (nuL t k g f y).1 = 0 → nuL t k g f y = (0, f (vlK t (k + 1))) := fun k g f y z => by
    unfold nuL at z ⊢
    by_cases c2 : kdT t (k + 1) = 2
    · rw [if_pos c2] at z ⊢
      by_cases c3 : vlK t (k + 1) < 1 ∨ g < vlK t (k + 1)
      · rw [if_pos c3] at z; exact absurd z (fa _ _ _ (by omega))
      · rw [if_neg c3] at z ⊢; exact ep _ _ _ z
    · rw [if_neg c2] at z; exact absurd z (fa _ _ _ (by omega))
  unfold lnS at h ⊢
  by_cases c4 : kdT t (xsK x) = 4
  · rw [if_pos c4] at h ⊢
    unfold thL at h ⊢
    by_cases a1 : (xsN x).length < 6
    · rw [if_pos a1] at h ⊢
      by_cases a2 : kdT t (xsK x + 1) = 3
      · rw [if_pos a2] at h ⊢
        by_cases a3 : idxN (xsN x) (wdK t (xsK x + 1)) = (xsN x).length
        · rw [if_pos a3] at h ⊢
          rw [ep _ _ _ h]
          have hl : (xsN x).length ≤ (xsN x ++ [wdK t (xsK x + 1)]).length := by rw [List.length_append]; omega
          exact ⟨fun l hl2 => okCd_T hl (hx.1 l hl2), fun l hl2 => okCd_T hl (hx.2 l hl2)⟩
        · rw [if_neg a3] at h; exact absurd h (fa _ _ _ (by omega))
      · rw [if_neg a2] at h; exact absurd h (fa _ _ _ (by omega))
    · rw [if_neg a1] at h; exact absurd h (fa _ _ _ (by omega))
  rw [if_neg c4] at h ⊢
  by_cases c5 : kdT t (xsK x) = 5
  · rw [if_pos c5] at h ⊢
    unfold moL at h ⊢
    by_cases a1 : (xsM x).isSome = true
    · rw [if_pos a1] at h; exact absurd h (fa _ _ _ (by omega))
    · rw [if_neg a1] at h ⊢; rw [nu _ _ _ _ h]; exact hx
  rw [if_neg c5] at h ⊢
  by_cases c6 : kdT t (xsK x) = 6
  · rw [if_pos c6] at h ⊢
    unfold baL at h ⊢
    by_cases a1 : (xsB x).isSome = true
    · rw [if_pos a1] at h; exact absurd h (fa _ _ _ (by omega))
    · rw [if_neg a1] at h ⊢; rw [nu _ _ _ _ h]; exact hx
  rw [if_neg c6] at h ⊢
  by_cases c7 : kdT t (xsK x) = 7
  · rw [if_pos c7] at h ⊢
    unfold alL at h ⊢
    by_cases a1 : (xsA x).length < 4
    · rw [if_pos a1] at h ⊢
      by_cases a2 : (fmS t (xsN x) false (xsK x + 1)).1 = 0
      · rw [if_pos a2] at h ⊢
        rw [ep _ _ _ h]
        refine ⟨fun l hl => ?_, hx.2⟩
        have hl : l ∈ xsA x ++ [(fmS t (xsN x) false (xsK x + 1)).2.2] := hl
        rcases List.mem_append.mp hl with q | q
        · exact hx.1 l q
        · rw [List.mem_singleton.mp q]; exact fm_gc ht a2
      · rw [if_neg a2] at h; exact absurd h a2
    · rw [if_neg a1] at h; exact absurd h (fa _ _ _ (by omega))
  rw [if_neg c7] at h ⊢
  by_cases c8 : kdT t (xsK x) = 8
  · rw [if_pos c8] at h ⊢
    unfold coL at h ⊢
    by_cases a1 : (xsC x).isSome = true
    · rw [if_pos a1] at h; exact absurd h (fa _ _ _ (by omega))
    · rw [if_neg a1] at h ⊢
      by_cases a2 : (fmS t (xsN x) true (xsK x + 1)).1 = 0
      · rw [if_pos a2] at h ⊢
        rw [ep _ _ _ h]
        refine ⟨hx.1, fun l hl => ?_⟩
        have hl : some (fmS t (xsN x) true (xsK x + 1)).2.2 = some l := hl
        rw [← Option.some.inj hl]; exact fm_gc ht a2
      · rw [if_neg a2] at h; exact absurd h a2
  rw [if_neg c8] at h
  exact absurd h (fa _ _ _ (by omega))
theorem fOk_rd {t : PD} (ht : wfT t) : ∀ n x, fOk x → (rdS t n x).1 = 0 → fOk (rdS t n x).2 := by
  intro n
  induction n with
  | zero => intro x hx _; exact hx
  | succ n ih =>
    intro x hx
    by_cases h0 : kdT t (xsK x) = 0
    · rw [show rdS t (n + 1) x = (0, x) from if_pos h0]; exact fun _ => hx
    · have e0 : rdS t (n + 1) x = if (lnS t x).1 = 0 then rdS t n (lnS t x).2 else lnS t x := if_neg h0
      rw [e0]
      by_cases z : (lnS t x).1 = 0
      · rw [if_pos z]; exact ih _ (fOk_ln ht hx z)
      · rw [if_neg z]; exact fun y => absurd y z
theorem fOk_tw {t : PD} (ht : wfT t) (h : (twS t).1 = 0) : fOk (twS t).2 ∧ (mxS (twS t).2 + 1) ^ (xsN (twS t).2).length ≤ 16384 := by
  unfold twS at h ⊢
  by_cases z : (rdS t 1000 x0S).1 = 0
  · rw [if_pos z] at h ⊢
    by_cases y : 16384 < (mxS (rdS t 1000 x0S).2 + 1) ^ (xsN (rdS t 1000 x0S).2).length
    · rw [if_pos y] at h
      have h : 6 + 16 * plT t _ = 0 := h
      omega
    · rw [if_neg y]
      exact ⟨fOk_rd ht 1000 x0S ⟨fun l hl => (by cases hl), fun l hl => (by cases hl)⟩ z, by omega⟩
  · rw [if_neg z] at h; exact absurd h z
