/-! ===== trials that can't be together ===== -/
def ctB (b : BD) (l : List Nat) (t : Nat) : Nat := l.countP (fun k => (tS b k).testBit t)
def okU (b : BD) (n : Nat) (R N : List Nat) : Prop := R.length = n ∧ N.length = n ∧ (∀ k ∈ R, k < nT b ∧ tR b k = true) ∧ (∀ k ∈ N, k < nT b ∧ tR b k = false) ∧ ∀ t, t < 6 → ctB b R t ≤ ctB b N t
def srt (l : List Nat) : Prop := ∀ p a c q, l = p ++ a :: c :: q → a ≤ c
def fsT (b : BD) (k : Nat) : Prop := ∀ j, j < k → ¬ (tR b j = tR b k ∧ tS b j = tS b k)
/-- a row of numbers below 64 as one number -/
def cdL : List Nat → Nat
  | [] => 0
  | k :: l => k * 64 ^ l.length + cdL l
def Xm (b : BD) (n : Nat) (l : List Nat) : Prop := ∃ R N, l = R ++ N ∧ okU b n R N ∧ srt R ∧ srt N
def Xc (b : BD) (n : Nat) (l : List Nat) : Prop := ∃ R N, l = R ++ N ∧ okU b n R N ∧ srt R ∧ srt N ∧ ∀ k ∈ R ++ N, fsT b k
def isM (b : BD) (n : Nat) (l : List Nat) : Prop := ∃ R N, l = R ++ N ∧ okU b n R N ∧ ∀ R' N', okU b n R' N' → cdL l ≤ cdL (R' ++ N')
theorem cdL_lt {l : List Nat} (h : ∀ k ∈ l, k < 64) : cdL l < 64 ^ l.length := by
  induction l with
  | nil => exact Nat.one_pos
  | cons k l ih =>
    have h1 := ih fun j hj => h j (List.mem_cons_of_mem _ hj)
    have h2 := h k List.mem_cons_self
    show k * 64 ^ l.length + cdL l < 64 ^ (l.length + 1)
    rw [Nat.pow_succ]
    have : k * 64 ^ l.length ≤ 63 * 64 ^ l.length := Nat.mul_le_mul_right _ (by omega)
    omega
theorem cdL_app (p l : List Nat) : cdL (p ++ l) = cdL p * 64 ^ l.length + cdL l := by
  induction p with
  | nil => show cdL l = 0 * _ + cdL l; omega
  | cons k p ih =>
    show k * 64 ^ (p ++ l).length + cdL (p ++ l) = (k * 64 ^ p.length + cdL p) * 64 ^ l.length + cdL l
    rw [ih, List.length_append, Nat.pow_add, Nat.add_mul, Nat.mul_assoc]; omega
theorem cdL_inj : ∀ {l l' : List Nat}, l.length = l'.length → (∀ k ∈ l, k < 64) → (∀ k ∈ l', k < 64) → cdL l = cdL l' → l = l' := by
  intro l
  induction l with
  | nil => intro l' h _ _ _; cases l' with
    | nil => rfl
    | cons a r => cases h
  | cons k l ih =>
    intro l' h h1 h2 e
    cases l' with
    | nil => cases h
    | cons k' l' =>
      have hl : l.length = l'.length := Nat.succ.inj h
      have b1 := cdL_lt fun j hj => h1 j (List.mem_cons_of_mem _ hj)
      have b2 := cdL_lt fun j hj => h2 j (List.mem_cons_of_mem _ hj)
      have e : k * 64 ^ l.length + cdL l = k' * 64 ^ l'.length + cdL l' := e
      rw [← hl] at e b2
      have hk : k = k' := by
        rcases Nat.lt_trichotomy k k' with z | z | z
        · have : (k + 1) * 64 ^ l.length ≤ k' * 64 ^ l.length := Nat.mul_le_mul_right _ z
          rw [Nat.add_mul, Nat.one_mul] at this
          omega
        · exact z
        · have : (k' + 1) * 64 ^ l.length ≤ k * 64 ^ l.length := Nat.mul_le_mul_right _ z
          rw [Nat.add_mul, Nat.one_mul] at this
          omega
      subst hk
      rw [ih hl (fun j hj => h1 j (List.mem_cons_of_mem _ hj)) (fun j hj => h2 j (List.mem_cons_of_mem _ hj)) (by omega)]
theorem cdL_step {x y : Nat} {r s : List Nat} (h : x < y) (hl : r.length = s.length) (hr : ∀ k ∈ r, k < 64) : cdL (x :: r) < cdL (y :: s) := by
  have b1 := cdL_lt hr
  show x * 64 ^ r.length + cdL r < y * 64 ^ s.length + cdL s
  rw [← hl]
  have : (x + 1) * 64 ^ r.length ≤ y * 64 ^ r.length := Nat.mul_le_mul_right _ h
  rw [Nat.add_mul, Nat.one_mul] at this
  omega
theorem okU_lt {d : TD} {b : BD} (hb : wfB d b) {n : Nat} {R N : List Nat} (h : okU b n R N) : ∀ k ∈ R ++ N, k < 64 := fun k hk => by
  have := hb.1
  rcases List.mem_append.mp hk with z | z
  · have := (h.2.2.1 k z).1; omega
  · have := (h.2.2.2.1 k z).1; omega
theorem isM_u {d : TD} {b : BD} (hb : wfB d b) {n : Nat} {l l' : List Nat} (h : isM b n l) (h' : isM b n l') : l = l' := by
  obtain ⟨R, N, rfl, h1, h2⟩ := h
  obtain ⟨R', N', rfl, h3, h4⟩ := h'
  refine cdL_inj ?_ (okU_lt hb h1) (okU_lt hb h3) (Nat.le_antisymm (h2 R' N' h3) (h4 R N h1))
  rw [List.length_append, List.length_append, h1.1, h1.2.1, h3.1, h3.2.1]
theorem ex_M {b : BD} {n : Nat} {R N : List Nat} (h : okU b n R N) : ∃ l, isM b n l := by
  have key : ∀ c R N, cdL (R ++ N) = c → okU b n R N → ∃ l, isM b n l := by
    intro c
    induction c using Nat.strongRecOn with
    | ind c ih =>
      intro R N hc h
      by_cases z : ∃ R' N', okU b n R' N' ∧ cdL (R' ++ N') < c
      · obtain ⟨R', N', z1, z2⟩ := z
        exact ih _ z2 R' N' rfl z1
      · refine ⟨R ++ N, R, N, rfl, h, fun R' N' h' => ?_⟩
        apply Classical.byContradiction
        intro y
        exact z ⟨R', N', h', by omega⟩
  exact key _ R N rfl h
theorem ctB_perm {b : BD} {l l' : List Nat} (p : l.Perm l') (t : Nat) : ctB b l t = ctB b l' t := p.countP_eq _
theorem okU_perm {b : BD} {n : Nat} {R N R' N' : List Nat} (h : okU b n R N) (p : R.Perm R') (q : N.Perm N') : okU b n R' N' := ⟨by rw [← p.length_eq]; exact h.1, by rw [← q.length_eq]; exact h.2.1, fun k hk => h.2.2.1 k (p.mem_iff.mpr hk), fun k hk => h.2.2.2.1 k (q.mem_iff.mpr hk), fun t ht => by rw [← ctB_perm p, ← ctB_perm q]; exact h.2.2.2.2 t ht⟩
theorem cdL_swap {a c : Nat} (h : c < a) (p q : List Nat) : cdL (p ++ c :: a :: q) < cdL (p ++ a :: c :: q) := by
  rw [cdL_app, cdL_app]
  have e : (c :: a :: q).length = (a :: c :: q).length := rfl
  rw [e]
  have : cdL (c :: a :: q) < cdL (a :: c :: q) := by
    show c * 64 ^ (q.length + 1) + (a * 64 ^ q.length + cdL q) < a * 64 ^ (q.length + 1) + (c * 64 ^ q.length + cdL q)
    rw [Nat.pow_succ]
    have hp : 0 < 64 ^ q.length := Nat.pow_pos (by decide)
    obtain ⟨x, rfl⟩ : ∃ x, a = c + (x + 1) := ⟨a - c - 1, by omega⟩
    generalize 64 ^ q.length = u at hp
    have e1 : (c + (x + 1)) * (u * 64) = c * (u * 64) + (x + 1) * (u * 64) := Nat.add_mul _ _ _
    have e2 : (c + (x + 1)) * u = c * u + (x + 1) * u := Nat.add_mul _ _ _
    have e3 : (x + 1) * (u * 64) = 64 * ((x + 1) * u) := by rw [← Nat.mul_assoc, Nat.mul_comm]
    have e4 : 0 < (x + 1) * u := Nat.mul_pos (by omega) hp
    rw [e1, e2, e3]
    omega
  omega
theorem cdL_low {a c : Nat} (h : c < a) (p q : List Nat) : cdL (p ++ c :: q) < cdL (p ++ a :: q) := by
  rw [cdL_app, cdL_app]
  have e : (c :: q).length = (a :: q).length := rfl
  rw [e]
  have : cdL (c :: q) < cdL (a :: q) := by
    show c * 64 ^ q.length + cdL q < a * 64 ^ q.length + cdL q
    have : c * 64 ^ q.length < a * 64 ^ q.length := Nat.mul_lt_mul_of_pos_right h (Nat.pow_pos (by decide))
    omega
  omega
theorem ctB_set {b : BD} {p q : List Nat} {a c : Nat} (h : tS b a = tS b c) (t : Nat) : ctB b (p ++ c :: q) t = ctB b (p ++ a :: q) t := by
  unfold ctB
  rw [List.countP_append, List.countP_append, List.countP_cons, List.countP_cons, h]
theorem M_X {b : BD} {n : Nat} {l : List Nat} (h : isM b n l) : Xc b n l := by
  obtain ⟨R, N, rfl, h1, h2⟩ := h
  refine ⟨R, N, rfl, h1, fun p a c q e => ?_, fun p a c q e => ?_, fun k hk j hj z => ?_⟩
  · subst e
    apply Classical.byContradiction
    intro y
    have sw : (p ++ a :: c :: q).Perm (p ++ c :: a :: q) := (List.Perm.swap c a q).append_left p
    have := h2 _ _ (okU_perm h1 sw (List.Perm.refl N))
    have := cdL_swap (a := a) (c := c) (by omega) p (q ++ N)
    simp only [List.append_assoc, List.cons_append] at *
    omega
  · subst e
    apply Classical.byContradiction
    intro y
    have sw : (p ++ a :: c :: q).Perm (p ++ c :: a :: q) := (List.Perm.swap c a q).append_left p
    have := h2 _ _ (okU_perm h1 (List.Perm.refl R) sw)
    have := cdL_swap (a := a) (c := c) (by omega) (R ++ p) q
    simp only [List.append_assoc, List.cons_append] at *
    omega
  · rcases List.mem_append.mp hk with y | y
    · obtain ⟨p, q, rfl⟩ := List.append_of_mem y
      have hk1 := h1.2.2.1 k y
      have ok2 : okU b n (p ++ j :: q) N := ⟨by have := h1.1; rw [List.length_append, List.length_cons] at this ⊢; exact this, h1.2.1, fun x hx => by
          rcases List.mem_append.mp hx with w | w
          · exact h1.2.2.1 x (List.mem_append_left _ w)
          · rcases List.mem_cons.mp w with w | w
            · subst w; exact ⟨by omega, by rw [z.1]; exact hk1.2⟩
            · exact h1.2.2.1 x (List.mem_append_right _ (List.mem_cons_of_mem _ w)), h1.2.2.2.1, fun t ht => by rw [ctB_set z.2.symm]; exact h1.2.2.2.2 t ht⟩
      have := h2 _ _ ok2
      have := cdL_low hj p (q ++ N)
      simp only [List.append_assoc, List.cons_append] at *
      omega
    · obtain ⟨p, q, rfl⟩ := List.append_of_mem y
      have hk1 := h1.2.2.2.1 k y
      have ok2 : okU b n R (p ++ j :: q) := ⟨h1.1, by have := h1.2.1; rw [List.length_append, List.length_cons] at this ⊢; exact this, h1.2.2.1, fun x hx => by
          rcases List.mem_append.mp hx with w | w
          · exact h1.2.2.2.1 x (List.mem_append_left _ w)
          · rcases List.mem_cons.mp w with w | w
            · subst w; exact ⟨by omega, by rw [z.1]; exact hk1.2⟩
            · exact h1.2.2.2.1 x (List.mem_append_right _ (List.mem_cons_of_mem _ w)), fun t ht => by rw [ctB_set z.2.symm]; exact h1.2.2.2.2 t ht⟩
      have := h2 _ _ ok2
      have := cdL_low hj (R ++ p) q
      simp only [List.append_assoc, List.cons_append] at *
      omega
theorem Xc_m {b : BD} {n : Nat} {l : List Nat} (h : Xc b n l) : Xm b n l := by
  obtain ⟨R, N, e, h1, h2, h3, _⟩ := h
  exact ⟨R, N, e, h1, h2, h3⟩
/-- what is least among them is least among all -/
theorem X_M {b : BD} {n : Nat} {X : List Nat → Prop} (hX : ∀ l, X l → Xm b n l) (hc : ∀ l, Xc b n l → X l) {l : List Nat} (h : X l) (hl : ∀ l', X l' → cdL l ≤ cdL l') : isM b n l := by
  obtain ⟨R, N, rfl, h1, h2, h3⟩ := hX l h
  refine ⟨R, N, rfl, h1, fun R' N' h' => ?_⟩
  obtain ⟨k, hk⟩ := ex_M h'
  have h4 := hl k (hc k (M_X hk))
  obtain ⟨R2, N2, rfl, _, h5⟩ := hk
  exact Nat.le_trans h4 (h5 R' N' h')
theorem X_no {b : BD} {n : Nat} {X : List Nat → Prop} (hc : ∀ l, Xc b n l → X l) (h : ∀ l, ¬ X l) : ¬ ∃ R N, okU b n R N := fun ⟨R, N, z⟩ => by
  obtain ⟨k, hk⟩ := ex_M z
  exact h k (hc k (M_X hk))
/-- what a search behind some chosen numbers tells -/
def DF (X : List Nat → Prop) (p : List Nat) (o : Option (List Nat)) : Prop := (o = none → ∀ r, ¬ X (p ++ r)) ∧ ∀ r, o = some r → X (p ++ r) ∧ ∀ r', X (p ++ r') → cdL r ≤ cdL r'
theorem DF_hit {X : List Nat → Prop} {p : List Nat} {L x : Nat} {r : List Nat} (hX : ∀ l, X l → l.length = L ∧ ∀ k ∈ l, k < 64) (hp : p.length < L) (hno : ∀ y, y < x → ∀ s, ¬ X (p ++ y :: s)) (h : DF X (p ++ [x]) (some r)) : DF X p (some (x :: r)) := by
  obtain ⟨_, h2⟩ := h
  obtain ⟨h3, h4⟩ := h2 r rfl
  rw [List.append_assoc, List.singleton_append] at h3
  refine ⟨fun z => (by cases z), fun r' hr' => ?_⟩
  cases hr'
  refine ⟨h3, fun s hs => ?_⟩
  have l1 := (hX _ hs).1
  have l2 := (hX _ h3).1
  rw [List.length_append] at l1 l2
  cases s with
  | nil => simp only [List.length_nil] at l1; omega
  | cons y s =>
    rw [List.length_cons] at l1 l2
    rcases Nat.lt_trichotomy y x with z | z | z
    · exact absurd hs (hno y z s)
    · subst z
      have := h4 s (by rw [List.append_assoc, List.singleton_append]; exact hs)
      show y * 64 ^ r.length + cdL r ≤ y * 64 ^ s.length + cdL s
      rw [show r.length = s.length by omega]
      omega
    · exact Nat.le_of_lt (cdL_step z (by omega) (fun k hk => (hX _ h3).2 k (List.mem_append_right _ (List.mem_cons_of_mem _ hk))))
theorem DF_miss {X : List Nat → Prop} {p : List Nat} {x : Nat} (hno : ∀ y, y < x → ∀ s, ¬ X (p ++ y :: s)) (h : ∀ s, ¬ X (p ++ x :: s)) : ∀ y, y < x + 1 → ∀ s, ¬ X (p ++ y :: s) := fun y hy => by
  by_cases e : y = x
  · rw [e]; exact h
  · exact hno y (by omega)
/-! such pairs rule out all weights -/
theorem sum_ct (b : BD) (f : Nat → Nat) (l : List Nat) : sumL (fun k => wtS f (tS b k)) l = sumN 6 (fun t => f t * ctB b l t) := by
  induction l with
  | nil =>
    show 0 = sumN 6 (fun t => f t * 0)
    exact ((sumN_congr (g := fun _ => 0) fun t _ => Nat.mul_zero _).trans (by decide)).symm
  | cons k l ih =>
    show wtS f (tS b k) + sumL (fun k => wtS f (tS b k)) l = _
    rw [ih]
    unfold wtS
    rw [← sumN_add]
    apply sumN_congr
    intro t _
    unfold ctB
    rw [List.countP_cons]
    cases q : (tS b k).testBit t
    · simp
    · simp only [if_true]
      rw [Nat.mul_add, Nat.mul_one, Nat.add_comm]
theorem smF_ex {d : TD} {yes no : Int64} {n : Nat} (h : ∃ x, smF d yes no n = some x) : ∃ w, gdW d yes no w = true := by
  induction n with
  | zero => obtain ⟨x, hx⟩ := h; cases hx
  | succ n ih =>
    by_cases c : gdW d yes no n = true
    · exact ⟨n, c⟩
    · obtain ⟨x, hx⟩ := h
      have : smF d yes no (n + 1) = smF d yes no n := if_neg c
      exact ih ⟨x, by rw [← this]; exact hx⟩
theorem sumL_ge {f : Nat → Nat} {l : List Nat} {c : Nat} (h : ∀ k ∈ l, c ≤ f k) : l.length * c ≤ sumL f l := by
  induction l with
  | nil => rw [List.length_nil, Nat.zero_mul]; exact Nat.zero_le _
  | cons k l ih =>
    have h1 := ih fun j hj => h j (List.mem_cons_of_mem _ hj)
    have h2 := h k List.mem_cons_self
    show (l.length + 1) * c ≤ f k + sumL f l
    rw [Nat.add_mul, Nat.one_mul]; omega
theorem sumL_lec {f : Nat → Nat} {l : List Nat} {c : Nat} (h : ∀ k ∈ l, f k ≤ c) : sumL f l ≤ l.length * c := by
  induction l with
  | nil => exact Nat.zero_le _
  | cons k l ih =>
    have h1 := ih fun j hj => h j (List.mem_cons_of_mem _ hj)
    have h2 := h k List.mem_cons_self
    show f k + sumL f l ≤ (l.length + 1) * c
    rw [Nat.add_mul, Nat.one_mul]; omega
theorem ok_none {d : TD} {b : BD} (hd : wfD d) (hb : wfB d b) {n : Nat} (hn : 0 < n) {R N : List Nat} (h : okU b n R N) : smF d (must b) (mustN b) (dW d) = none := by
  cases q : smF d (must b) (mustN b) (dW d) with
  | none => rfl
  | some x =>
    exfalso
    obtain ⟨w, hw⟩ := smF_ex ⟨x, q⟩
    rw [gdW_iff hd] at hw
    obtain ⟨h1, h2, h3, h4, h5⟩ := h
    have hR : R.length * (bl d (mustN b) w + 1) ≤ sumL (fun k => wtS (dg d w) (tS b k)) R := sumL_ge fun k hk => by
      obtain ⟨y1, y2⟩ := h3 k hk
      refine hw (tS b k) (hb.2.2.2.1 k y1) ?_
      unfold must
      rw [bt_tol0 hb true (tS b k) (nT b) hb.1, anyN_iff]
      exact ⟨k, y1, by rw [decide_eq_true y2, decide_eq_true rfl]; rfl⟩
    have hNn : sumL (fun k => wtS (dg d w) (tS b k)) N ≤ N.length * bl d (mustN b) w := sumL_lec fun k hk => by
      obtain ⟨y1, y2⟩ := h4 k hk
      refine blN_ge (hb.2.2.2.1 k y1) ?_
      unfold mustN
      rw [bt_tol0 hb false (tS b k) (nT b) hb.1, anyN_iff]
      exact ⟨k, y1, by rw [decide_eq_true y2, decide_eq_true rfl]; rfl⟩
    have hle : sumL (fun k => wtS (dg d w) (tS b k)) R ≤ sumL (fun k => wtS (dg d w) (tS b k)) N := by
      rw [sum_ct, sum_ct]
      exact sumN_mono fun t ht => Nat.mul_le_mul_left _ (h5 t ht)
    rw [h1] at hR
    rw [h2] at hNn
    rw [Nat.mul_add, Nat.mul_one] at hR
    omega
/-! the answer -/
def cnG (n : Nat) (l : List Nat) (c : Int) : Int := if c = 0 then (n : Int) else if (c.toNat - 1) % 3 < n then (l.getD (if c.toNat - 1 < 3 then c.toNat - 1 else n + (c.toNat - 1 - 3)) 0 : Int) else -1
def cnR (b : BD) (c r : Int) : Prop := (∃ n l, 1 ≤ n ∧ n ≤ 3 ∧ isM b n l ∧ (∀ k, 1 ≤ k → k < n → ¬ ∃ R N, okU b k R N) ∧ r = cnG n l c) ∨ ((∀ k, 1 ≤ k → k ≤ 3 → ¬ ∃ R N, okU b k R N) ∧ r = -1)
theorem cnR_u {d : TD} {b : BD} (hb : wfB d b) {c r r' : Int} (h : cnR b c r) (h' : cnR b c r') : r = r' := by
  have ex : ∀ {n l}, isM b n l → ∃ R N, okU b n R N := fun ⟨R, N, _, h, _⟩ => ⟨R, N, h⟩
  rcases h with ⟨n, l, a1, a2, a3, a4, a5⟩ | ⟨a1, a2⟩
  · rcases h' with ⟨n', l', c1, c2, c3, c4, c5⟩ | ⟨c1, c2⟩
    · have e : n = n' := by
        rcases Nat.lt_trichotomy n n' with z | z | z
        · exact absurd (ex a3) (c4 n a1 z)
        · exact z
        · exact absurd (ex c3) (a4 n' c1 z)
      subst e
      rw [a5, c5, isM_u hb a3 c3]
    · exact absurd (ex a3) (c1 n a1 a2)
  · rcases h' with ⟨n', l', c1, c2, c3, c4, c5⟩ | ⟨c1, c2⟩
    · exact absurd (ex c3) (a1 n' c1 c2)
    · rw [a2, c2]
