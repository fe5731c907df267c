/-! ===== trials that can't be together: the reference ===== -/
/-- numbers below 16 side by side -/
def nbS : Nat → (Nat → Nat) → Nat
  | 0, _ => 0
  | n + 1, f => f 0 + 16 * nbS n (fun t => f (t + 1))
theorem nb_lt {n : Nat} : ∀ {f : Nat → Nat}, (∀ t, t < n → f t < 16) → nbS n f < 16 ^ n := by
  induction n with
  | zero => intro f _; exact Nat.one_pos
  | succ n ih =>
    intro f h
    have h1 := ih (f := fun t => f (t + 1)) (fun t ht => h (t + 1) (by omega))
    have h2 := h 0 (by omega)
    show f 0 + 16 * nbS n (fun t => f (t + 1)) < 16 ^ (n + 1)
    rw [Nat.pow_succ]; omega
theorem nb_s {n : Nat} : ∀ (f : Nat → Nat), nbS (n + 1) f = nbS n f + f n * 16 ^ n := by
  induction n with
  | zero => intro f; show f 0 + 16 * 0 = 0 + f 0 * 1; omega
  | succ n ih =>
    intro f
    show f 0 + 16 * nbS (n + 1) (fun t => f (t + 1)) = (f 0 + 16 * nbS n (fun t => f (t + 1))) + f (n + 1) * 16 ^ (n + 1)
    rw [ih, Nat.pow_succ, Nat.mul_add, ← Nat.mul_assoc (f (n + 1)), Nat.mul_comm (f (n + 1) * 16 ^ n) 16]
    omega
theorem nb_c {n : Nat} : ∀ {f g : Nat → Nat}, (∀ t, t < n → f t = g t) → nbS n f = nbS n g := by
  induction n with
  | zero => intro f g _; rfl
  | succ n ih =>
    intro f g h
    show f 0 + 16 * nbS n (fun t => f (t + 1)) = g 0 + 16 * nbS n (fun t => g (t + 1))
    rw [h 0 (by omega), ih (fun t ht => h (t + 1) (by omega))]
theorem nb_add {n : Nat} : ∀ (f g : Nat → Nat), nbS n f + nbS n g = nbS n (fun t => f t + g t) := by
  induction n with
  | zero => intro f g; rfl
  | succ n ih =>
    intro f g
    have := ih (fun t => f (t + 1)) (fun t => g (t + 1))
    show (f 0 + 16 * nbS n (fun t => f (t + 1))) + (g 0 + 16 * nbS n (fun t => g (t + 1))) = (f 0 + g 0) + 16 * nbS n (fun t => f (t + 1) + g (t + 1))
    omega
theorem nb_sub {n : Nat} : ∀ {f g : Nat → Nat}, (∀ t, t < n → g t ≤ f t) → nbS n f = nbS n g + nbS n (fun t => f t - g t) := by
  intro f g h
  rw [nb_add]
  exact nb_c fun t ht => by have := h t ht; omega
theorem nop_s {op : Nat → Nat → Nat} (h1 : ∀ a b, op a b % 2 ^ 4 = op (a % 2 ^ 4) (b % 2 ^ 4)) (h2 : ∀ a b, op a b / 2 ^ 4 = op (a / 2 ^ 4) (b / 2 ^ 4)) {a c x w : Nat} (ha : a < 16) (hc : c < 16) : op (a + 16 * x) (c + 16 * w) = op a c + 16 * op x w := by
  have e1 := h1 (a + 16 * x) (c + 16 * w)
  have e2 := h2 (a + 16 * x) (c + 16 * w)
  rw [show (a + 16 * x) % 2 ^ 4 = a by omega, show (c + 16 * w) % 2 ^ 4 = c by omega] at e1
  rw [show (a + 16 * x) / 2 ^ 4 = x by omega, show (c + 16 * w) / 2 ^ 4 = w by omega] at e2
  omega
theorem nb_or {n : Nat} : ∀ {f g : Nat → Nat}, (∀ t, t < n → f t < 16) → (∀ t, t < n → g t < 16) → nbS n f ||| nbS n g = nbS n (fun t => f t ||| g t) := by
  induction n with
  | zero => intro f g _ _; exact Nat.or_zero 0
  | succ n ih =>
    intro f g h1 h2
    show (f 0 + 16 * nbS n (fun t => f (t + 1))) ||| (g 0 + 16 * nbS n (fun t => g (t + 1))) = (f 0 ||| g 0) + 16 * nbS n (fun t => f (t + 1) ||| g (t + 1))
    rw [nop_s (op := fun a b => a ||| b) (fun a b => Nat.or_mod_two_pow) (fun a b => Nat.or_div_two_pow) (h1 0 (by omega)) (h2 0 (by omega)), ih (fun t ht => h1 (t + 1) (by omega)) (fun t ht => h2 (t + 1) (by omega))]
theorem nb_and {n : Nat} : ∀ {f g : Nat → Nat}, (∀ t, t < n → f t < 16) → (∀ t, t < n → g t < 16) → nbS n f &&& nbS n g = nbS n (fun t => f t &&& g t) := by
  induction n with
  | zero => intro f g _ _; exact Nat.and_zero 0
  | succ n ih =>
    intro f g h1 h2
    show (f 0 + 16 * nbS n (fun t => f (t + 1))) &&& (g 0 + 16 * nbS n (fun t => g (t + 1))) = (f 0 &&& g 0) + 16 * nbS n (fun t => f (t + 1) &&& g (t + 1))
    rw [nop_s (op := fun a b => a &&& b) (fun a b => Nat.and_mod_two_pow) (fun a b => Nat.and_div_two_pow) (h1 0 (by omega)) (h2 0 (by omega)), ih (fun t ht => h1 (t + 1) (by omega)) (fun t ht => h2 (t + 1) (by omega))]
theorem nb_inj {n : Nat} : ∀ {f g : Nat → Nat}, (∀ t, t < n → f t < 16) → (∀ t, t < n → g t < 16) → nbS n f = nbS n g → ∀ t, t < n → f t = g t := by
  induction n with
  | zero => intro f g _ _ _ t ht; omega
  | succ n ih =>
    intro f g h1 h2 e t ht
    have e : f 0 + 16 * nbS n (fun t => f (t + 1)) = g 0 + 16 * nbS n (fun t => g (t + 1)) := e
    have a1 := h1 0 (by omega)
    have a2 := h2 0 (by omega)
    cases t with
    | zero => omega
    | succ t => exact ih (f := fun t => f (t + 1)) (g := fun t => g (t + 1)) (fun t ht => h1 (t + 1) (by omega)) (fun t ht => h2 (t + 1) (by omega)) (by omega) t (by omega)
theorem nb_8 : nbS 6 (fun _ => 8) = 8947848 := by decide
theorem or8 : ∀ x : Fin 8, x.val ||| 8 = x.val + 8 := by decide
theorem an8 : ∀ x : Fin 16, x.val &&& 8 = if 8 ≤ x.val then 8 else 0 := by decide
theorem nb_test {f g : Nat → Nat} (hf : ∀ t, f t ≤ 3) (hg : ∀ t, g t ≤ 3) : ((iI (nbS 6 g : Int) ||| iI 8947848) - iI (nbS 6 f : Int)) &&& iI 8947848 = iI 8947848 ↔ ∀ t, t < 6 → f t ≤ g t := by
  have e1 : iI (nbS 6 g : Int) ||| iI 8947848 = iI (nbS 6 (fun t => g t + 8) : Int) := by
    rw [show iI 8947848 = iI ((8947848 : Nat) : Int) from rfl, iI_or, ← nb_8, nb_or (fun t _ => by have := hg t; omega) (fun t _ => by omega)]
    congr 2
    exact nb_c fun t _ => or8 ⟨g t, by have := hg t; omega⟩
  have e2 : nbS 6 (fun t => g t + 8) = nbS 6 f + nbS 6 (fun t => g t + 8 - f t) := nb_sub fun t _ => by have := hf t; omega
  have e3 : iI (nbS 6 (fun t => g t + 8) : Int) - iI (nbS 6 f : Int) = iI (nbS 6 (fun t => g t + 8 - f t) : Int) := by
    rw [iI_sub, e2]
    congr 1
    omega
  have e4 : iI (nbS 6 (fun t => g t + 8 - f t) : Int) &&& iI 8947848 = iI (nbS 6 (fun t => if 8 ≤ g t + 8 - f t then 8 else 0) : Int) := by
    rw [show iI 8947848 = iI ((8947848 : Nat) : Int) from rfl, iI_and, ← nb_8, nb_and (fun t _ => by have := hg t; omega) (fun t _ => by omega)]
    congr 2
    exact nb_c fun t _ => an8 ⟨g t + 8 - f t, by have := hg t; omega⟩
  rw [e1, e3, e4]
  have l1 : nbS 6 (fun t => if 8 ≤ g t + 8 - f t then 8 else 0) < 16 ^ 6 := nb_lt fun t _ => by
    show (if 8 ≤ g t + 8 - f t then 8 else 0) < 16
    split <;> omega
  rw [iI_eq (by omega) (by omega) (by omega) (by omega)]
  constructor
  · intro h t ht
    have h : nbS 6 (fun t => if 8 ≤ g t + 8 - f t then 8 else 0) = nbS 6 (fun _ => 8) := by rw [nb_8]; omega
    have := nb_inj (fun t _ => by
      show (if 8 ≤ g t + 8 - f t then 8 else 0) < 16
      split <;> omega) (fun t _ => by omega) h t ht
    have this : (if 8 ≤ g t + 8 - f t then 8 else 0) = 8 := this
    by_cases c : 8 ≤ g t + 8 - f t
    · have := hf t; omega
    · rw [if_neg c] at this; omega
  · intro h
    rw [show (8947848 : Int) = ((nbS 6 (fun _ => 8) : Nat) : Int) by rw [nb_8]; rfl]
    congr 1
    exact nb_c fun t ht => if_pos (by have := h t ht; omega)
def btF (s : Nat) (t : Nat) : Nat := if s.testBit t = true then 1 else 0
theorem btF_lt (s t : Nat) : btF s t < 16 := by unfold btF; split <;> omega
theorem q_Md_spread {s : Nat} (hs : s < 64) (σ : AM) : M_Md_spread (iI (s : Int)) σ = some (iI (nbS 6 (btF s) : Int), σ) := by
  unfold M_Md_spread
  have lp : L_Md_spread_1 (iI (s : Int)) (iI ((nbS 0 (btF s) : Nat) : Int)) (iI ((0 : Nat) : Int)) σ = some (iI (nbS 6 (btF s) : Int), σ) := by
    refine up_loop (fun k => L_Md_spread_1 (iI (s : Int)) (iI ((nbS k (btF s) : Nat) : Int)) (iI (k : Int)) σ) 6 _ (fun k hk ih => ?_) ?_ 0 (Nat.zero_le _)
    · have hb := bitI hs hk
      have h4 : (4 : Int) * (k : Int) = ((4 * k : Nat) : Int) := by omega
      have hsh := shl_bit (s.testBit k) (i := 4 * k) (by omega)
      have hl : nbS k (btF s) < 2 ^ (4 * k) := by rw [Nat.pow_mul]; exact nb_lt fun t _ => btF_lt s t
      have ho := or_new hl (s.testBit k)
      have en : nbS (k + 1) (btF s) = nbS k (btF s) + if s.testBit k = true then 2 ^ (4 * k) else 0 := by
        rw [nb_s, Nat.pow_mul]
        unfold btF
        cases s.testBit k
        · simp
        · simp
      rw [en, ← ho] at ih
      show L_Md_spread_1 _ _ _ _ = _
      rw [E_Md_spread_1]
      simp (disch := omega) only [l_0, l_1, l_4, l_6, l_31, iI_lt, hb, iI_mul, h4, hsh, iI_or, letT_eq, iI_add, iI_s]
      rw [if_pos (by omega)]
      exact ih
    · show L_Md_spread_1 _ _ _ _ = _
      rw [E_Md_spread_1]
      simp (disch := omega) only [l_6, iI_lt]
      rw [if_neg (by omega)]
  replace lp : L_Md_spread_1 (iI (s : Int)) (iI 0) (iI 0) σ = _ := lp
  rw [E_Md_spread_0]
  simp only [l_0, lp]
  exact mw_of (Nat.le_refl _) (Nat.le_refl _)
/-! the search -/
def chM (n : Nat) (p : List Nat) (m : VM) : Prop := ∀ i, i < p.length → m.1 33 (if i < n then i else 3 + (i - n)) = iI (p.getD i 0 : Int)
theorem chM_app {n : Nat} {p : List Nat} {m : VM} {x : Nat} (h : chM n p m) (hn : n ≤ 3) : chM n (p ++ [x]) (sV m 33 (if p.length < n then p.length else 3 + (p.length - n)) (iI (x : Int))) := by
  intro i hi
  rw [List.length_append, List.length_singleton] at hi
  rw [sV_eq]
  by_cases e : i = p.length
  · subst e; rw [if_pos rfl, getD_app2]
  · rw [if_neg, getD_app1 _ _ _ (by omega)]
    · exact h i (by omega)
    · by_cases c1 : i < n
      · rw [if_pos c1]
        by_cases c2 : p.length < n
        · rw [if_pos c2]; omega
        · rw [if_neg c2]; omega
      · rw [if_neg c1, if_neg (by omega)]; omega
theorem chM_pre {n : Nat} {p s : List Nat} {m : VM} (h : chM n (p ++ s) m) : chM n p m := fun i hi => by
  have := h i (by rw [List.length_append]; omega)
  rw [this]
  congr 2
  rw [List.getD_eq_getElem?_getD, List.getD_eq_getElem?_getD, List.getElem?_append_left hi]
theorem Xm_len {d : TD} {b : BD} (hb : wfB d b) {n : Nat} : ∀ l, Xm b n l → l.length = 2 * n ∧ ∀ k ∈ l, k < 64 := fun l ⟨R, N, e, h, _⟩ => by
  subst e
  refine ⟨by rw [List.length_append, h.1, h.2.1]; omega, okU_lt hb h⟩
theorem Xm_cut {b : BD} {n : Nat} {R s : List Nat} (hR : R.length = n) (h : Xm b n (R ++ s)) : okU b n R s ∧ srt R ∧ srt s := by
  obtain ⟨R', N', e, h1, h2, h3⟩ := h
  obtain ⟨rfl, rfl⟩ := List.append_inj e (by rw [hR, h1.1])
  exact ⟨h1, h2, h3⟩
theorem MB_S {b : BD} {m m' : VM} (h : MB b m) (k : OnS 33 m m') : MB b m' := by
  unfold MB
  rw [k.1 0 (by decide), k.1 21 (by decide), k.1 22 (by decide), k.1 23 (by decide), k.1 24 (by decide)]
  exact h
theorem KM_S33 {m m' : VM} (k : OnS 33 m m') : KM m m' := ⟨fun j _ => by rw [k.1 0 (by decide)], fun c hc => k.1 c (fun z => by subst z; revert hc; decide), fun c _ => by rw [k.2]⟩
def msP (b : BD) (A : Nat → Nat) (σ : AM) (n : Nat) (p : List Nat) (m : VM) (X : Option (Int32 × AM)) : Prop := ∃ (m' : VM) (o : Option (List Nat)), X = some (bZ o.isSome, (ov 40 A (m') σ)) ∧ OnS 33 m m' ∧ DF (Xm b n) p o ∧ (o = none → chM n p m') ∧ ∀ r, o = some r → chM n (p ++ r) m'
/-- the next trial to take must ring, or not -/
theorem Xm_next {b : BD} {n : Nat} {R N s : List Nat} {x : Nat} (hR : R.length ≤ n) (hN : N = [] ∨ R.length = n) (h : Xm b n (R ++ N ++ x :: s)) : x < nT b ∧ tR b x = decide (R.length < n) ∧ lst0 (if R.length < n then R else N) ≤ x := by
  by_cases c : R.length < n
  · obtain rfl : N = [] := by rcases hN with z | z; exact z; omega
    rw [List.append_nil] at h
    obtain ⟨R', N', e, h1, h2, h3⟩ := h
    have hRN : R' = R ++ x :: s.take (n - R.length - 1) := by
      have e2 : R' ++ N' = (R ++ x :: s.take (n - R.length - 1)) ++ s.drop (n - R.length - 1) := by
        rw [← e, List.append_assoc, List.cons_append, List.take_append_drop]
      refine (List.append_inj e2 ?_).1
      have hl := congrArg List.length e
      rw [List.length_append, List.length_append, List.length_cons, h1.1, h1.2.1] at hl
      rw [h1.1, List.length_append, List.length_cons, List.length_take]
      omega
    have hx : x ∈ R' := by rw [hRN]; exact List.mem_append_right _ List.mem_cons_self
    have y1 := h1.2.2.1 x hx
    rw [decide_eq_true c, if_pos c]
    exact ⟨y1.1, y1.2, srt_1 (srt_pre (s := s.take (n - R.length - 1)) (by rw [List.append_assoc, List.singleton_append, ← hRN]; exact h2))⟩
  · rw [List.append_assoc] at h
    obtain ⟨h1, h2, h3⟩ := Xm_cut (show R.length = n by omega) h
    have hx : x ∈ N ++ x :: s := List.mem_append_right _ List.mem_cons_self
    have y1 := h1.2.2.2.1 x hx
    rw [decide_eq_false c, if_neg c]
    exact ⟨y1.1, y1.2, srt_1 (srt_pre (s := s) (by rw [List.append_assoc, List.singleton_append]; exact h3))⟩
def mpI (b : BD) (n : Nat) (R N : List Nat) : Prop := R.length ≤ n ∧ N.length ≤ n ∧ (N = [] ∨ R.length = n) ∧ (∀ k ∈ R, k < nT b ∧ tR b k = true) ∧ (∀ k ∈ N, k < nT b ∧ tR b k = false) ∧ srt R ∧ srt N
theorem nb_up {b : BD} {p : List Nat} {x : Nat} : iI (nbS 6 (ctB b p) : Int) + iI (nbS 6 (btF (tS b x)) : Int) = iI (nbS 6 (ctB b (p ++ [x])) : Int) := by
  rw [iI_add]
  congr 1
  rw [← Int.natCast_add, nb_add]
  congr 1
  exact nb_c fun t _ => by rw [ctB_app, ctB_1]; rfl
theorem nb_ctl {b : BD} {p : List Nat} (h : p.length ≤ 3) : nbS 6 (ctB b p) < 16 ^ 6 := nb_lt fun t _ => by have := ctB_le b p t; omega
theorem getD_app3 {α : Type} (l r : List α) (e : α) (i : Nat) : (l ++ r).getD (l.length + i) e = r.getD i e := by
  rw [List.getD_eq_getElem?_getD, List.getElem?_append_right (by omega), Nat.add_sub_cancel_left, List.getD_eq_getElem?_getD]
theorem Md_pairs {d : TD} {b : BD} {A : Nat → Nat} {σ : AM} (H : LM A σ) (hb : wfB d b) {n : Nat} (hn : n ≤ 3) (hn1 : 1 ≤ n) : ∀ (opn f : Nat) (R N : List Nat) (m : VM), opn < f → R.length + N.length + opn = 2 * n → mpI b n R N → MB b m → chM n (R ++ N) m → msP b A σ n (R ++ N) m (Q_Md_pairs f (A 0) (iI (n : Int)) (iI ((R.length + N.length : Nat) : Int)) (iI (nbS 6 (ctB b R) : Int)) (iI (nbS 6 (ctB b N) : Int)) (ov 40 A m σ)) := by
  have hnT := hb.1
  intro opn
  induction opn with
  | zero =>
    intro f R N m hf hl hI hB hC
    obtain ⟨f, rfl⟩ : ∃ g, f = g + 1 := ⟨f - 1, by omega⟩
    obtain ⟨a1, a2, a3, a4, a5, a6, a7⟩ := hI
    have lR : R.length = n := by omega
    have lN : N.length = n := by omega
    have ht := nb_test (f := ctB b R) (g := ctB b N) (fun t => by have := ctB_le b R t; omega) (fun t => by have := ctB_le b N t; omega)
    have e2 : iI 2 * iI (n : Int) = iI ((R.length + N.length : Nat) : Int) := by rw [iI_mul]; congr 1; omega
    by_cases c : ∀ t, t < 6 → ctB b R t ≤ ctB b N t
    · have c1 := ht.mpr c
      refine ⟨m, some [], ?_, OnS_r _ _, ⟨fun z => (by cases z), fun r hr => ?_⟩, fun z => (by cases z), fun r hr => by cases hr; rw [List.append_nil]; exact hC⟩
      · show mw _ (L_Md_pairs_0 _ _ _ _ _ _ _) = _
        rw [E_Md_pairs_0]
        simp only [E_Md_pairs_1, l_2, l_8947848, l_1, e2, c1, if_true, isB_1, gd_true]
        exact mw_ov _ _ _ _ _ _
      · cases hr
        refine ⟨?_, fun r' _ => Nat.zero_le _⟩
        rw [List.append_nil]
        exact ⟨R, N, rfl, ⟨lR, lN, a4, a5, c⟩, a6, a7⟩
    · have c1 := fun z => c (ht.mp z)
      refine ⟨m, none, ?_, OnS_r _ _, ⟨fun _ r hX => ?_, fun r hr => (by cases hr)⟩, fun _ => hC, fun r hr => (by cases hr)⟩
      · show mw _ (L_Md_pairs_0 _ _ _ _ _ _ _) = _
        rw [E_Md_pairs_0]
        simp only [E_Md_pairs_1, l_2, l_8947848, l_0, e2, if_true, isB_0, gd_true]
        rw [if_neg c1]
        exact mw_ov _ _ _ _ _ _
      · rw [List.append_assoc] at hX
        obtain ⟨h1, _, _⟩ := Xm_cut lR hX
        have := h1.2.1
        rw [List.length_append, lN] at this
        have hr : r = [] := List.eq_nil_of_length_eq_zero (by omega)
        rw [hr, List.append_nil] at h1
        exact c h1.2.2.2.2
  | succ opn ih =>
    intro f R N m hf hl hI hB hC
    obtain ⟨f, rfl⟩ : ∃ g, f = g + 1 := ⟨f - 1, by omega⟩
    obtain ⟨a1, a2, a3, a4, a5, a6, a7⟩ := hI
    have hlp : (R ++ N).length = R.length + N.length := List.length_append
    have hl2 : (R ++ N).length < 2 * n := by omega
    generalize hv3 : nbS 6 (ctB b R) = v3
    generalize hv4 : nbS 6 (ctB b N) = v4
    -- one step of the loop that takes trial i
    have lp : ∀ k i mm, i + k = nT b → lst0 (if R.length < n then R else N) ≤ i → OnS 33 m mm → chM n (R ++ N) mm → (∀ y, y < i → ∀ s, ¬ Xm b n (R ++ N ++ y :: s)) → msP b A σ n (R ++ N) m (L_Md_pairs_6 (Q_Md_pairs f) (A 0) (iI (n : Int)) (iI ((R.length + N.length : Nat) : Int)) (iI (v3 : Int)) (iI (v4 : Int)) (bZ (decide (R.length < n))) (iI (i : Int)) (ov 40 A mm σ)) := by
      intro k
      induction k with
      | zero =>
        intro i mm hi hlo i1 i2 i3
        have hBm := MB_S hB i1
        refine ⟨mm, none, ?_, i1, ⟨fun _ r hX => ?_, fun r hr => (by cases hr)⟩, fun _ => i2, fun r hr => (by cases hr)⟩
        · rw [E_Md_pairs_6]
          simp (disch := omega) only [mK_0 H, okO_ov, gd_true, aI_ov H.1, hBm.1.1, l_0, iI_lt]
          rw [if_neg (by omega)]
          rfl
        · have hl := (Xm_len hb _ hX).1
          rw [List.length_append] at hl
          cases r with
          | nil => rw [List.length_nil] at hl; omega
          | cons x s =>
            have := (Xm_next a1 a3 hX).1
            exact i3 x (by omega) s hX
      | succ k ihk =>
        intro i mm hi hlo i1 i2 i3
        have hBm := MB_S hB i1
        have hiT : i < nT b := by omega
        have e21 := hBm.2.1 i (by omega)
        have e22 := hBm.2.2.1 i (by omega)
        have hs := hb.2.2.1 i (by omega)
        by_cases q : tR b i = decide (R.length < n)
        · -- taken
          have hC2 := chM_app (x := i) i2 hn
          have i1' : ∀ p, OnS 33 m (sV mm 33 p (iI (i : Int))) := fun p => ⟨fun a ha => by rw [sV_ne _ _ _ _ ha]; exact i1.1 a ha, i1.2⟩
          have fin : ∀ (R' N' : List Nat) (p : Nat), p = (if (R ++ N).length < n then (R ++ N).length else 3 + ((R ++ N).length - n)) → R' ++ N' = R ++ N ++ [i] → R'.length + N'.length = R.length + N.length + 1 → mpI b n R' N' → msP b A σ n (R ++ N) m (bnd (Q_Md_pairs f (A 0) (iI (n : Int)) (iI ((R'.length + N'.length : Nat) : Int)) (iI (nbS 6 (ctB b R') : Int)) (iI (nbS 6 (ctB b N') : Int)) (ov 40 A (sV mm 33 p (iI (i : Int))) σ)) fun r1 σ2 => if r1 = iI 0 then L_Md_pairs_6 (Q_Md_pairs f) (A 0) (iI (n : Int)) (iI ((R.length + N.length : Nat) : Int)) (iI (v3 : Int)) (iI (v4 : Int)) (bZ (decide (R.length < n))) (iI ((i + 1 : Nat) : Int)) σ2 else some (iI 1, σ2)) := by
            intro R' N' p hp e1 e2 hI'
            subst hp
            obtain ⟨m2, o2, e3, k2, d2, c2, c3⟩ := ih f R' N' _ (by omega) (by omega) hI' (MB_S hB (i1' _)) (by rw [e1]; exact hC2)
            rw [e1] at d2 c2 c3
            cases ho2 : o2 with
            | none =>
              rw [ho2] at e3 d2
              replace e3 : Q_Md_pairs f _ _ _ _ _ _ = some (bZ false, _) := e3
              have no : ∀ s, ¬ Xm b n (R ++ N ++ i :: s) := fun s hX => d2.1 rfl s (by rw [List.append_assoc (R ++ N), List.singleton_append]; exact hX)
              have ihk := ihk (i + 1) m2 (by omega) (by omega) (OnS_t (i1' _) k2) (chM_pre (c2 ho2)) (DF_miss i3 no)
              rw [e3, bnd_some, if_pos (show bZ false = iI 0 from rfl)]
              exact ihk
            | some r =>
              rw [ho2] at e3 d2
              replace e3 : Q_Md_pairs f _ _ _ _ _ _ = some (bZ true, _) := e3
              refine ⟨m2, some (i :: r), ?_, OnS_t (i1' _) k2, DF_hit (Xm_len hb) (by omega) i3 d2, fun z => (by cases z), fun r' hr' => by cases hr'; have := c3 r ho2; rw [List.append_assoc (R ++ N), List.singleton_append] at this; exact this⟩
              rw [e3, bnd_some, if_neg (show ¬ bZ true = iI 0 by decide)]
              rfl
          have hsp := fun σ => q_Md_spread hs σ
          by_cases c : R.length < n
          · have hN : N = [] := by rcases a3 with z | z; exact z; omega
            rw [if_pos c] at hlo
            rw [decide_eq_true c] at fin q ⊢
            have fin := fin (R ++ [i]) N (R.length + N.length) (by rw [hlp, hN, List.length_nil, if_pos (by omega)]) (by rw [hN]; simp) (by rw [List.length_append, List.length_singleton]; omega) ⟨by rw [List.length_append, List.length_singleton]; omega, a2, Or.inl hN, fun k hk => (List.mem_append.mp hk).elim (fun z => a4 k z) (fun z => by rw [List.mem_singleton.mp z]; exact ⟨hiT, q⟩), a5, srt_a a6 hlo, a7⟩
            rw [show (R ++ [i]).length + N.length = R.length + N.length + 1 by rw [List.length_append, List.length_singleton]; omega, ← nb_up, hv3, hv4, iI_add] at fin
            rw [q] at e22
            rw [E_Md_pairs_6]
            simp (disch := omega) only [E_Md_pairs_7, E_Md_pairs_8, E_Md_pairs_9, E_Md_pairs_10, mK_0 H, mR_39 H, mK_22 H, mN_22 H, mR_38 H, mK_21 H, mN_21 H, mR_63 H, mK_33 H, mN_33 H, okO_ov, aR_ov, aN_ov, gd_true, gd_in, iI_cl, Int.toNat_natCast, aI_ov H.1, sI_ov H.1, letT_eq, hBm.1.1, e21, e22, sV_ne, hsp, bnd_some, bZ_0, l_0, l_1, l_3, iI_lt, iI_add, iI_s, reduceCtorEq, ↓reduceIte]
            rw [if_pos (by omega)]
            exact fin
          · have lR : R.length = n := by omega
            have hlN : N.length < n := by omega
            rw [if_neg c] at hlo
            rw [decide_eq_false c] at fin q ⊢
            have fin := fin R (N ++ [i]) (N.length + 3) (by rw [hlp, if_neg (by omega)]; omega) (by simp) (by rw [List.length_append, List.length_singleton]; omega) ⟨a1, by rw [List.length_append, List.length_singleton]; omega, Or.inr lR, a4, fun k hk => (List.mem_append.mp hk).elim (fun z => a5 k z) (fun z => by rw [List.mem_singleton.mp z]; exact ⟨hiT, q⟩), a6, srt_a a7 hlo⟩
            rw [show R.length + (N ++ [i]).length = R.length + N.length + 1 by rw [List.length_append, List.length_singleton]; omega, ← nb_up, hv3, hv4, iI_add] at fin
            rw [q] at e22
            have ep : ((R.length + N.length : Nat) : Int) - (n : Int) + 3 = ((N.length + 3 : Nat) : Int) := by omega
            rw [E_Md_pairs_6]
            simp (disch := omega) only [E_Md_pairs_7, E_Md_pairs_8, E_Md_pairs_9, E_Md_pairs_10, mK_0 H, mR_39 H, mK_22 H, mN_22 H, mR_38 H, mK_21 H, mN_21 H, mR_63 H, mK_33 H, mN_33 H, okO_ov, aR_ov, aN_ov, gd_true, bZ_0, l_0, l_1, l_3, iI_sub, iI_add, ep, gd_in, iI_cl, Int.toNat_natCast, aI_ov H.1, sI_ov H.1, letT_eq, hBm.1.1, e21, e22, sV_ne, hsp, bnd_some, iI_lt, iI_s, reduceCtorEq, ↓reduceIte]
            rw [if_pos (by omega)]
            exact fin
        · have no : ∀ s, ¬ Xm b n (R ++ N ++ i :: s) := fun s hX => q (Xm_next a1 a3 hX).2.1
          have ihk := ihk (i + 1) mm (by omega) (by omega) i1 i2 (DF_miss i3 no)
          rw [E_Md_pairs_6]
          have hne : ¬ bZ (tR b i) = bZ (decide (R.length < n)) := fun z => q (by
            revert z
            cases tR b i <;> cases decide (R.length < n) <;> decide)
          simp (disch := omega) only [E_Md_pairs_10, mK_0 H, mR_39 H, mK_22 H, mN_22 H, okO_ov, aR_ov, aN_ov, gd_true, gd_in, iI_cl, Int.toNat_natCast, aI_ov H.1, hBm.1.1, e22, l_1, iI_lt, iI_add, iI_s]
          rw [if_pos (by omega), if_neg hne]
          exact ihk
    -- the beginning
    have lc : lst0 (if R.length < n then R else N) ≤ nT b := by
      have hl0 : ∀ q : List Nat, (∀ k ∈ q, k < nT b) → lst0 q ≤ nT b := fun q hq => by
        rcases List.eq_nil_or_concat q with e | ⟨p, a, e⟩
        · rw [e]; exact Nat.zero_le _
        · rw [List.concat_eq_append] at e
          subst e
          rw [lst0_app]
          exact Nat.le_of_lt (hq a (List.mem_append_right _ (List.mem_singleton.mpr rfl)))
      split
      · exact hl0 R fun k hk => (a4 k hk).1
      · exact hl0 N fun k hk => (a5 k hk).1
    have beg := lp (nT b - lst0 (if R.length < n then R else N)) _ m (by omega) (Nat.le_refl _) (OnS_r _ _) hC (fun x hx s hX => by
      have := (Xm_next a1 a3 hX).2.2
      omega)
    obtain ⟨m', o, e, r⟩ := beg
    refine ⟨m', o, ?_, r⟩
    show mw _ (L_Md_pairs_0 _ _ _ _ _ _ _) = _
    have e3 : L_Md_pairs_2 (Q_Md_pairs f) (A 0) (iI (n : Int)) (iI ((R.length + N.length : Nat) : Int)) (iI (v3 : Int)) (iI (v4 : Int)) (bZ (decide (R.length < n))) (ov 40 A m σ) = some (bZ o.isSome, (ov 40 A (m') σ)) := by
      have l0 : ∀ q : List Nat, q.length = 0 → lst0 q = 0 := fun q hq => by rw [List.eq_nil_of_length_eq_zero hq]; rfl
      have lg : ∀ q : List Nat, 0 < q.length → lst0 q = q.getD (q.length - 1) 0 := fun q hq => by
        rcases List.eq_nil_or_concat q with z | ⟨p, a, z⟩
        · rw [z] at hq; exact absurd hq (by decide)
        · rw [List.concat_eq_append] at z
          subst z
          rw [lst0_app, List.length_append, List.length_singleton, Nat.add_sub_cancel, getD_app2]
      rw [E_Md_pairs_2]
      by_cases c : R.length < n
      · have hN : N = [] := by rcases a3 with z | z; exact z; omega
        rw [if_pos c] at e
        rw [decide_eq_true c] at e ⊢
        have hN0 : N.length = 0 := by rw [hN]; rfl
        by_cases z : R.length = 0
        · rw [l0 R z] at e
          replace e : L_Md_pairs_6 _ _ _ _ _ _ _ (iI 0) _ = _ := e
          simp (disch := omega) only [E_Md_pairs_3, E_Md_pairs_5, l_0, iI_eq]
          rw [if_pos (by omega)]
          exact e
        · have h33 := hC (R.length - 1) (by omega)
          rw [if_pos (by omega), hN, List.append_nil, ← lg R (by omega)] at h33
          have ep : ((R.length + N.length : Nat) : Int) - 1 = ((R.length - 1 : Nat) : Int) := by omega
          simp (disch := omega) only [E_Md_pairs_4, E_Md_pairs_5, mK_0 H, mR_63 H, mK_33 H, mN_33 H, okO_ov, aR_ov, aN_ov, gd_true, l_0, l_1, iI_eq, bZ_0, reduceCtorEq, ↓reduceIte, iI_sub, ep, gd_in, iI_cl, Int.toNat_natCast, aI_ov H.1, h33]
          rw [if_neg (by omega), if_neg (by omega)]
          exact e
      · have lR : R.length = n := by omega
        rw [if_neg c] at e
        rw [decide_eq_false c] at e ⊢
        by_cases z : N.length = 0
        · rw [l0 N z] at e
          replace e : L_Md_pairs_6 _ _ _ _ _ _ _ (iI 0) _ = _ := e
          simp (disch := omega) only [E_Md_pairs_3, E_Md_pairs_5, l_0, iI_eq]
          rw [if_neg (by omega), if_pos (by omega)]
          exact e
        · have h33 := hC (R.length + N.length - 1) (by omega)
          rw [if_neg (by omega), show R.length + N.length - 1 = R.length + (N.length - 1) by omega, getD_app3, ← lg N (by omega)] at h33
          have ep : ((R.length + N.length : Nat) : Int) - (n : Int) + 2 = ((3 + (R.length + (N.length - 1) - n) : Nat) : Int) := by omega
          simp (disch := omega) only [E_Md_pairs_4, E_Md_pairs_5, mK_0 H, mR_63 H, mK_33 H, mN_33 H, okO_ov, aR_ov, aN_ov, gd_true, l_0, l_2, iI_eq, bZ_0, reduceCtorEq, ↓reduceIte, iI_sub, iI_add, ep, gd_in, iI_cl, Int.toNat_natCast, aI_ov H.1, h33]
          rw [if_neg (by omega), if_neg (by omega)]
          exact e
    rw [E_Md_pairs_0]
    simp (disch := omega) only [l_0, l_1, l_2, iI_mul, iI_eq, iI_lt]
    rw [if_neg (by omega)]
    by_cases c : R.length < n
    · have hN0 : N.length = 0 := by rcases a3 with z | z; rw [z]; rfl; omega
      rw [if_pos (by omega)]
      rw [decide_eq_true c] at e3
      exact (congrArg (mw _) e3).trans (mw_ov _ _ _ _ _ _)
    · rw [if_neg (by omega)]
      rw [decide_eq_false c] at e3
      exact (congrArg (mw _) e3).trans (mw_ov _ _ _ _ _ _)
/-! the answer -/
theorem m_cannot {d : TD} {b : BD} {A : Nat → Nat} {σ : AM} {m : VM} (M : MS0 d b A σ m) {c : Int} (h1 : -2147483648 ≤ c) (h2 : c < 2147483648) : ∃ (m' : VM) (r : Int), M_Md_cannot (A 0) (iI c) (ov 40 A m σ) = some (iI r, (ov 40 A (m') σ)) ∧ KM m m' ∧ (if 0 ≤ c ∧ c ≤ 6 then cnR b c r else r = -1) := by
  have H := M.1
  have hd := M.2.1
  have hb := M.2.2.2.1
  obtain ⟨m1, e1, k1, M1, f40, f41⟩ := p_findM M
  have hw := q_Md_within (a := c) (l := 0) (h := 6) (ov 40 A m1 σ) h1 h2 (by omega) (by omega) (by omega) (by omega)
  unfold M_Md_cannot
  by_cases q : 0 ≤ c ∧ c ≤ 6
  · rw [decide_eq_true q] at hw
    obtain ⟨m2, e2, k2, E2⟩ := p_Md_findSmallest H hd M1.2.2.1 (must b) (mustN b)
    simp only [if_pos q]
    cases ho : smF d (must b) (mustN b) (dW d) with
    | some y =>
      rw [ho] at e2
      replace e2 : M_Md_findSmallest _ _ _ _ = some (bZ true, _) := e2
      refine ⟨m2, -1, ?_, KM_t k1 k2, Or.inr ⟨fun k hk1 hk2 ⟨R, N, z⟩ => ?_, rfl⟩⟩
      · rw [E_Md_cannot_0]
        simp (disch := omega) only [E_Md_cannot_1, mK_0 H, okO_ov, gd_true, letT_eq, sI_ov H.1, l_0, l_1, l_6, iI_neg, e1, bnd_some, hw, bZ_0, reduceCtorEq, ↓reduceIte, aL_ov H.1, f40, f41, e2, mw_ov]
      · rw [ok_none hd hb (by omega) z] at ho; cases ho
    | none =>
      rw [ho] at e2
      replace e2 : M_Md_findSmallest _ _ _ _ = some (bZ false, _) := e2
      have hB2 : MB b m2 := (MS0_K k2 M1).2.2.2.2
      obtain ⟨kc, hkc⟩ := Int.eq_ofNat_of_zero_le q.1
      have lp : ∃ (m' : VM) (r : Int), L_Md_cannot_2 (A 0) (iI c) (iI ((0 + 1 : Nat) : Int)) (ov 40 A m2 σ) = some (iI r, (ov 40 A (m') σ)) ∧ OnS 33 m2 m' ∧ cnR b c r := by
        refine up_loopI (fun k mm => L_Md_cannot_2 (A 0) (iI c) (iI ((k + 1 : Nat) : Int)) (ov 40 A mm σ)) (fun k mm => OnS 33 m2 mm ∧ ∀ j, 1 ≤ j → j ≤ k → ¬ ∃ R N, okU b j R N) (fun X => ∃ (m' : VM) (r : Int), X = some (iI r, (ov 40 A (m') σ)) ∧ OnS 33 m2 m' ∧ cnR b c r) 3 (fun k mm hk ⟨i1, i2⟩ ih => ?_) (fun mm ⟨i1, i2⟩ => ?_) 0 _ (Nat.zero_le _) ⟨OnS_r _ _, fun j j1 j2 => by omega⟩
        · have hR := Md_pairs H hb (n := k + 1) (by omega) (by omega) (2 * (k + 1)) 80 [] [] mm (by omega) (by rw [List.length_nil]; omega) ⟨by rw [List.length_nil]; omega, by rw [List.length_nil]; omega, Or.inl rfl, fun j hj => absurd hj List.not_mem_nil, fun j hj => absurd hj List.not_mem_nil, fun q a c r e => by simp at e, fun q a c r e => by simp at e⟩ (MB_S hB2 i1) (fun i hi => absurd hi (Nat.not_lt_zero i))
          rw [show nbS 6 (ctB b []) = 0 from rfl] at hR
          obtain ⟨m3, o, e3, q1, q2, q3, q4⟩ := hR
          replace e3 : M_Md_pairs (A 0) (iI ((k + 1 : Nat) : Int)) (iI 0) (iI 0) (iI 0) _ = _ := e3
          show ∃ (m' : VM) (r : Int), L_Md_cannot_2 _ _ _ _ = _ ∧ _
          cases ho3 : o with
          | none =>
            rw [ho3] at e3 q2
            replace e3 : M_Md_pairs _ _ _ _ _ _ = some (bZ false, _) := e3
            have hno := X_no (b := b) (n := k + 1) (X := Xm b (k + 1)) (fun _ h => Xc_m h) (fun l => q2.1 rfl l)
            have ih := ih m3 ⟨OnS_t i1 q1, fun j j1 j2 => by
              by_cases e : j = k + 1
              · rw [e]; exact hno
              · exact i2 j j1 (by omega)⟩
            rw [E_Md_cannot_2]
            simp (disch := omega) only [mK_0 H, okO_ov, gd_true, l_0, l_1, l_3, iI_lt, bnd_some, e3, bZ_0, iI_add, iI_s, ↓reduceIte]
            rw [if_neg (by omega)]
            exact ih
          | some l =>
            rw [ho3] at e3 q2
            replace e3 : M_Md_pairs _ _ _ _ _ _ = some (bZ true, _) := e3
            obtain ⟨r1, r2⟩ := q2.2 l rfl
            have hM := X_M (X := Xm b (k + 1)) (fun _ h => h) (fun _ h => Xc_m h) r1 r2
            have hch := q4 l ho3
            replace hM : isM b (k + 1) l := hM
            replace hch : chM (k + 1) l m3 := hch
            refine ⟨m3, cnG (k + 1) l c, ?_, OnS_t i1 q1, Or.inl ⟨k + 1, l, by omega, by omega, hM, fun j j1 j2 => i2 j j1 (by omega), rfl⟩⟩
            have hlen : l.length = 2 * (k + 1) := (Xm_len hb l r1).1
            subst hkc
            have h3 : ¬ (3 : Int) < ((k + 1 : Nat) : Int) := by omega
            have gG : cnG (k + 1) l (kc : Int) = if (kc : Int) = 0 then ((k + 1 : Nat) : Int) else if (kc - 1) % 3 < k + 1 then (l.getD (if kc - 1 < 3 then kc - 1 else (k + 1) + (kc - 1 - 3)) 0 : Int) else -1 := by
              unfold cnG
              rw [Int.toNat_natCast]
            rw [E_Md_cannot_2]
            by_cases z : kc = 0
            · subst z
              rw [gG, if_pos (show ((0 : Nat) : Int) = 0 from rfl)]
              simp (disch := omega) only [E_Md_cannot_3, E_Md_cannot_4, E_Md_cannot_5, mK_0 H, okO_ov, gd_true, l_0, l_1, l_3, iI_lt, iI_eq, bnd_some, e3, bZ_0, reduceCtorEq, ↓reduceIte, if_neg h3, Int.natCast_zero]
            · have hz : ¬ (kc : Int) = 0 := by omega
              rw [if_neg hz] at gG
              have e1 : (kc : Int) - 1 = ((kc - 1 : Nat) : Int) := by omega
              have d1 : iI ((kc - 1 : Nat) : Int) / iI 3 = iI (((kc - 1) / 3 : Nat) : Int) := iI_div (a := kc - 1) (b := 3) (by omega) (by omega)
              have d2 : iI ((kc - 1 : Nat) : Int) - iI (((kc - 1) / 3 : Nat) : Int) * iI 3 = iI (((kc - 1) % 3 : Nat) : Int) := iI_mod (a := kc - 1) (b := 3) (by omega) (by omega)
              have hm : (kc - 1) % 3 < 3 := Nat.mod_lt _ (by omega)
              by_cases y : (kc - 1) % 3 < k + 1
              · rw [if_pos y] at gG
                have y2 : (((kc - 1) % 3 : Nat) : Int) < ((k + 1 : Nat) : Int) := by omega
                have e33 : m3.1 33 (kc - 1) = iI (l.getD (if kc - 1 < 3 then kc - 1 else (k + 1) + (kc - 1 - 3)) 0 : Int) := by
                  by_cases w : kc - 1 < 3
                  · rw [if_pos w]
                    have := hch (kc - 1) (by omega)
                    rw [if_pos (by omega)] at this
                    exact this
                  · rw [if_neg w]
                    have := hch ((k + 1) + (kc - 1 - 3)) (by omega)
                    rw [if_neg (by omega), show 3 + ((k + 1) + (kc - 1 - 3) - (k + 1)) = kc - 1 by omega] at this
                    exact this
                rw [gG, ← e33]
                simp (disch := omega) only [E_Md_cannot_3, E_Md_cannot_4, E_Md_cannot_5, mK_0 H, mR_63 H, mK_33 H, mN_33 H, okO_ov, aR_ov, aN_ov, gd_true, l_0, l_1, l_3, iI_lt, iI_eq, bnd_some, e3, bZ_0, iI_sub (kc : Int) 1, e1, d1, d2, gd_in, iI_cl, Int.toNat_natCast, aI_ov H.1, Int.reduceEq, reduceCtorEq, ↓reduceIte, if_neg h3, if_neg hz, if_pos y2]
              · rw [if_neg y] at gG
                have y2 : ¬ (((kc - 1) % 3 : Nat) : Int) < ((k + 1 : Nat) : Int) := by omega
                rw [gG]
                simp (disch := omega) only [E_Md_cannot_3, E_Md_cannot_4, E_Md_cannot_5, mK_0 H, okO_ov, gd_true, l_0, l_1, l_3, iI_neg, iI_lt, iI_eq, bnd_some, e3, bZ_0, iI_sub (kc : Int) 1, e1, d1, d2, Int.reduceEq, reduceCtorEq, ↓reduceIte, if_neg h3, if_neg hz, if_neg y2]
        · refine ⟨mm, -1, ?_, i1, Or.inr ⟨i2, rfl⟩⟩
          show L_Md_cannot_2 _ _ _ _ = _
          rw [E_Md_cannot_2]
          simp (disch := omega) only [l_1, l_3, iI_neg, iI_lt]
          rw [if_pos (by omega)]
      obtain ⟨m', r, e, k3, hr⟩ := lp
      replace e : L_Md_cannot_2 (A 0) (iI c) (iI 1) _ = _ := e
      refine ⟨m', r, ?_, KM_t k1 (KM_t k2 (KM_S33 k3)), hr⟩
      rw [E_Md_cannot_0]
      simp (disch := omega) only [mK_0 H, okO_ov, gd_true, letT_eq, sI_ov H.1, l_0, l_1, l_6, e1, bnd_some, hw, bZ_0, reduceCtorEq, ↓reduceIte, aL_ov H.1, f40, f41, e2, e, mw_ov]
  · rw [decide_eq_false q] at hw
    refine ⟨m1, -1, ?_, k1, by rw [if_neg q]⟩
    rw [E_Md_cannot_0]
    simp (disch := omega) only [E_Md_cannot_1, mK_0 H, okO_ov, gd_true, letT_eq, sI_ov H.1, l_0, l_1, l_6, iI_neg, e1, bnd_some, hw, bZ_0, ↓reduceIte, mw_ov]
