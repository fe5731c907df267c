/-! ===== what to lay on next: counts over a list of list numbers ===== -/
def cL (d : TD) (l : List Nat) (s : Nat) : Nat := l.countP (fun k => bt (LL d k) s)
def sumL (f : Nat → Nat) : List Nat → Nat
  | [] => 0
  | k :: l => f k + sumL f l
def cW (d : TD) (l : List Nat) (s : Nat) : Nat := sumL (fun k => if bt (LL d k) s = true then sh d k else 0) l
def hlf (d : TD) (l : List Nat) (s : Nat) : Nat := if l.length - cL d l s < cL d l s then cL d l s else l.length - cL d l s
def ptB (d : TD) (l : List Nat) (s : Nat) : Bool := decide (0 < cL d l s ∧ cL d l s < l.length)
def btr (d : TD) (way : Nat) (l : List Nat) (s t : Nat) : Bool := if way = 1 then decide (cW d l s < cW d l t) else if way = 2 ∧ dCo d s ≠ dCo d t then decide (dCo d s < dCo d t) else decide (hlf d l s < hlf d l t)
def nxN (d : TD) (way : Nat) (l : List Nat) : Nat → Int
  | 0 => -1
  | k + 1 => if ptB d l k = true ∧ (nxN d way l k < 0 ∨ btr d way l k (nxN d way l k).toNat = true) then (k : Int) else nxN d way l k
def nx (d : TD) (way : Nat) (l : List Nat) : Int := nxN d way l (sN d)
theorem nxN_s (d : TD) (way : Nat) (l : List Nat) (k : Nat) : nxN d way l (k + 1) = if ptB d l k = true ∧ (nxN d way l k < 0 ∨ btr d way l k (nxN d way l k).toNat = true) then (k : Int) else nxN d way l k := rfl
theorem nxN_lo (d : TD) (way : Nat) (l : List Nat) (k : Nat) : -1 ≤ nxN d way l k ∧ nxN d way l k < (k : Int) := by
  induction k with
  | zero => exact ⟨Int.le_refl _, show (-1 : Int) < ((0 : Nat) : Int) by decide⟩
  | succ k ih => rw [nxN_s]; split <;> omega
theorem nxN_pt (d : TD) (way : Nat) (l : List Nat) (k : Nat) : 0 ≤ nxN d way l k → ptB d l (nxN d way l k).toNat = true := by
  induction k with
  | zero => intro h; exact absurd (show (0 : Int) ≤ -1 from h) (by decide)
  | succ k ih =>
    rw [nxN_s]
    split
    · rename_i h; intro _; exact h.1
    · exact ih
theorem nxN_ge {d : TD} (way : Nat) {l : List Nat} {k s : Nat} (hs : s < k) (h : ptB d l s = true) : 0 ≤ nxN d way l k := by
  induction k with
  | zero => omega
  | succ k ih =>
    rw [nxN_s]
    split
    · omega
    · rename_i q
      by_cases e : s = k
      · subst e
        have := (nxN_lo d way l s).1
        rcases Int.lt_or_le (nxN d way l s) 0 with z | z
        · exact absurd ⟨h, Or.inl z⟩ q
        · exact z
      · exact ih (by omega)
theorem cL_le (d : TD) (l : List Nat) (s : Nat) : cL d l s ≤ l.length := List.countP_le_length
theorem sumL_app (f : Nat → Nat) (l l' : List Nat) : sumL f (l ++ l') = sumL f l + sumL f l' := by
  induction l with
  | nil => show sumL f l' = 0 + sumL f l'; omega
  | cons k l ih => show f k + sumL f (l ++ l') = f k + sumL f l + sumL f l'; omega
theorem sumL_perm (f : Nat → Nat) {l l' : List Nat} (h : l.Perm l') : sumL f l = sumL f l' := by
  induction h with
  | nil => rfl
  | cons x _ ih => show f x + _ = f x + _; rw [ih]
  | swap x y l => show f y + (f x + sumL f l) = f x + (f y + sumL f l); omega
  | trans _ _ i1 i2 => exact i1.trans i2
theorem sumL_congr {f g : Nat → Nat} {l : List Nat} (h : ∀ k ∈ l, f k = g k) : sumL f l = sumL g l := by
  induction l with
  | nil => rfl
  | cons k l ih => show f k + _ = g k + _; rw [h k List.mem_cons_self, ih fun j hj => h j (List.mem_cons_of_mem _ hj)]
theorem sumL_mono {f g : Nat → Nat} {l : List Nat} (h : ∀ k ∈ l, f k ≤ g k) : sumL f l ≤ sumL g l := by
  induction l with
  | nil => exact Nat.le_refl _
  | cons k l ih =>
    have h1 := h k List.mem_cons_self
    have h2 := ih fun j hj => h j (List.mem_cons_of_mem _ hj)
    show f k + _ ≤ g k + _
    omega
theorem sumL_part (f : Nat → Nat) (p : Nat → Bool) (l : List Nat) : sumL f (l.filter p) + sumL f (l.filter (fun k => !p k)) = sumL f l := by
  induction l with
  | nil => rfl
  | cons k l ih =>
    show _ = f k + sumL f l
    cases q : p k
    · rw [List.filter_cons_of_neg (by simp [q]), List.filter_cons_of_pos (by simp [q])]
      show _ + (f k + _) = _
      omega
    · rw [List.filter_cons_of_pos q, List.filter_cons_of_neg (by simp [q])]
      show (f k + _) + _ = _
      omega
theorem sumL_le {N : Nat} : ∀ (l : List Nat) (f : Nat → Nat), l.Nodup → (∀ k ∈ l, k < N) → sumL f l ≤ sumN N f := by
  intro l
  induction l with
  | nil => intro f _ _; exact Nat.zero_le _
  | cons k l ih =>
    intro f hn hb
    rw [List.nodup_cons] at hn
    have hk := hb k List.mem_cons_self
    have h1 := ih (fun i => if i = k then 0 else f i) hn.2 (fun j hj => hb j (List.mem_cons_of_mem _ hj))
    have h2 : sumL (fun i => if i = k then 0 else f i) l = sumL f l := sumL_congr fun j hj => if_neg (fun e => hn.1 (by subst e; exact hj))
    have h3 := sum_one (n := N) (t := k) hk f (fun i => if i = k then 0 else f i) (fun i _ hi => (if_neg hi).symm)
    simp only [if_true] at h3
    show f k + sumL f l ≤ _
    omega
theorem len_sumL (l : List Nat) : l.length = sumL (fun _ => 1) l := by
  induction l with
  | nil => rfl
  | cons k l ih => show l.length + 1 = 1 + _; omega
theorem sumN_1 (n : Nat) : sumN n (fun _ => 1) = n := by
  induction n with
  | zero => rfl
  | succ n ih => rw [sumN_s, ih]
/-- numbers of lists, each once -/
def wl (d : TD) (l : List Nat) : Prop := l.Nodup ∧ ∀ k ∈ l, k < NL d
theorem wl_len {d : TD} {l : List Nat} (h : wl d l) : l.length ≤ NL d := by
  rw [len_sumL]
  exact Nat.le_trans (sumL_le l _ h.1 h.2) (by rw [sumN_1]; exact Nat.le_refl _)
theorem wl_sh {d : TD} (hd : wfD d) {l : List Nat} (h : wl d l) : sumL (sh d) l ≤ 16384 := by
  have h1 := sumL_le l (sh d) h.1 h.2
  rw [sum_sh] at h1
  have := nMay_le d
  have := hd.2.2.2.2.2.2
  omega
theorem wl_perm {d : TD} {l l' : List Nat} (p : l.Perm l') (h : wl d l) : wl d l' := ⟨p.nodup_iff.mp h.1, fun k hk => h.2 k (p.mem_iff.mpr hk)⟩
theorem wl_flt {d : TD} {l : List Nat} (p : Nat → Bool) (h : wl d l) : wl d (l.filter p) := ⟨h.1.filter p, fun k hk => h.2 k (List.mem_filter.mp hk).1⟩
theorem cW_le {d : TD} (hd : wfD d) {l : List Nat} (h : wl d l) (s : Nat) : cW d l s ≤ 16384 := Nat.le_trans (sumL_mono fun k _ => by split <;> omega) (wl_sh hd h)
theorem cL_perm {d : TD} {l l' : List Nat} (p : l.Perm l') (s : Nat) : cL d l s = cL d l' s := p.countP_eq _
theorem cW_perm {d : TD} {l l' : List Nat} (p : l.Perm l') (s : Nat) : cW d l s = cW d l' s := sumL_perm _ p
theorem hlf_perm {d : TD} {l l' : List Nat} (p : l.Perm l') (s : Nat) : hlf d l s = hlf d l' s := by unfold hlf; rw [cL_perm p, p.length_eq]
theorem ptB_perm {d : TD} {l l' : List Nat} (p : l.Perm l') (s : Nat) : ptB d l s = ptB d l' s := by unfold ptB; rw [cL_perm p, p.length_eq]
theorem btr_perm {d : TD} {l l' : List Nat} (p : l.Perm l') (way s t : Nat) : btr d way l s t = btr d way l' s t := by unfold btr; rw [cW_perm p, cW_perm p, hlf_perm p, hlf_perm p]
theorem nxN_perm {d : TD} {l l' : List Nat} (p : l.Perm l') (way k : Nat) : nxN d way l k = nxN d way l' k := by
  induction k with
  | zero => rfl
  | succ k ih => rw [nxN_s, nxN_s, ih, ptB_perm p, btr_perm p]
theorem nx_perm {d : TD} {l l' : List Nat} (p : l.Perm l') (way : Nat) : nx d way l = nx d way l' := nxN_perm p way _
/-- two lists at least are parted -/
theorem nx_ok {d : TD} (hd : wfD d) (way : Nat) {l : List Nat} (h : wl d l) (h2 : 1 < l.length) : ∃ s : Nat, nx d way l = (s : Int) ∧ s < sN d ∧ ptB d l s = true := by
  have ex : ∃ s, s < sN d ∧ ptB d l s = true := by
    match l, h, h2 with
    | a :: c :: r, h, _ =>
      have hab : a ≠ c := fun e => by
        have := h.1
        rw [List.nodup_cons] at this
        exact this.1 (by rw [e]; exact List.mem_cons_self)
      have hne : ¬ LL d a = LL d c := fun e => hab (LL_inj (h.2 a List.mem_cons_self) (h.2 c (List.mem_cons_of_mem _ List.mem_cons_self)) e)
      have : ∃ s, s < 64 ∧ bt (LL d a) s ≠ bt (LL d c) s := by
        apply Classical.byContradiction
        intro z
        apply hne
        apply bt_ext
        intro s hs
        apply Classical.byContradiction
        intro z2
        exact z ⟨s, hs, z2⟩
      obtain ⟨s, hs, hsne⟩ := this
      have hlo : s < sN d := by
        rcases Nat.lt_or_ge s (sN d) with z | z
        · exact z
        · exact absurd (by rw [LL_low hd a s z, LL_low hd c s z]) hsne
      refine ⟨s, hlo, decide_eq_true ?_⟩
      unfold cL
      rw [List.countP_cons, List.countP_cons]
      have hr : r.countP (fun k => bt (LL d k) s) ≤ r.length := List.countP_le_length
      rw [List.length_cons, List.length_cons]
      cases q1 : bt (LL d a) s <;> cases q2 : bt (LL d c) s
      · exact absurd (q1.trans q2.symm) hsne
      · simp only [q1, q2, Bool.false_eq_true, if_true, if_false]; omega
      · simp only [q1, q2, Bool.false_eq_true, if_true, if_false]; omega
      · exact absurd (q1.trans q2.symm) hsne
  obtain ⟨s, hs, hp⟩ := ex
  have h0 := nxN_ge way hs hp
  have h1 := nxN_lo d way l (sN d)
  refine ⟨(nx d way l).toNat, ?_, ?_, nxN_pt d way l _ h0⟩
  · show nxN d way l (sN d) = _
    unfold nx
    omega
  · unfold nx; omega
/-! a stretch of a row -/
def Seg (f : Nat → Int32) (a : Nat) (l : List Nat) : Prop := ∀ i, i < l.length → f (a + i) = iI (l.getD i 0 : Int)
theorem Seg_0 (f : Nat → Int32) (l : List Nat) : Seg f 0 l ↔ Row f l := by
  unfold Seg Row
  constructor
  · intro h i hi; have := h i hi; rwa [Nat.zero_add] at this
  · intro h i hi; rw [Nat.zero_add]; exact h i hi
theorem Seg_nil (f : Nat → Int32) (a : Nat) : Seg f a [] := fun i hi => absurd hi (Nat.not_lt_zero i)
theorem Seg_cons {f : Nat → Int32} {a x : Nat} {l : List Nat} : Seg f a (x :: l) ↔ f a = iI (x : Int) ∧ Seg f (a + 1) l := by
  constructor
  · intro h
    refine ⟨h 0 (Nat.zero_lt_succ _), fun i hi => ?_⟩
    have := h (i + 1) (Nat.succ_lt_succ hi)
    rw [show a + 1 + i = a + (i + 1) by omega]
    exact this
  · intro ⟨h1, h2⟩ i hi
    cases i with
    | zero => exact h1
    | succ i =>
      have := h2 i (Nat.lt_of_succ_lt_succ hi)
      rw [show a + (i + 1) = a + 1 + i by omega]
      exact this
theorem Seg_app {f : Nat → Int32} {l l' : List Nat} : ∀ {a : Nat}, Seg f a (l ++ l') ↔ Seg f a l ∧ Seg f (a + l.length) l' := by
  induction l with
  | nil => intro a; exact ⟨fun h => ⟨Seg_nil f a, h⟩, fun h => h.2⟩
  | cons x l ih =>
    intro a
    rw [List.cons_append, Seg_cons, Seg_cons, ih, List.length_cons, show a + (l.length + 1) = a + 1 + l.length by omega, and_assoc]
theorem Seg_congr {f g : Nat → Int32} {a : Nat} {l : List Nat} (h : ∀ j, a ≤ j → j < a + l.length → g j = f j) (k : Seg f a l) : Seg g a l := fun i hi => by
  rw [h (a + i) (by omega) (by omega)]; exact k i hi
theorem tk_s {l : List Nat} {k : Nat} (h : k < l.length) : l.take (k + 1) = l.take k ++ [l.getD k 0] := by
  rw [List.take_succ, List.getElem?_eq_getElem h, List.getD_eq_getElem?_getD, List.getElem?_eq_getElem h]; rfl
theorem dr_s {l : List Nat} {k : Nat} (h : k < l.length) : l.drop k = l.getD k 0 :: l.drop (k + 1) := by
  rw [List.drop_eq_getElem_cons h, List.getD_eq_getElem?_getD, List.getElem?_eq_getElem h]; rfl
theorem gd_mem {l : List Nat} {k : Nat} (h : k < l.length) : l.getD k 0 ∈ l := by
  rw [List.getD_eq_getElem?_getD, List.getElem?_eq_getElem h]; exact List.getElem_mem h
/-- what has been parted so far -/
def prt (p : Nat → Bool) (f0 : Nat → Int32) (a : Nat) (l : List Nat) (k : Nat) (P R : List Nat) (f : Nat → Int32) : Prop := Seg f a (P ++ (R ++ l.drop k)) ∧ P.Perm ((l.take k).filter p) ∧ R.Perm ((l.take k).filter (fun i => !p i)) ∧ P.length + R.length = k ∧ ∀ j, (j < a ∨ a + l.length ≤ j) → f j = f0 j
theorem prt_0 (p : Nat → Bool) {f0 : Nat → Int32} {a : Nat} {l : List Nat} (h : Seg f0 a l) : prt p f0 a l 0 [] [] f0 := ⟨h, List.Perm.refl _, List.Perm.refl _, rfl, fun _ _ => rfl⟩
theorem prt_x {p : Nat → Bool} {f0 f : Nat → Int32} {a : Nat} {l P R : List Nat} {k : Nat} (hk : k < l.length) (h : prt p f0 a l k P R f) : f (a + k) = iI (l.getD k 0 : Int) := by
  obtain ⟨h1, h2, h3, h4, h5⟩ := h
  rw [dr_s hk, ← List.append_assoc, Seg_app, Seg_cons, List.length_append, h4] at h1
  exact h1.2.1
theorem prt_n {p : Nat → Bool} {f0 f : Nat → Int32} {a : Nat} {l P R : List Nat} {k : Nat} (hk : k < l.length) (h : prt p f0 a l k P R f) (hp : p (l.getD k 0) = false) : prt p f0 a l (k + 1) P (R ++ [l.getD k 0]) f := by
  obtain ⟨h1, h2, h3, h4, h5⟩ := h
  refine ⟨?_, ?_, ?_, ?_, h5⟩
  · rw [List.append_assoc, List.singleton_append, ← dr_s hk]; exact h1
  · rw [tk_s hk, List.filter_append, List.filter_cons_of_neg (by rw [hp]; simp)]; simpa using h2
  · rw [tk_s hk, List.filter_append, List.filter_cons_of_pos (by rw [hp]; rfl)]; exact h3.append_right _
  · rw [List.length_append, List.length_singleton]; omega
theorem prt_y {p : Nat → Bool} {f0 f g : Nat → Int32} {a : Nat} {l P R : List Nat} {k : Nat} (hk : k < l.length) (h : prt p f0 a l k P R f) (hp : p (l.getD k 0) = true) (hg : ∀ j, g j = if j = a + P.length then f (a + k) else if j = a + k then f (a + P.length) else f j) : ∃ R', prt p f0 a l (k + 1) (P ++ [l.getD k 0]) R' g := by
  have hx := prt_x hk h
  obtain ⟨h1, h2, h3, h4, h5⟩ := h
  have hP : (P ++ [l.getD k 0]).Perm ((l.take (k + 1)).filter p) := by
    rw [tk_s hk, List.filter_append, List.filter_cons_of_pos hp]
    exact h2.append_right _
  have hR : ∀ R' : List Nat, R'.Perm R → R'.Perm ((l.take (k + 1)).filter (fun i => !p i)) := fun R' h => by
    rw [tk_s hk, List.filter_append, List.filter_cons_of_neg (by rw [hp]; simp)]
    simpa using h.trans h3
  have h5' : ∀ j, (j < a ∨ a + l.length ≤ j) → g j = f0 j := fun j hj => by
    rw [hg, if_neg (by omega), if_neg (by omega)]; exact h5 j hj
  rw [dr_s hk] at h1
  cases R with
  | nil =>
    simp only [List.length_nil] at h4
    have e : ∀ j, g j = f j := fun j => by
      rw [hg]
      by_cases c : j = a + P.length
      · rw [if_pos c, c, show a + k = a + P.length by omega]
      · rw [if_neg c, if_neg (by omega)]
    refine ⟨[], ?_, hP, hR [] (List.Perm.refl _), by rw [List.length_append, List.length_singleton, List.length_nil]; omega, h5'⟩
    rw [List.nil_append] at h1 ⊢
    rw [List.append_assoc, List.singleton_append]
    exact Seg_congr (fun j _ _ => e j) h1
  | cons r R0 =>
    rw [List.length_cons] at h4
    rw [Seg_app, List.cons_append, Seg_cons, Seg_app, Seg_cons] at h1
    obtain ⟨s1, s2, s3, s4, s5⟩ := h1
    refine ⟨R0 ++ [r], ?_, hP, hR _ (List.perm_append_comm), by rw [List.length_append, List.length_append, List.length_singleton, List.length_singleton]; omega, h5'⟩
    rw [List.append_assoc, List.append_assoc, List.singleton_append, List.singleton_append, Seg_app, Seg_cons, Seg_app, Seg_cons]
    refine ⟨Seg_congr (fun j _ hj => by rw [hg, if_neg (by omega), if_neg (by omega)]) s1, ?_, Seg_congr (fun j h1 h2 => by rw [hg, if_neg (by omega), if_neg (by omega)]) s3, ?_, Seg_congr (fun j h1 h2 => by rw [hg, if_neg (by omega), if_neg (by omega)]) s5⟩
    · rw [hg, if_pos rfl]; exact hx
    · rw [hg, if_neg (by omega), if_pos (by omega)]; exact s2
theorem prt_end {p : Nat → Bool} {f0 f : Nat → Int32} {a : Nat} {l P R : List Nat} (h : prt p f0 a l l.length P R f) : Seg f a P ∧ Seg f (a + P.length) R ∧ P.Perm (l.filter p) ∧ R.Perm (l.filter (fun i => !p i)) ∧ P.length + R.length = l.length := by
  obtain ⟨h1, h2, h3, h4, h5⟩ := h
  rw [List.drop_length, List.append_nil, Seg_app] at h1
  rw [List.take_length] at h2 h3
  exact ⟨h1.1, h1.2, h2, h3, h4⟩
/-! small steps of counts -/
theorem cL_s {d : TD} {l : List Nat} {k : Nat} (h : k < l.length) (s : Nat) : cL d (l.take (k + 1)) s = cL d (l.take k) s + if bt (LL d (l.getD k 0)) s = true then 1 else 0 := by
  unfold cL
  rw [tk_s h, List.countP_append, List.countP_singleton]
theorem cW_s {d : TD} {l : List Nat} {k : Nat} (h : k < l.length) (s : Nat) : cW d (l.take (k + 1)) s = cW d (l.take k) s + if bt (LL d (l.getD k 0)) s = true then sh d (l.getD k 0) else 0 := by
  unfold cW
  rw [tk_s h, sumL_app]; rfl
theorem sumL_s (f : Nat → Nat) {l : List Nat} {k : Nat} (h : k < l.length) : sumL f (l.take (k + 1)) = sumL f (l.take k) + f (l.getD k 0) := by
  rw [tk_s h, sumL_app]; rfl
