/-! ===== words for what is asked of what is left ===== -/
theorem iI_inj {a b : Int} (h1 : -2147483648 ≤ a) (h2 : a < 2147483648) (h3 : -2147483648 ≤ b) (h4 : b < 2147483648) (h : iI a = iI b) : a = b := (iI_eq h1 h2 h3 h4).mp h
def nzT : True := trivial
theorem iI_div {a b : Nat} (h1 : a < 2147483648) (h2 : b < 2147483648) : iI (a : Int) / iI (b : Int) = iI ((a / b : Nat) : Int) := by
  apply Int32.toInt_inj.mp
  have ha : (iI (a : Int)).toInt = a := Int32.toInt_ofInt_of_le (by omega) (by omega)
  have hb : (iI (b : Int)).toInt = b := Int32.toInt_ofInt_of_le (by omega) (by omega)
  have hq : a / b ≤ a := Nat.div_le_self _ _
  generalize hc : a / b = c at hq
  have hab : (iI (c : Int)).toInt = (c : Int) := Int32.toInt_ofInt_of_le (by omega) (by omega)
  rw [hab, Int32.toInt_div, ha, hb, Int.tdiv_eq_ediv_of_nonneg (by omega), ← Int.natCast_ediv, hc, Int.bmod_eq_of_le (by omega) (by omega)]
theorem iI_mod {a b : Nat} (h1 : a < 2147483648) (h2 : b < 2147483648) : iI (a : Int) - iI ((a / b : Nat) : Int) * iI (b : Int) = iI ((a % b : Nat) : Int) := by
  have hq : a / b * b ≤ a := Nat.div_mul_le_self _ _
  have hm := Nat.div_add_mod a b
  rw [iI_mul, iI_sub]
  congr 1
  rw [← Int.natCast_mul, Nat.mul_comm]
  omega
theorem nzI_iI {a : Int} (h : a ≠ 0) (h1 : -2147483648 ≤ a) (h2 : a < 2147483648) : nzI (iI a) = true := by
  unfold nzI
  rw [Bool.not_eq_true', beq_eq_false_iff_ne]
  intro q
  exact h (iI_inj h1 h2 (by decide) (by decide) q)
theorem mnI_iI {a b : Int} (h1 : -2147483648 ≤ a) (h2 : a < 2147483648) (h3 : -2147483648 ≤ b) (h4 : b < 2147483648) : mnI (iI a) (iI b) = iI (if b < a then b else a) := by
  unfold mnI
  by_cases q : b < a
  · rw [if_pos q, if_pos ((iI_lt h3 h4 h1 h2).mpr q)]
  · rw [if_neg q, if_neg (fun z => q ((iI_lt h3 h4 h1 h2).mp z))]
theorem mxI_iI {a b : Int} (h1 : -2147483648 ≤ a) (h2 : a < 2147483648) (h3 : -2147483648 ≤ b) (h4 : b < 2147483648) : mxI (iI a) (iI b) = iI (if a < b then b else a) := by
  unfold mxI
  by_cases q : a < b
  · rw [if_pos q, if_pos ((iI_lt h1 h2 h3 h4).mpr q)]
  · rw [if_neg q, if_neg (fun z => q ((iI_lt h1 h2 h3 h4).mp z))]
/-- the first below n that is so, or -1 -/
def fsN : Nat → (Nat → Bool) → Int
  | 0, _ => -1
  | n + 1, p => if 0 ≤ fsN n p then fsN n p else if p n = true then (n : Int) else -1
theorem fsN_none {n : Nat} {p : Nat → Bool} (h : ∀ i, i < n → p i = false) : fsN n p = -1 := by
  induction n with
  | zero => rfl
  | succ n ih =>
    unfold fsN
    rw [ih fun i hi => h i (by omega), if_neg (by decide), h n (by omega), if_neg (by decide)]
theorem fsN_of {n k : Nat} {p : Nat → Bool} (hk : k < n) (hp : p k = true) (h : ∀ i, i < k → p i = false) : fsN n p = (k : Int) := by
  induction n with
  | zero => omega
  | succ n ih =>
    unfold fsN
    by_cases e : k = n
    · subst e
      rw [fsN_none h, if_neg (by decide), if_pos hp]
    · rw [ih (by omega), if_pos (by omega)]
theorem fsN_lo (n : Nat) (p : Nat → Bool) : -1 ≤ fsN n p ∧ fsN n p < n := by
  induction n with
  | zero => unfold fsN; omega
  | succ n ih => unfold fsN; split
                 · omega
                 · split <;> omega
def anyN (n : Nat) (p : Nat → Bool) : Bool := decide (cntN n p ≠ 0)
theorem anyN_iff {n : Nat} {p : Nat → Bool} : anyN n p = true ↔ ∃ i, i < n ∧ p i = true := by
  unfold anyN
  rw [decide_eq_true_eq]
  constructor
  · intro h
    apply Classical.byContradiction
    intro q
    apply h
    apply cntN_none
    intro i hi
    cases r : p i
    · rfl
    · exact absurd ⟨i, hi, r⟩ q
  · rintro ⟨i, hi, hp⟩ h
    rw [cntN_eq_0 h i hi] at hp
    cases hp
theorem anyN_s (n : Nat) (p : Nat → Bool) : anyN (n + 1) p = (anyN n p || p n) := by
  rw [Bool.eq_iff_iff, Bool.or_eq_true, anyN_iff, anyN_iff]
  constructor
  · rintro ⟨i, hi, hp⟩
    by_cases e : i = n
    · exact Or.inr (e ▸ hp)
    · exact Or.inl ⟨i, by omega, hp⟩
  · rintro (⟨i, hi, hp⟩ | h)
    · exact ⟨i, by omega, hp⟩
    · exact ⟨n, by omega, h⟩
/-- none, all, or some of them -/
def sur (n all : Nat) : Int := if all = 0 then -1 else if n = all then 1 else if n = 0 then 0 else 2
/-! lists by number -/
theorem LLs_pre {d : TD} {n N : Nat} (h : n ≤ N) : LLs d n <+: LLs d N := by
  induction N with
  | zero => obtain rfl : n = 0 := by omega
            exact List.prefix_refl _
  | succ N ih =>
    by_cases e : n = N + 1
    · rw [e]; exact List.prefix_refl _
    · refine List.IsPrefix.trans (ih (by omega)) ?_
      rw [show LLs d (N + 1) = if dMay d N = true ∧ ¬ lst d N ∈ LLs d N then LLs d N ++ [lst d N] else LLs d N from rfl]
      split
      · exact List.prefix_append _ _
      · exact List.prefix_refl _
theorem num_lt {d : TD} {w : Nat} (hw : w < dW d) (hm : dMay d w = true) : num d w < NL d := List.idxOf_lt_length_of_mem (LLs_has hw hm)
theorem LL_num {d : TD} {w : Nat} (hw : w < dW d) (hm : dMay d w = true) : LL d (num d w) = lst d w := by
  have h := num_lt hw hm
  unfold LL
  rw [List.getD_eq_getElem?_getD, List.getElem?_eq_getElem h]
  exact List.getElem_idxOf h
theorem num_LL {d : TD} {w k : Nat} (hk : k < NL d) (h : lst d w = LL d k) : num d w = k := by
  unfold num
  rw [h]
  unfold LL
  rw [List.getD_eq_getElem?_getD, List.getElem?_eq_getElem hk]
  exact (LLs_nodup d _).idxOf_getElem k hk
theorem LL_inj {d : TD} {i j : Nat} (hi : i < NL d) (hj : j < NL d) (h : LL d i = LL d j) : i = j := by
  obtain ⟨w, hw, hm, e⟩ := LLs_mem (LL_mem hi)
  exact (num_LL hi e.symm).symm.trans (num_LL hj (e.symm.trans h))
theorem first_of {d : TD} {w k : Nat} (hw : w < dW d) (hm : dMay d w = true) (hk : k ≤ num d w) : ∃ v, v ≤ w ∧ dMay d v = true ∧ num d v = k := by
  have h1 : lst d w ∈ LLs d (w + 1) := LLs_has (by omega) hm
  obtain ⟨t, ht⟩ := LLs_pre (d := d) (n := w + 1) (N := dW d) (by omega)
  have h2 : num d w < (LLs d (w + 1)).length := by
    unfold num LLd
    rw [← ht, List.idxOf_append, if_pos h1]
    exact List.idxOf_lt_length_of_mem h1
  have hkN : k < NL d := Nat.lt_of_le_of_lt hk (num_lt hw hm)
  have h3 : LL d k ∈ LLs d (w + 1) := by
    unfold LL LLd
    rw [← ht, List.getD_eq_getElem?_getD, List.getElem?_append_left (by omega), List.getElem?_eq_getElem (by omega)]
    exact List.getElem_mem _
  obtain ⟨v, hv, hvm, e⟩ := LLs_mem h3
  exact ⟨v, by omega, hvm, num_LL hkN e.symm⟩
theorem sh_pos {d : TD} {k : Nat} (hk : k < NL d) : 0 < sh d k := by
  obtain ⟨w, hw, hm, e⟩ := LLs_mem (LL_mem hk)
  apply Nat.pos_of_ne_zero
  intro h
  have := cntN_eq_0 h w hw
  rw [hm, decide_eq_true e.symm] at this
  cases this
def lfW (d : TD) (b : BD) (w : Nat) : Bool := dMay d w && fitL b (lst d w)
theorem fit_num {d : TD} {b : BD} {w : Nat} (hw : w < dW d) (hm : dMay d w = true) : fitK d b (num d w) = fitL b (lst d w) := by unfold fitK; rw [LL_num hw hm]
theorem flt_has {p : Nat → Bool} {n k : Nat} (hk : k < n) (hp : p k = true) : ∃ i, i < (flt p n).length ∧ (flt p n).getD i 0 = k := by
  have : k ∈ flt p n := by unfold flt; rw [List.mem_filter, List.mem_range]; exact ⟨hk, hp⟩
  obtain ⟨i, hi, e⟩ := List.mem_iff_getElem.mp this
  exact ⟨i, hi, by rw [List.getD_eq_getElem?_getD, List.getElem?_eq_getElem hi]; exact e⟩
theorem flt_head {p : Nat → Bool} {n k : Nat} (hk : k < n) (hp : p k = true) : (flt p n).getD 0 0 ≤ k := by
  induction n with
  | zero => omega
  | succ n ih =>
    rw [flt_s]
    by_cases e : k = n
    · subst e
      rw [if_pos hp]
      cases h : flt p k with
      | nil => exact Nat.le_refl _
      | cons a l =>
        have : a ∈ flt p k := by rw [h]; exact List.mem_cons_self
        unfold flt at this
        rw [List.mem_filter, List.mem_range] at this
        show a ≤ k
        omega
    · have := ih (by omega)
      split
      · cases h : flt p n with
        | nil =>
          have hh : k ∈ flt p n := by unfold flt; rw [List.mem_filter, List.mem_range]; exact ⟨by omega, hp⟩
          rw [h] at hh; cases hh
        | cons a l => rw [h] at this; exact this
      · exact this
theorem cnt_flt (p q : Nat → Bool) (n : Nat) : cntN (flt p n).length (fun i => q ((flt p n).getD i 0)) = cntN n (fun k => p k && q k) := by
  induction n with
  | zero => rfl
  | succ n ih =>
    rw [flt_s, cntN_s]
    by_cases h : p n = true
    · rw [if_pos h, List.length_append, List.length_singleton, cntN_s, getD_app2, h, Bool.true_and, ← ih]
      congr 1
      exact cntN_congr fun i hi => by rw [getD_app1 _ _ _ hi]
    · rw [if_neg h, ih]; simp [h]
theorem sum_flt (p : Nat → Bool) (f : Nat → Nat) (n : Nat) : sumN (flt p n).length (fun i => f ((flt p n).getD i 0)) = sumN n (fun k => if p k = true then f k else 0) := by
  induction n with
  | zero => rfl
  | succ n ih =>
    rw [flt_s, sumN_s]
    by_cases h : p n = true
    · rw [if_pos h, if_pos h, List.length_append, List.length_singleton, sumN_s, getD_app2, ← ih]
      congr 1
      exact sumN_congr fun i hi => by rw [getD_app1 _ _ _ hi]
    · rw [if_neg h, if_neg h, ih]; rfl
/-- the lists left, in their order -/
def xL (d : TD) (b : BD) (i : Nat) : Int64 := LL d (lf d b i)
theorem xL_low {d : TD} (hd : wfD d) (b : BD) (i : Nat) : low d (xL d b i) := LL_low hd _
theorem wLf_eq (d : TD) (b : BD) : wLf d b = sumN (nLf d b) (fun i => sh d (lf d b i)) := (sum_flt (fitK d b) (sh d) (NL d)).symm
theorem sumN_pos {n : Nat} {f : Nat → Nat} {i : Nat} (hi : i < n) (h : 0 < f i) : 0 < sumN n f := by
  induction n with
  | zero => omega
  | succ n ih =>
    rw [sumN_s]
    by_cases e : i = n
    · subst e; omega
    · have := ih (by omega); omega
theorem sumN_mono {n : Nat} {f g : Nat → Nat} (h : ∀ i, i < n → f i ≤ g i) : sumN n f ≤ sumN n g := by
  induction n with
  | zero => exact Nat.le_refl _
  | succ n ih => rw [sumN_s, sumN_s]; have := ih fun i hi => h i (by omega); have := h n (by omega); omega
theorem wLf_0 (d : TD) (b : BD) : wLf d b = 0 ↔ nLf d b = 0 := by
  rw [wLf_eq]
  constructor
  · intro h
    by_cases q : nLf d b = 0
    · exact q
    · have := sumN_pos (n := nLf d b) (f := fun i => sh d (lf d b i)) (i := 0) (by omega) (sh_pos (lf_lt (by omega)))
      omega
  · intro h; rw [h]; rfl
theorem sumN_add (n : Nat) (f g : Nat → Nat) : sumN n (fun i => f i + g i) = sumN n f + sumN n g := by
  induction n with
  | zero => rfl
  | succ n ih => rw [sumN_s, sumN_s, sumN_s, ih]; omega
theorem cnt_lst {d : TD} (p : Int64 → Bool) (n : Nat) (L : List Int64) (hL : L.Nodup) (hn : ∀ w, w < n → dMay d w = true → lst d w ∈ L) : sumN L.length (fun k => if p (L.getD k 0) = true then cntN n (fun w => dMay d w && decide (lst d w = L.getD k 0)) else 0) = cntN n (fun w => dMay d w && p (lst d w)) := by
  induction n with
  | zero =>
    have : ∀ m (f : Nat → Nat), (∀ i, i < m → f i = 0) → sumN m f = 0 := by
      intro m f
      induction m with
      | zero => intro _; rfl
      | succ m ih => intro h; rw [sumN_s, ih fun i hi => h i (by omega), h m (by omega)]
    exact this _ _ fun i _ => by split <;> rfl
  | succ n ih =>
    rw [cntN_s, ← ih fun w hw => hn w (by omega)]
    have one : ∀ (l : List Int64) (x : Int64), l.Nodup → sumN l.length (fun k => if p (l.getD k 0) = true ∧ x = l.getD k 0 then 1 else 0) = if x ∈ l ∧ p x = true then 1 else 0 := by
      intro l x
      induction l with
      | nil => intro _; rfl
      | cons a l ihl =>
        intro hnd
        rw [List.nodup_cons] at hnd
        have hf : ∀ m (f : Nat → Nat), sumN (m + 1) f = f 0 + sumN m (fun i => f (i + 1)) := by
          intro m f
          induction m with
          | zero => rw [sumN_s, sumN_0, sumN_0]; omega
          | succ m ihm => rw [sumN_s, ihm, sumN_s]; omega
        rw [List.length_cons, hf]
        have e2 : sumN l.length (fun i => if p ((a :: l).getD (i + 1) 0) = true ∧ x = (a :: l).getD (i + 1) 0 then 1 else 0) = if x ∈ l ∧ p x = true then 1 else 0 := ihl hnd.2
        rw [e2]
        show (if p a = true ∧ x = a then 1 else 0) + _ = _
        by_cases hx : x = a
        · subst hx
          by_cases hp : p x = true <;> simp [hp, hnd.1]
        · simp [hx]
    have key : ∀ k, (if p (L.getD k 0) = true then cntN (n + 1) (fun w => dMay d w && decide (lst d w = L.getD k 0)) else 0) = (if p (L.getD k 0) = true then cntN n (fun w => dMay d w && decide (lst d w = L.getD k 0)) else 0) + (if dMay d n = true then (if p (L.getD k 0) = true ∧ lst d n = L.getD k 0 then 1 else 0) else 0) := by
      intro k
      rw [cntN_s]
      by_cases h1 : p (L.getD k 0) = true
      · rw [if_pos h1, if_pos h1]
        generalize L.getD k 0 = y at h1 ⊢
        cases dMay d n <;> simp [h1]
      · rw [if_neg h1, if_neg h1]
        generalize L.getD k 0 = y at h1 ⊢
        simp [h1]
    rw [sumN_congr fun k _ => key k, sumN_add]
    congr 1
    by_cases hm : dMay d n = true
    · simp only [hm, if_true, Bool.true_and]
      rw [one L _ hL]
      simp [hn n (by omega) hm]
    · have : ∀ m, sumN m (fun _ => 0) = 0 := by
        intro m
        induction m with
        | zero => rfl
        | succ m ih => rw [sumN_s, ih]
      simp [hm, this]
/-- the weights left are those of the lists left -/
theorem wLf_cnt (d : TD) (b : BD) : wLf d b = cntN (dW d) (lfW d b) := cnt_lst (d := d) (fitL b) (dW d) (LLd d) (LLs_nodup d _) (fun _ hw hm => LLs_has hw hm)
theorem wLf_le (d : TD) (b : BD) : wLf d b ≤ dW d := by rw [wLf_cnt]; exact cntN_le _ _
theorem sh_wLf {d : TD} {b : BD} {i : Nat} (hi : i < nLf d b) : sh d (lf d b i) ≤ wLf d b := by
  rw [wLf_eq]
  have : ∀ n (f : Nat → Nat), i < n → f i ≤ sumN n f := by
    intro n f
    induction n with
    | zero => intro h; omega
    | succ n ih =>
      intro h
      rw [sumN_s]
      by_cases e : i = n
      · subst e; omega
      · have := ih (by omega); omega
  exact this _ (fun i => sh d (lf d b i)) hi
/-! what some and all of them ring -/
theorem bt_som (d : TD) (b : BD) (n s : Nat) : bt (som d b n) s = anyN n (fun k => fitK d b k && bt (LL d k) s) := by
  induction n with
  | zero => exact bt_0 s
  | succ n ih =>
    rw [anyN_s, som]
    by_cases h : fitK d b n = true
    · rw [if_pos h, bt_or, ih, h]; rfl
    · rw [if_neg h, ih]; simp [h]
theorem bt_evr (d : TD) (b : BD) (n : Nat) {s : Nat} (hs : s < 64) : bt (evr d b n) s = !anyN n (fun k => fitK d b k && !bt (LL d k) s) := by
  induction n with
  | zero => exact bt_m1 hs
  | succ n ih =>
    rw [anyN_s, evr]
    by_cases h : fitK d b n = true
    · rw [if_pos h, bt_and, ih, h]; simp
    · rw [if_neg h, ih]; simp [h]
theorem sure_cl (d : TD) (b : BD) {s : Nat} (hs : s < 64) (h0 : nLf d b ≠ 0) : sur (cntN (nLf d b) (fun i => bt (xL d b i) s)) (nLf d b) = if bt (evr d b (NL d)) s = true then 1 else if bt (som d b (NL d)) s = true then 2 else 0 := by
  unfold sur
  rw [if_neg h0, bt_som, bt_evr _ _ _ hs]
  have e : cntN (nLf d b) (fun i => bt (xL d b i) s) = cntN (NL d) (fun k => fitK d b k && bt (LL d k) s) := cnt_flt (fitK d b) (fun k => bt (LL d k) s) (NL d)
  by_cases h1 : cntN (nLf d b) (fun i => bt (xL d b i) s) = nLf d b
  · rw [if_pos h1, if_pos]
    rw [Bool.not_eq_true']
    cases q : anyN (NL d) (fun k => fitK d b k && !bt (LL d k) s)
    · rfl
    · obtain ⟨k, hk, hp⟩ := anyN_iff.mp q
      rw [Bool.and_eq_true] at hp
      obtain ⟨i, hi, ei⟩ := flt_has hk hp.1
      have := cntN_eq_all h1 i hi
      have e2 : xL d b i = LL d k := congrArg (LL d) ei
      rw [e2] at this
      rw [this] at hp
      exact absurd hp.2 (by decide)
  · rw [if_neg h1]
    have : anyN (NL d) (fun k => fitK d b k && !bt (LL d k) s) = true := by
      cases q : anyN (NL d) (fun k => fitK d b k && !bt (LL d k) s)
      · exfalso
        apply h1
        apply cntN_all
        intro i hi
        cases r : bt (xL d b i) s
        · have : anyN (NL d) (fun k => fitK d b k && !bt (LL d k) s) = true := anyN_iff.mpr ⟨lf d b i, lf_lt hi, by
            show (fitK d b (lf d b i) && !bt (xL d b i) s) = true
            rw [r, show fitK d b (lf d b i) = true from (flt_mem hi).2]; rfl⟩
          rw [q] at this; cases this
        · rfl
      · rfl
    have t2 : anyN (NL d) (fun k => fitK d b k && bt (LL d k) s) = decide (cntN (nLf d b) (fun i => bt (xL d b i) s) ≠ 0) := by unfold anyN; rw [← e]
    rw [this, t2]
    by_cases h2 : cntN (nLf d b) (fun i => bt (xL d b i) s) = 0
    · simp [h2]
    · simp [h2]
