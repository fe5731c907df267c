/-! ===== what is left by the book ===== -/
theorem cntN_ext {n N : Nat} {p : Nat → Bool} (h : n ≤ N) (hp : ∀ i, n ≤ i → i < N → p i = false) : cntN N p = cntN n p := by
  induction N with
  | zero => obtain rfl : n = 0 := (by omega)
            rfl
  | succ N ih =>
    by_cases e : n = N + 1
    · rw [e]
    · rw [cntN_s, ih (by omega) fun i h1 h2 => hp i h1 (by omega), hp N (by omega) (by omega)]; rfl
theorem or0 (x : Int64) : x ||| 0 = x := bt_ext fun s _ => by rw [bt_or, bt_0, Bool.or_false]
def tol (b : BD) (r : Bool) (lag : Nat) : Nat → Int64
  | 0 => 0
  | i + 1 => if lag ≤ i ∧ tR b i = r then tol b r lag i ||| b1 (tS b (i - lag)) else tol b r lag i
def must (b : BD) : Int64 := tol b true 0 (nT b)
def mustN (b : BD) : Int64 := tol b false 0 (nT b)
def fitT (b : BD) (x : Int64) : Bool := decide (x &&& mustN b = 0) && decide ((x ^^^ (-1)) &&& must b = 0)
def cntS (x : Int64) (k : Nat) : Nat := cntN 64 (fun s => bt x s && decide (pc6 s = k))
def pcl (x : Int64) : Nat := cntN 64 (bt x)
def allN : Nat → (Nat → Bool) → Bool
  | 0, _ => true
  | n + 1, p => allN n p && p n
theorem allN_iff {n : Nat} {p : Nat → Bool} : allN n p = true ↔ ∀ i, i < n → p i = true := by
  induction n with
  | zero => exact ⟨fun _ i hi => by omega, fun _ => rfl⟩
  | succ n ih =>
    unfold allN
    rw [Bool.and_eq_true, ih]
    constructor
    · rintro ⟨h1, h2⟩ i hi
      by_cases e : i = n
      · rw [e]; exact h2
      · exact h1 i (by omega)
    · intro h; exact ⟨fun i hi => h i (by omega), h n (by omega)⟩
def fitH (b : BD) (x : Int64) : Bool := allN (nH b) (fun j => decide (cntS x (hS b j) = hN b j))
def fitL (b : BD) (x : Int64) : Bool := fitT b x && fitH b x
def fitK (d : TD) (b : BD) (k : Nat) : Bool := fitL b (LL d k)
def flt (p : Nat → Bool) (n : Nat) : List Nat := (List.range n).filter p
theorem flt_0 (p : Nat → Bool) : flt p 0 = [] := rfl
theorem flt_s (p : Nat → Bool) (n : Nat) : flt p (n + 1) = if p n = true then flt p n ++ [n] else flt p n := by
  unfold flt
  rw [List.range_succ, List.filter_append]
  by_cases h : p n = true
  · rw [if_pos h, List.filter_cons_of_pos h]; rfl
  · rw [if_neg h, List.filter_cons_of_neg h]; simp
theorem flt_le (p : Nat → Bool) (n : Nat) : (flt p n).length ≤ n := by
  induction n with
  | zero => exact Nat.le_refl _
  | succ n ih =>
    rw [flt_s]; split
    · rw [List.length_append, List.length_singleton]; omega
    · omega
theorem flt_len (p : Nat → Bool) (n : Nat) : (flt p n).length = cntN n p := by
  induction n with
  | zero => rfl
  | succ n ih => rw [flt_s, cntN_s]; split <;> simp [ih]
def lefts (d : TD) (b : BD) : List Nat := flt (fitK d b) (NL d)
def nLf (d : TD) (b : BD) : Nat := (lefts d b).length
def lf (d : TD) (b : BD) (i : Nat) : Nat := (lefts d b).getD i 0
def wLf (d : TD) (b : BD) : Nat := sumN (NL d) (fun k => if fitK d b k = true then sh d k else 0)
def Row (f : Nat → Int32) (l : List Nat) : Prop := ∀ i, i < l.length → f i = iI (l.getD i 0 : Int)
theorem Row_nil (f : Nat → Int32) : Row f [] := fun i hi => absurd hi (Nat.not_lt_zero i)
theorem getD_app1 {α : Type} (l : List α) (x e : α) {i : Nat} (h : i < l.length) : (l ++ [x]).getD i e = l.getD i e := by
  rw [List.getD_eq_getElem?_getD, List.getD_eq_getElem?_getD, List.getElem?_append_left h]
theorem getD_app2 {α : Type} (l : List α) (x e : α) : (l ++ [x]).getD l.length e = x := by
  rw [List.getD_eq_getElem?_getD, List.getElem?_append_right (Nat.le_refl _), Nat.sub_self]; rfl
theorem Row_app {f g : Nat → Int32} {l : List Nat} {k : Nat} (h : Row f l) (hg : ∀ i, g i = if i = l.length then iI (k : Int) else f i) : Row g (l ++ [k]) := by
  intro i hi
  rw [List.length_append, List.length_singleton] at hi
  rw [hg i]
  by_cases e : i = l.length
  · rw [if_pos e, e, getD_app2]
  · rw [if_neg e, getD_app1 _ _ _ (by omega)]; exact h i (by omega)
/-! lists ring nothing beyond the sets that there are -/
def low (d : TD) (x : Int64) : Prop := ∀ s, sN d ≤ s → bt x s = false
theorem lst_low {d : TD} (hd : wfD d) (w : Nat) : low d (lst d w) := fun s hs => by
  unfold lst; rw [bt_mkB (sN_le hd), decide_eq_false (by omega)]; rfl
theorem bt_lst {d : TD} (hd : wfD d) (w : Nat) {s : Nat} (hs : s < sN d) : bt (lst d w) s = ringsAt d w s := by
  unfold lst; rw [bt_mkB (sN_le hd), decide_eq_true hs]; rfl
theorem LLs_mem {d : TD} {n : Nat} {x : Int64} (h : x ∈ LLs d n) : ∃ w, w < n ∧ dMay d w = true ∧ x = lst d w := by
  induction n with
  | zero => cases h
  | succ n ih =>
    unfold LLs at h
    split at h
    · rename_i q
      rcases List.mem_append.mp h with h | h
      · obtain ⟨w, h1, h2⟩ := ih h; exact ⟨w, by omega, h2⟩
      · exact ⟨n, by omega, q.1, List.mem_singleton.mp h⟩
    · obtain ⟨w, h1, h2⟩ := ih h; exact ⟨w, by omega, h2⟩
theorem LLs_has {d : TD} {n w : Nat} (hw : w < n) (hm : dMay d w = true) : lst d w ∈ LLs d n := by
  induction n with
  | zero => omega
  | succ n ih =>
    unfold LLs
    by_cases e : w = n
    · subst e
      split
      · exact List.mem_append_right _ (List.mem_singleton.mpr rfl)
      · rename_i q; exact Classical.byContradiction fun z => q ⟨hm, z⟩
    · have := ih (by omega)
      split
      · exact List.mem_append_left _ this
      · exact this
theorem LLs_nodup (d : TD) (n : Nat) : (LLs d n).Nodup := by
  induction n with
  | zero => exact List.nodup_nil
  | succ n ih =>
    unfold LLs
    split
    · rename_i q
      rw [List.nodup_append]
      refine ⟨ih, by simp, ?_⟩
      intro a ha c hc
      rw [List.mem_singleton.mp hc]
      intro e; subst e; exact q.2 ha
    · exact ih
theorem LLs_len (d : TD) (n : Nat) : (LLs d n).length ≤ n := by
  induction n with
  | zero => exact Nat.le_refl _
  | succ n ih =>
    unfold LLs; split
    · rw [List.length_append, List.length_singleton]; omega
    · omega
theorem NL_le (d : TD) : NL d ≤ dW d := LLs_len d _
theorem LL_mem {d : TD} {k : Nat} (h : k < NL d) : LL d k ∈ LLd d := by
  unfold LL; rw [List.getD_eq_getElem?_getD, List.getElem?_eq_getElem h]; exact List.getElem_mem h
theorem LL_low {d : TD} (hd : wfD d) (k : Nat) : low d (LL d k) := by
  by_cases h : k < NL d
  · obtain ⟨w, _, _, e⟩ := LLs_mem (LL_mem h); rw [e]; exact lst_low hd w
  · unfold LL; rw [List.getD_eq_getElem?_getD, List.getElem?_eq_none (by unfold NL at h; omega)]; intro s _; exact bt_0 s
theorem cntS_low {d : TD} (hd : wfD d) {x : Int64} (h : low d x) (k : Nat) : cntN (sN d) (fun s => bt x s && decide (pc6 s = k)) = cntS x k := (cntN_ext (sN_le hd) fun i h1 _ => by rw [h i h1]; rfl).symm
theorem pcl_low {d : TD} (hd : wfD d) {x : Int64} (h : low d x) : cntN (sN d) (bt x) = pcl x := (cntN_ext (sN_le hd) fun i h1 _ => by rw [h i h1]).symm
theorem fitT_iff (b : BD) (x : Int64) : ((x &&& must b) = must b) ↔ ((x ^^^ (-1)) &&& must b = 0) := by
  constructor
  · intro h
    apply bt_z.mpr
    intro s hs
    rw [bt_and, bt_not x hs]
    have := congrArg (fun z => bt z s) h
    simp only [bt_and] at this
    cases q : bt x s <;> cases q2 : bt (must b) s <;> simp_all
  · intro h
    apply bt_ext
    intro s hs
    rw [bt_and]
    have := (bt_z.mp h) s hs
    rw [bt_and, bt_not x hs] at this
    cases q : bt x s <;> cases q2 : bt (must b) s <;> simp_all
theorem sh_le (d : TD) (k : Nat) : sh d k ≤ dW d := cntN_le _ _
