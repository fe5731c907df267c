/-! ===== a heap with a table of new objects behind it ===== -/
abbrev Ent : Type := Nat × Nat × List (Nat × Nat) × List (Nat × Int32) × List (Nat × Int64)
abbrev TBx : Type := List Ent
def enD : Ent := (0, 0, [], [], [])
def ent (T : TBx) (i : Nat) : Ent := T.getD i enD
def fdL {α : Type} (l : List (Nat × α)) (j : Nat) (v : α) : α := match l with
  | [] => v
  | q :: l => if q.1 = j then q.2 else fdL l j v
def mdf : TBx → Nat → (Ent → Ent) → TBx
  | [], _, _ => []
  | e :: T, 0, g => g e :: T
  | e :: T, i + 1, g => e :: mdf T i g
def adR (f r : Nat) (e : Ent) : Ent := (e.1, e.2.1, (f, r + 1) :: e.2.2.1, e.2.2.2.1, e.2.2.2.2)
def adI (f : Nat) (v : Int32) (e : Ent) : Ent := (e.1, e.2.1, e.2.2.1, (f, v) :: e.2.2.2.1, e.2.2.2.2)
def adL (f : Nat) (v : Int64) (e : Ent) : Ent := (e.1, e.2.1, e.2.2.1, e.2.2.2.1, (f, v) :: e.2.2.2.2)
def suN (T : TBx) : Nat := T.foldl (fun s e => s + e.2.1) 0
def inT (σ : AM) (T : TBx) (b : Nat) : Prop := aZ σ ≤ b ∧ b < aZ σ + T.length
theorem mdf_len (T : TBx) : ∀ i g, (mdf T i g).length = T.length := by
  induction T with
  | nil => intro i g; rfl
  | cons e T ih =>
    intro i g
    cases i with
    | zero => rfl
    | succ i => show (mdf T i g).length + 1 = T.length + 1; rw [ih]
theorem mdf_ent (T : TBx) : ∀ i g k, i < T.length → ent (mdf T i g) k = if k = i then g (ent T i) else ent T k := by
  induction T with
  | nil => intro i g k h; exact absurd h (Nat.not_lt_zero i)
  | cons e T ih =>
    intro i g k h
    cases i with
    | zero =>
      cases k with
      | zero => rfl
      | succ k => rfl
    | succ i =>
      cases k with
      | zero => rfl
      | succ k =>
        show ent (mdf T i g) k = if k + 1 = i + 1 then g (ent T i) else ent T k
        rw [ih i g k (by simpa using h)]
        by_cases c : k = i
        · rw [if_pos c, if_pos (by omega)]
        · rw [if_neg c, if_neg (by omega)]
theorem app_ent (T : TBx) (e : Ent) (k : Nat) : ent (T ++ [e]) k = if k = T.length then e else if k < T.length then ent T k else enD := by
  unfold ent
  by_cases c : k = T.length
  · rw [if_pos c, c, getD_app2]
  · rw [if_neg c]
    by_cases d : k < T.length
    · rw [if_pos d, getD_app1 _ _ _ d]
    · rw [if_neg d, List.getD_eq_getElem?_getD, List.getElem?_eq_none (by rw [List.length_append, List.length_singleton]; omega)]; rfl
def rfA (z : Nat) : Nat → Nat
  | 0 => 0
  | r + 1 => z + r
def hpx (σ : AM) (T : TBx) : AM := (fun b j => if aZ σ ≤ b ∧ b < aZ σ + T.length then fdL (ent T (b - aZ σ)).2.2.2.1 j 0 else σ.1 b j, fun b j => if aZ σ ≤ b ∧ b < aZ σ + T.length then fdL (ent T (b - aZ σ)).2.2.2.2 j 0 else σ.2.1 b j, fun b j => if aZ σ ≤ b ∧ b < aZ σ + T.length then (rfA (aZ σ) (fdL (ent T (b - aZ σ)).2.2.1 j 0)) else σ.2.2.1 b j, fun b => if aZ σ ≤ b ∧ b < aZ σ + T.length then (ent T (b - aZ σ)).1 else aK σ b, fun b => if aZ σ ≤ b ∧ b < aZ σ + T.length then (ent T (b - aZ σ)).2.1 else aN σ b, aZ σ + T.length, aU σ + suN T)
theorem hx_0 (σ : AM) : hpx σ [] = σ := by
  have no : ∀ b, ¬ (aZ σ ≤ b ∧ b < aZ σ + ([] : TBx).length) := fun b h => by
    have := h.2
    rw [List.length_nil] at this
    omega
  unfold hpx
  refine Prod.ext ?_ (Prod.ext ?_ (Prod.ext ?_ (Prod.ext ?_ (Prod.ext ?_ rfl))))
  · funext b j; exact if_neg (no b)
  · funext b j; exact if_neg (no b)
  · funext b j; exact if_neg (no b)
  · funext b; exact if_neg (no b)
  · funext b; exact if_neg (no b)
theorem suN_app (T : TBx) (e : Ent) : suN (T ++ [e]) = suN T + e.2.1 := by unfold suN; rw [List.foldl_append]; rfl
theorem hx_nw (σ : AM) (T : TBx) (kd n : Nat) : nw (hpx σ T) kd n = hpx σ (T ++ [(kd, n, [], [], [])]) := by
  have hl : (T ++ [((kd, n, [], [], []) : Ent)]).length = T.length + 1 := by rw [List.length_append]; rfl
  have key : ∀ {α : Type} (b : Nat) (f : Ent → α) (d : α) (x : α), f (kd, n, [], [], []) = d → (if b = aZ σ + T.length then d else (if aZ σ ≤ b ∧ b < aZ σ + T.length then f (ent T (b - aZ σ)) else x)) = (if aZ σ ≤ b ∧ b < aZ σ + (T ++ [((kd, n, [], [], []) : Ent)]).length then f (ent (T ++ [((kd, n, [], [], []) : Ent)]) (b - aZ σ)) else x) := by
    intro α b f d x hd
    rw [hl, app_ent]
    by_cases c : b = aZ σ + T.length
    · rw [if_pos c, if_pos (by omega), if_pos (by omega), hd]
    · rw [if_neg c]
      by_cases e : aZ σ ≤ b ∧ b < aZ σ + T.length
      · rw [if_pos e, if_pos (by omega), if_neg (by omega), if_pos (by omega)]
      · rw [if_neg e, if_neg (by omega)]
  unfold nw
  refine Prod.ext ?_ (Prod.ext ?_ (Prod.ext ?_ (Prod.ext ?_ (Prod.ext ?_ (Prod.ext ?_ ?_)))))
  · funext b j; exact key b (fun e => fdL e.2.2.2.1 j 0) 0 _ rfl
  · funext b j; exact key b (fun e => fdL e.2.2.2.2 j 0) 0 _ rfl
  · funext b j; exact key b (fun e => rfA (aZ σ) (fdL e.2.2.1 j 0)) 0 _ rfl
  · funext b; exact key b (fun e => e.1) kd _ rfl
  · funext b; exact key b (fun e => e.2.1) n _ rfl
  · show aZ σ + T.length + 1 = aZ σ + (T ++ [((kd, n, [], [], []) : Ent)]).length
    rw [hl]; rfl
  · show aU σ + suN T + n = aU σ + suN (T ++ [((kd, n, [], [], []) : Ent)])
    rw [suN_app]; exact Nat.add_assoc _ _ _
theorem suN_mdf (g : Ent → Ent) (hg : ∀ e, (g e).2.1 = e.2.1) (T : TBx) (i : Nat) : suN (mdf T i g) = suN T := by
  have : ∀ (T : TBx) (i s : Nat), (mdf T i g).foldl (fun s e => s + e.2.1) s = T.foldl (fun s e => s + e.2.1) s := by
    intro T
    induction T with
    | nil => intro i s; rfl
    | cons e T ih =>
      intro i s
      cases i with
      | zero => show T.foldl _ (s + (g e).2.1) = T.foldl _ (s + e.2.1); rw [hg]
      | succ i => exact ih i (s + e.2.1)
  exact this T i 0
theorem key_m {α : Type} (σ : AM) (T : TBx) {i : Nat} (hi : i < T.length) (g : Ent → Ent) (b : Nat) (f : Ent → α) (x : α) : (if aZ σ ≤ b ∧ b < aZ σ + (mdf T i g).length then f (ent (mdf T i g) (b - aZ σ)) else x) = if b = aZ σ + i then f (g (ent T i)) else (if aZ σ ≤ b ∧ b < aZ σ + T.length then f (ent T (b - aZ σ)) else x) := by
  rw [mdf_len, mdf_ent _ _ _ _ hi]
  by_cases c : b = aZ σ + i
  · rw [if_pos c, if_pos (by omega), if_pos (by omega)]
  · rw [if_neg c]
    by_cases e : aZ σ ≤ b ∧ b < aZ σ + T.length
    · rw [if_pos e, if_pos e, if_neg (by omega)]
    · rw [if_neg e, if_neg e]
theorem key_p {α : Type} (σ : AM) (T : TBx) {i : Nat} (hi : i < T.length) (g : Ent → Ent) (b : Nat) (f : Ent → α) (x : α) (h : f (g (ent T i)) = f (ent T i)) : (if aZ σ ≤ b ∧ b < aZ σ + T.length then f (ent T (b - aZ σ)) else x) = (if aZ σ ≤ b ∧ b < aZ σ + (mdf T i g).length then f (ent (mdf T i g) (b - aZ σ)) else x) := by
  rw [key_m σ T hi]
  by_cases c : b = aZ σ + i
  · rw [if_pos c, h, if_pos (by omega), show b - aZ σ = i by omega]
  · rw [if_neg c]
theorem hx_sI (σ : AM) (T : TBx) {i : Nat} (hi : i < T.length) (f : Nat) (v : Int32) : sI (hpx σ T) (aZ σ + i) f v = hpx σ (mdf T i (adI f v)) := by
  unfold sI
  refine Prod.ext ?_ (Prod.ext ?_ (Prod.ext ?_ (Prod.ext ?_ (Prod.ext ?_ (Prod.ext ?_ ?_)))))
  · funext b j
    show (if b = aZ σ + i ∧ j = f then v else (if aZ σ ≤ b ∧ b < aZ σ + T.length then fdL (ent T (b - aZ σ)).2.2.2.1 j 0 else σ.1 b j)) = (if aZ σ ≤ b ∧ b < aZ σ + (mdf T i (adI f v)).length then fdL (ent (mdf T i (adI f v)) (b - aZ σ)).2.2.2.1 j 0 else σ.1 b j)
    rw [key_m σ T hi (adI f v) b (fun e => fdL e.2.2.2.1 j 0)]
    by_cases c : b = aZ σ + i
    · rw [if_pos c]
      show _ = (if f = j then v else fdL (ent T i).2.2.2.1 j 0)
      by_cases e : j = f
      · rw [if_pos ⟨c, e⟩, if_pos e.symm]
      · rw [if_neg (show ¬ (b = aZ σ + i ∧ j = f) from fun h => e h.2), if_neg (show ¬ f = j from fun h => e h.symm), if_pos (show aZ σ ≤ b ∧ b < aZ σ + T.length by omega), show b - aZ σ = i by omega]
    · rw [if_neg c, if_neg (fun h => c h.1)]
  · funext b j; exact key_p σ T hi (adI f v) b (fun e => fdL e.2.2.2.2 j 0) _ rfl
  · funext b j; exact key_p σ T hi (adI f v) b (fun e => rfA (aZ σ) (fdL e.2.2.1 j 0)) _ rfl
  · funext b; exact key_p σ T hi (adI f v) b (fun e => e.1) _ rfl
  · funext b; exact key_p σ T hi (adI f v) b (fun e => e.2.1) _ rfl
  · show aZ σ + T.length = aZ σ + (mdf T i (adI f v)).length; rw [mdf_len]
  · show aU σ + suN T = aU σ + suN (mdf T i (adI f v)); rw [suN_mdf (adI f v) (fun _ => rfl)]
theorem hx_sL (σ : AM) (T : TBx) {i : Nat} (hi : i < T.length) (f : Nat) (v : Int64) : sL (hpx σ T) (aZ σ + i) f v = hpx σ (mdf T i (adL f v)) := by
  unfold sL
  refine Prod.ext ?_ (Prod.ext ?_ (Prod.ext ?_ (Prod.ext ?_ (Prod.ext ?_ (Prod.ext ?_ ?_)))))
  · funext b j; exact key_p σ T hi (adL f v) b (fun e => fdL e.2.2.2.1 j 0) _ rfl
  · funext b j
    show (if b = aZ σ + i ∧ j = f then v else (if aZ σ ≤ b ∧ b < aZ σ + T.length then fdL (ent T (b - aZ σ)).2.2.2.2 j 0 else σ.2.1 b j)) = (if aZ σ ≤ b ∧ b < aZ σ + (mdf T i (adL f v)).length then fdL (ent (mdf T i (adL f v)) (b - aZ σ)).2.2.2.2 j 0 else σ.2.1 b j)
    rw [key_m σ T hi (adL f v) b (fun e => fdL e.2.2.2.2 j 0)]
    by_cases c : b = aZ σ + i
    · rw [if_pos c]
      show _ = (if f = j then v else fdL (ent T i).2.2.2.2 j 0)
      by_cases e : j = f
      · rw [if_pos ⟨c, e⟩, if_pos e.symm]
      · rw [if_neg (show ¬ (b = aZ σ + i ∧ j = f) from fun h => e h.2), if_neg (show ¬ f = j from fun h => e h.symm), if_pos (show aZ σ ≤ b ∧ b < aZ σ + T.length by omega), show b - aZ σ = i by omega]
    · rw [if_neg c, if_neg (fun h => c h.1)]
  · funext b j; exact key_p σ T hi (adL f v) b (fun e => rfA (aZ σ) (fdL e.2.2.1 j 0)) _ rfl
  · funext b; exact key_p σ T hi (adL f v) b (fun e => e.1) _ rfl
  · funext b; exact key_p σ T hi (adL f v) b (fun e => e.2.1) _ rfl
  · show aZ σ + T.length = aZ σ + (mdf T i (adL f v)).length; rw [mdf_len]
  · show aU σ + suN T = aU σ + suN (mdf T i (adL f v)); rw [suN_mdf (adL f v) (fun _ => rfl)]
theorem hx_sR (σ : AM) (T : TBx) {i : Nat} (hi : i < T.length) (f r : Nat) : sR (hpx σ T) (aZ σ + i) f (aZ σ + r) = hpx σ (mdf T i (adR f r)) := by
  unfold sR
  refine Prod.ext ?_ (Prod.ext ?_ (Prod.ext ?_ (Prod.ext ?_ (Prod.ext ?_ (Prod.ext ?_ ?_)))))
  · funext b j; exact key_p σ T hi (adR f r) b (fun e => fdL e.2.2.2.1 j 0) _ rfl
  · funext b j; exact key_p σ T hi (adR f r) b (fun e => fdL e.2.2.2.2 j 0) _ rfl
  · funext b j
    show (if b = aZ σ + i ∧ j = f then aZ σ + r else (if aZ σ ≤ b ∧ b < aZ σ + T.length then (rfA (aZ σ) (fdL (ent T (b - aZ σ)).2.2.1 j 0)) else σ.2.2.1 b j)) = (if aZ σ ≤ b ∧ b < aZ σ + (mdf T i (adR f r)).length then (rfA (aZ σ) (fdL (ent (mdf T i (adR f r)) (b - aZ σ)).2.2.1 j 0)) else σ.2.2.1 b j)
    rw [key_m σ T hi (adR f r) b (fun e => rfA (aZ σ) (fdL e.2.2.1 j 0))]
    by_cases c : b = aZ σ + i
    · rw [if_pos c]
      show _ = (rfA (aZ σ) ((if f = j then r + 1 else fdL (ent T i).2.2.1 j 0)))
      by_cases e : j = f
      · rw [if_pos ⟨c, e⟩, if_pos e.symm]; rfl
      · rw [if_neg (show ¬ (b = aZ σ + i ∧ j = f) from fun h => e h.2), if_neg (show ¬ f = j from fun h => e h.symm), if_pos (show aZ σ ≤ b ∧ b < aZ σ + T.length by omega), show b - aZ σ = i by omega]
    · rw [if_neg c, if_neg (fun h => c h.1)]
  · funext b; exact key_p σ T hi (adR f r) b (fun e => e.1) _ rfl
  · funext b; exact key_p σ T hi (adR f r) b (fun e => e.2.1) _ rfl
  · show aZ σ + T.length = aZ σ + (mdf T i (adR f r)).length; rw [mdf_len]
  · show aU σ + suN T = aU σ + suN (mdf T i (adR f r)); rw [suN_mdf (adR f r) (fun _ => rfl)]
theorem hx_K (σ : AM) (T : TBx) {i : Nat} (hi : i < T.length) : aK (hpx σ T) (aZ σ + i) = (ent T i).1 := by
  show (if aZ σ ≤ aZ σ + i ∧ aZ σ + i < aZ σ + T.length then (ent T (aZ σ + i - aZ σ)).1 else _) = _
  rw [if_pos (by omega), Nat.add_sub_cancel_left]
theorem hx_N (σ : AM) (T : TBx) {i : Nat} (hi : i < T.length) : aN (hpx σ T) (aZ σ + i) = (ent T i).2.1 := by
  show (if aZ σ ≤ aZ σ + i ∧ aZ σ + i < aZ σ + T.length then (ent T (aZ σ + i - aZ σ)).2.1 else _) = _
  rw [if_pos (by omega), Nat.add_sub_cancel_left]
theorem hx_I (σ : AM) (T : TBx) {i : Nat} (hi : i < T.length) (j : Nat) : aI (hpx σ T) (aZ σ + i) j = fdL (ent T i).2.2.2.1 j 0 := by
  show (if aZ σ ≤ aZ σ + i ∧ aZ σ + i < aZ σ + T.length then fdL (ent T (aZ σ + i - aZ σ)).2.2.2.1 j 0 else _) = _
  rw [if_pos (by omega), Nat.add_sub_cancel_left]
theorem hx_L (σ : AM) (T : TBx) {i : Nat} (hi : i < T.length) (j : Nat) : aL (hpx σ T) (aZ σ + i) j = fdL (ent T i).2.2.2.2 j 0 := by
  show (if aZ σ ≤ aZ σ + i ∧ aZ σ + i < aZ σ + T.length then fdL (ent T (aZ σ + i - aZ σ)).2.2.2.2 j 0 else _) = _
  rw [if_pos (by omega), Nat.add_sub_cancel_left]
theorem hx_R (σ : AM) (T : TBx) {i : Nat} (hi : i < T.length) {j r : Nat} (h : fdL (ent T i).2.2.1 j 0 = r + 1) : aR (hpx σ T) (aZ σ + i) j = aZ σ + r := by
  show (if aZ σ ≤ aZ σ + i ∧ aZ σ + i < aZ σ + T.length then (rfA (aZ σ) (fdL (ent T (aZ σ + i - aZ σ)).2.2.1 j 0)) else _) = _
  rw [if_pos (by omega), Nat.add_sub_cancel_left, h]; rfl
theorem hx_ok (σ : AM) (T : TBx) {i k : Nat} (hi : i < T.length) (h : (ent T i).1 = k) : okO (hpx σ T) (aZ σ + i) k = true := okO_of (by rw [hx_K σ T hi]; exact h)
