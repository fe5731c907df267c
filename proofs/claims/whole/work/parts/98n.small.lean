/-! ===== the smallest weights that do it ===== -/
theorem wtS_mono {f : Nat → Nat} {r s : Nat} (h : r &&& s = r) : wtS f r ≤ wtS f s := sumN_mono fun i _ => by
  have : r.testBit i = (r.testBit i && s.testBit i) := by
    have := congrArg (fun x => x.testBit i) h
    simp only [Nat.testBit_and] at this
    exact this.symm
  by_cases q1 : r.testBit i = true
  · rw [q1, Bool.true_and] at this
    rw [if_pos q1, if_pos this.symm]; exact Nat.le_refl _
  · rw [if_neg q1]; exact Nat.zero_le _
def blN (d : TD) (no : Int64) (w : Nat) : Nat → Nat
  | 0 => 0
  | k + 1 => if bt no k = true ∧ blN d no w k < wtS (dg d w) k then wtS (dg d w) k else blN d no w k
def abN (d : TD) (yes : Int64) (w : Nat) : Nat → Nat
  | 0 => 1000
  | k + 1 => if bt yes k = true ∧ wtS (dg d w) k < abN d yes w k then wtS (dg d w) k else abN d yes w k
def suW (d : TD) (w : Nat) : Nat := wtS (dg d w) (sN d - 1)
def bl (d : TD) (no : Int64) (w : Nat) : Nat := blN d no w (sN d)
def gdW (d : TD) (yes no : Int64) (w : Nat) : Bool := decide (bl d no w + 1 ≤ abN d yes w (sN d))
abbrev SR : Type := Option (Nat × Nat × Nat)
def smT (o : SR) (x : Nat × Nat × Nat) : SR := match o with
  | none => some x
  | some y => if x.1 < y.1 ∨ (x.1 = y.1 ∧ x.2.1 < y.2.1) then some x else some y
def smF (d : TD) (yes no : Int64) : Nat → SR
  | 0 => none
  | w + 1 => if gdW d yes no w = true then smT (smF d yes no w) (suW d w, bl d no w + 1, w) else smF d yes no w
theorem blN_le {d : TD} (hd : wfD d) (no : Int64) (w k : Nat) : blN d no w k ≤ 60 := by
  induction k with
  | zero => exact Nat.zero_le _
  | succ k ih => unfold blN; have := wts_le hd w k; split <;> omega
theorem abN_le {d : TD} (hd : wfD d) (yes : Int64) (w k : Nat) : abN d yes w k ≤ 1000 := by
  induction k with
  | zero => exact Nat.le_refl _
  | succ k ih => unfold abN; have := wts_le hd w k; split <;> omega
theorem blN_ge {d : TD} {no : Int64} {w k s : Nat} (h : s < k) (hb : bt no s = true) : wtS (dg d w) s ≤ blN d no w k := by
  induction k with
  | zero => omega
  | succ k ih =>
    unfold blN
    by_cases e : s = k
    · subst e
      by_cases c : blN d no w s < wtS (dg d w) s
      · rw [if_pos ⟨hb, c⟩]; exact Nat.le_refl _
      · rw [if_neg (fun z => c z.2)]; omega
    · have := ih (by omega)
      split
      · rename_i z; omega
      · exact this
theorem blN_at (d : TD) (no : Int64) (w k : Nat) : blN d no w k = 0 ∨ ∃ s, s < k ∧ bt no s = true ∧ blN d no w k = wtS (dg d w) s := by
  induction k with
  | zero => exact Or.inl rfl
  | succ k ih =>
    unfold blN
    by_cases c : bt no k = true ∧ blN d no w k < wtS (dg d w) k
    · rw [if_pos c]; exact Or.inr ⟨k, by omega, c.1, rfl⟩
    · rw [if_neg c]
      rcases ih with h | ⟨s, h1, h2⟩
      · exact Or.inl h
      · exact Or.inr ⟨s, by omega, h2⟩
theorem abN_iff {d : TD} (yes : Int64) (w k v : Nat) (hv : v < 1000) : v < abN d yes w k ↔ ∀ s, s < k → bt yes s = true → v < wtS (dg d w) s := by
  induction k with
  | zero => exact ⟨fun _ s hs => absurd hs (Nat.not_lt_zero s), fun _ => hv⟩
  | succ k ih =>
    unfold abN
    constructor
    · intro h s hs hb
      by_cases e : s = k
      · subst e
        by_cases c : wtS (dg d w) s < abN d yes w s
        · rw [if_pos ⟨hb, c⟩] at h; exact h
        · rw [if_neg (fun z => c z.2)] at h; omega
      · refine ih.mp ?_ s (by omega) hb
        by_cases c : bt yes k = true ∧ wtS (dg d w) k < abN d yes w k
        · rw [if_pos c] at h; omega
        · rw [if_neg c] at h; exact h
    · intro h
      split
      · rename_i z; exact h k (by omega) z.1
      · exact ih.mpr fun s hs hb => h s (by omega) hb
theorem gdW_iff {d : TD} (hd : wfD d) (yes no : Int64) (w : Nat) : gdW d yes no w = true ↔ ∀ s, s < sN d → bt yes s = true → bl d no w < wtS (dg d w) s := by
  have := blN_le hd no w (sN d)
  unfold gdW
  rw [decide_eq_true_iff]
  exact abN_iff yes w (sN d) (bl d no w) (by unfold bl; omega)
/-! the greatest and the least of some sets tell it -/
theorem gt_ex {x : Int64} {s : Nat} (hs : s < 64) (h : bt x s = true) : ∃ g, g < 64 ∧ gtB x g = true ∧ s &&& g = s := by
  have key : ∀ n r, r + n = 64 → r < 64 → bt x r = true → s &&& r = s → ∃ g, g < 64 ∧ gtB x g = true ∧ s &&& g = s := by
    intro n
    induction n using Nat.strongRecOn with
    | ind n ih =>
      intro r hr hr2 hx hsr
      cases q : gtB x r
      · unfold gtB at q
        rw [hx, Bool.true_and, Bool.not_eq_false', anyN_iff] at q
        obtain ⟨j, hj, z⟩ := q
        rw [Bool.and_eq_true, Bool.not_eq_true'] at z
        have hb : r + 2 ^ j < 64 := by
          have := bit_inc hj hr2
          rw [z.1] at this
          have : (decide (r + 2 ^ j < 64) && (r + 2 ^ j).testBit j) = true := this
          rw [Bool.and_eq_true] at this
          exact of_decide_eq_true this.1
        obtain ⟨g, g1, g2, g3⟩ := (dnB_6 hb).mp z.2
        have hp : 0 < 2 ^ j := Nat.pow_pos (by omega)
        have hge : r + 2 ^ j ≤ g := by rw [← g2]; exact Nat.and_le_right
        have hsg : s &&& g = s := by
          have h1 : r &&& (r + 2 ^ j) = r := by
            have : ∀ r : Fin 64, ∀ j : Fin 6, r.val.testBit j.val = false → r.val &&& (r.val + 2 ^ j.val) = r.val := by decide +kernel
            exact this ⟨r, hr2⟩ ⟨j, hj⟩ z.1
          rw [← hsr, Nat.and_assoc, ← h1, Nat.and_assoc, g2]
        exact ih (64 - g) (by omega) g (by omega) g1 g3 hsg
      · exact ⟨r, hr2, q, hsr⟩
  exact key (64 - s) s (by omega) hs h (Nat.and_self s)
theorem ls_ex {x : Int64} {s : Nat} (hs : s < 64) (h : bt x s = true) : ∃ g, g < 64 ∧ lsB x g = true ∧ g &&& s = g := by
  have key : ∀ r, r < 64 → bt x r = true → r &&& s = r → ∃ g, g < 64 ∧ lsB x g = true ∧ g &&& s = g := by
    intro r
    induction r using Nat.strongRecOn with
    | ind r ih =>
      intro hr2 hx hsr
      cases q : lsB x r
      · unfold lsB at q
        rw [hx, Bool.true_and, Bool.not_eq_false', anyN_iff] at q
        obtain ⟨j, hj, z⟩ := q
        rw [Bool.and_eq_true] at z
        have hc := bit_clr hr2 hj hj z.1
        obtain ⟨g, g1, g2, g3⟩ := (upB_6 (show r - 2 ^ j < 64 by omega)).mp z.2
        have hge : g ≤ r - 2 ^ j := by rw [← g2]; exact Nat.and_le_right
        have hsg : g &&& s = g := by
          have h1 : (r - 2 ^ j) &&& r = r - 2 ^ j := by
            have : ∀ r : Fin 64, ∀ j : Fin 6, r.val.testBit j.val = true → (r.val - 2 ^ j.val) &&& r.val = r.val - 2 ^ j.val := by decide +kernel
            exact this ⟨r, hr2⟩ ⟨j, hj⟩ z.1
          calc g &&& s = (g &&& (r - 2 ^ j)) &&& s := by rw [g2]
            _ = (g &&& ((r - 2 ^ j) &&& r)) &&& s := by rw [h1]
            _ = g &&& ((r - 2 ^ j) &&& (r &&& s)) := by rw [Nat.and_assoc, Nat.and_assoc]
            _ = g &&& ((r - 2 ^ j) &&& r) := by rw [hsr]
            _ = g := by rw [h1, g2]
        exact ih g (by omega) g1 g3 hsg
      · exact ⟨r, hr2, q, hsr⟩
  exact key s hs h (Nat.and_self s)
theorem gtB_b {x : Int64} {s : Nat} (h : gtB x s = true) : bt x s = true := by unfold gtB at h; rw [Bool.and_eq_true] at h; exact h.1
theorem lsB_b {x : Int64} {s : Nat} (h : lsB x s = true) : bt x s = true := by unfold lsB at h; rw [Bool.and_eq_true] at h; exact h.1
theorem low_lt {d : TD} {x : Int64} (h : low d x) {s : Nat} (hb : bt x s = true) : s < sN d := by
  rcases Nat.lt_or_ge s (sN d) with z | z
  · exact z
  · rw [h s z] at hb; cases hb
theorem flt_in {p : Nat → Bool} {n k : Nat} (hk : k < (flt p n).length) : p ((flt p n).getD k 0) = true ∧ (flt p n).getD k 0 < n := ⟨(flt_mem hk).2, (flt_mem hk).1⟩
/-! what is answered -/
def smA (o : SR) (c : Int) : Int := match o with
  | none => -1
  | some x => if c = 0 then (x.1 : Int) else if c = 1 then (x.2.1 : Int) else (x.2.2 : Int)
def smW (o : SR) : Prop := ∀ x, o = some x → x.1 ≤ 60 ∧ x.2.1 ≤ 61 ∧ x.2.2 < 16384
theorem smF_W {d : TD} (hd : wfD d) (yes no : Int64) {w : Nat} (hw : w ≤ dW d) : smW (smF d yes no w) := by
  have hW := hd.2.2.2.2.2.2
  induction w with
  | zero => intro x hx; cases hx
  | succ w ih =>
    have ih := ih (by omega)
    have h1 := wts_le hd w (sN d - 1)
    have h2 := blN_le hd no w (sN d)
    have hn : (suW d w, bl d no w + 1, w).1 ≤ 60 ∧ (suW d w, bl d no w + 1, w).2.1 ≤ 61 ∧ (suW d w, bl d no w + 1, w).2.2 < 16384 := ⟨h1, by show bl d no w + 1 ≤ 61; unfold bl; omega, by show w < 16384; omega⟩
    intro x hx
    unfold smF at hx
    by_cases c : gdW d yes no w = true
    · rw [if_pos c] at hx
      cases q : smF d yes no w with
      | none => rw [q] at hx; cases hx; exact hn
      | some y =>
        rw [q] at hx
        unfold smT at hx
        simp only at hx
        split at hx
        · cases hx; exact hn
        · cases hx; exact ih _ q
    · rw [if_neg c] at hx; exact ih x hx
theorem smF_some {d : TD} {yes no : Int64} {w n : Nat} (hw : w < n) (h : gdW d yes no w = true) : ∃ x, smF d yes no n = some x := by
  induction n with
  | zero => omega
  | succ n ih =>
    unfold smF
    by_cases c : gdW d yes no n = true
    · rw [if_pos c]
      cases smF d yes no n with
      | none => exact ⟨_, rfl⟩
      | some y =>
        unfold smT
        simp only
        split <;> exact ⟨_, rfl⟩
    · rw [if_neg c]
      exact ih (by
        rcases Nat.lt_or_ge w n with z | z
        · exact z
        · have : w = n := by omega
          subst this; exact absurd h c)
theorem tol_low {d : TD} {b : BD} (hb : wfB d b) (r : Bool) : ∀ k, k ≤ nT b → low d (tol b r 0 k) := by
  intro k
  induction k with
  | zero => intro _ s _; exact bt_0 s
  | succ k ih =>
    intro hk s hs
    unfold tol
    have h1 := ih (by omega) s hs
    split
    · rw [bt_or, h1, Bool.false_or, Nat.sub_zero, bt_b1 (hb.2.2.1 k (by have := hb.1; omega))]
      have := hb.2.2.2.1 k (by omega)
      exact decide_eq_false (by omega)
    · exact h1
def smallS (d : TD) (b : BD) (c : Int) : Int := if 0 ≤ c ∧ c ≤ 2 then smA (smF d (must b) (mustN b) (dW d)) c else -1
/-- the sets that don't ring -/
def nnL (d : TD) (w : Nat) : Int64 := mkB (sN d) (fun s => !bt (lst d w) s)
theorem nnL_low {d : TD} (hd : wfD d) (w : Nat) : low d (nnL d w) := fun s hs => by unfold nnL; rw [bt_mkB (sN_le hd), decide_eq_false (by omega)]; rfl
theorem gd_self {d : TD} (hd : wfD d) (w : Nat) : gdW d (lst d w) (nnL d w) w = true := by
  rw [gdW_iff hd]
  intro s hs hb
  rw [bt_lst hd w hs] at hb
  have h1 : dB d ≤ wtS (dg d w) s := of_decide_eq_true hb
  have hB := hd.2.2.2.1
  unfold bl
  rcases blN_at d (nnL d w) w (sN d) with z | ⟨t, ht, z1, z2⟩
  · omega
  · unfold nnL at z1
    rw [bt_mkB (sN_le hd), decide_eq_true ht, Bool.true_and, bt_lst hd w ht, Bool.not_eq_true'] at z1
    have := of_decide_eq_false z1
    omega
def sameS (d : TD) (a c : Int) : Int := if (0 ≤ a ∧ a < (dW d : Int)) ∧ (0 ≤ c ∧ c ≤ 2) then smA (smF d (lst d a.toNat) (nnL d a.toNat) (dW d)) c else -1
/-! from one row of weights to the next -/
theorem suW_sum (d : TD) (hd : wfD d) (w : Nat) : suW d w = sumN 6 (dg d w) := by
  unfold suW wtS
  apply sumN_congr
  intro t _
  unfold sN
  rw [Nat.testBit_two_pow_sub_one]
  by_cases c : t < dT d
  · rw [decide_eq_true c, if_pos rfl]
  · rw [decide_eq_false c, if_neg (by decide)]; unfold dg; rw [if_neg c]
theorem dig_lo {B w t j : Nat} (hB : 0 < B) (h : w % B ^ t = B ^ t - 1) (hj : j < t) : (w + 1) / B ^ j % B = 0 := by
  have hp : 0 < B ^ t := Nat.pow_pos hB
  have h1 : (w + 1) % B ^ t = 0 := by
    rw [Nat.add_mod, h]
    rcases Nat.eq_or_lt_of_le (show 1 ≤ B ^ t from hp) with e | e
    · rw [← e]
    · rw [Nat.mod_eq_of_lt e, show B ^ t - 1 + 1 = B ^ t by omega, Nat.mod_self]
  obtain ⟨q, hq⟩ := Nat.dvd_of_mod_eq_zero h1
  have e : B ^ t = B ^ j * (B * B ^ (t - j - 1)) := by
    rw [← Nat.mul_assoc, ← Nat.pow_succ, ← Nat.pow_add]; congr 1; omega
  rw [hq, e, Nat.mul_assoc, Nat.mul_div_cancel_left _ (Nat.pow_pos hB), Nat.mul_assoc, Nat.mul_mod_right]
theorem dig_at {B w t : Nat} (hB : 0 < B) (h : w % B ^ t = B ^ t - 1) (hd : w / B ^ t % B + 1 < B) : (w + 1) / B ^ t % B = w / B ^ t % B + 1 ∧ ∀ j, t < j → (w + 1) / B ^ j = w / B ^ j := by
  have hp : 0 < B ^ t := Nat.pow_pos hB
  have hw := Nat.div_add_mod w (B ^ t)
  have e1 : (w + 1) / B ^ t = w / B ^ t + 1 := by
    rw [h] at hw
    have : w + 1 = B ^ t * (w / B ^ t + 1) := by rw [Nat.mul_add, Nat.mul_one]; omega
    conv => lhs; rw [this]
    rw [Nat.mul_div_cancel_left _ hp]
  refine ⟨?_, fun j hj => ?_⟩
  · rw [e1, Nat.add_mod, Nat.mod_eq_of_lt (show 1 < B by omega), Nat.mod_eq_of_lt hd]
  · obtain ⟨i, rfl⟩ : ∃ i, j = t + 1 + i := ⟨j - t - 1, by omega⟩
    have e2 : ∀ x : Nat, x / B ^ (t + 1 + i) = x / B ^ t / B / B ^ i := fun x => by rw [Nat.div_div_eq_div_mul, Nat.div_div_eq_div_mul, ← Nat.mul_assoc, ← Nat.pow_succ, ← Nat.pow_add]
    rw [e2, e2, e1]
    congr 1
    generalize w / B ^ t = q at hd
    have hq := Nat.div_add_mod q B
    have : (q + 1) / B = q / B := by
      rw [Nat.div_eq_of_lt_le]
      · rw [Nat.mul_comm]; omega
      · rw [Nat.add_mul, Nat.one_mul, Nat.mul_comm]; omega
    exact this
theorem dig_nx {B w t : Nat} (hB : 0 < B) (h : w % B ^ t = B ^ t - 1) (hd : w / B ^ t % B + 1 = B) : w % B ^ (t + 1) = B ^ (t + 1) - 1 := by
  have hp : 0 < B ^ t := Nat.pow_pos hB
  rw [Nat.pow_succ, Nat.mod_mul, h]
  generalize hq : w / B ^ t % B = q at hd
  have : B = q + 1 := by omega
  subst this
  rw [Nat.mul_add, Nat.mul_one]
  omega
theorem Tw_step1 {A : Nat → Nat} {σ : AM} (H : LC A σ) {d : TD} (hd : wfD d) {c : Nat} (hc : c < 68) (hk : aK σ (A c) = 101) (hn : aN σ (A c) = 6) (hc10 : c ≠ 10) {w : Nat} (m0 : VM) : ∀ n t m, t + n = dT d → m.1 10 7 = iI (dT d : Int) → m.1 10 8 = iI (dM d : Int) → OnS c m0 m → w % (dM d + 1) ^ t = (dM d + 1) ^ t - 1 → (∀ j, j < dT d → m.1 c j = iI ((if j < t then 0 else dg d w j : Nat) : Int)) → ∃ (m' : VM) (r : Int), L_Tw_step_1 (A 10) (A c) (iI ((sumN 6 (fun j => if j < t then 0 else dg d w j) : Int) - (sumN 6 (dg d w) : Int))) (iI (t : Int)) (ov 68 A m σ) = some (iI r, (ov 68 A (m') σ)) ∧ OnS c m0 m' ∧ (w + 1 < dW d → rowE d (w + 1) c m' ∧ r = (sumN 6 (dg d (w + 1)) : Int) - (sumN 6 (dg d w) : Int)) := by
  have ho := okO_of hk
  have hT := hd.1
  have hM := hd.2.2.1
  have hs6 : ∀ f : Nat → Nat, (∀ j, f j ≤ 10) → sumN 6 f ≤ 60 := fun f h => Nat.le_trans (sumN_le (c := 10) fun i _ => h i) (by decide)
  have hdl : ∀ j, dg d w j ≤ 10 := fun j => by have := dg_lt hd w j; omega
  intro n
  induction n with
  | zero =>
    intro t m ht h7 h8 ho1 hw hr
    obtain rfl : t = dT d := ht
    refine ⟨m, (sumN 6 (fun j => if j < dT d then 0 else dg d w j) : Int) - (sumN 6 (dg d w) : Int), ?_, ho1, fun h => ?_⟩
    · rw [E_Tw_step_1]
      simp (disch := omega) only [E_Tw_step_2, cK_10 H, okO_ov, gd_true, aI_ov H.1, h7, iI_lt]
      rw [if_neg (by omega)]
    · exfalso
      have hp : 0 < (dM d + 1) ^ dT d := Nat.pow_pos (by omega)
      have : w % dW d = dW d - 1 := hw
      have hm : w % dW d = w := Nat.mod_eq_of_lt (by omega)
      omega
  | succ n ih =>
    intro t m ht h7 h8 ho1 hw hr
    have htT : t < dT d := by omega
    have hrt := hr t htT
    rw [if_neg (Nat.lt_irrefl t)] at hrt
    have hdt : dg d w t = w / (dM d + 1) ^ t % (dM d + 1) := by unfold dg; rw [if_pos htT]
    have hdlt : dg d w t < dM d + 1 := by rw [hdt]; exact Nat.mod_lt _ (by omega)
    by_cases cc : dg d w t < dM d
    · obtain ⟨g1, g2⟩ := dig_at (B := dM d + 1) (by omega) hw (by rw [← hdt]; omega)
      have hnew : ∀ j, j < dT d → dg d (w + 1) j = if j = t then dg d w t + 1 else (if j < t then 0 else dg d w j) := fun j hj => by
        by_cases e : j = t
        · subst e
          rw [if_pos rfl]
          have : dg d (w + 1) j = (w + 1) / (dM d + 1) ^ j % (dM d + 1) := by unfold dg; rw [if_pos hj]
          rw [this, g1, hdt]
        · rw [if_neg e]
          by_cases e2 : j < t
          · rw [if_pos e2]
            have : dg d (w + 1) j = (w + 1) / (dM d + 1) ^ j % (dM d + 1) := by unfold dg; rw [if_pos hj]
            rw [this, dig_lo (by omega) hw e2]
          · rw [if_neg e2]
            unfold dg
            rw [if_pos hj, if_pos hj, g2 j (by omega)]
      have hso := sum_one (n := 6) (t := t) (by omega) (dg d (w + 1)) (fun j => if j < t then 0 else dg d w j) (fun j hj hjt => by
        by_cases e : j < dT d
        · rw [hnew j e, if_neg hjt]
        · have e1 : dg d (w + 1) j = 0 := by unfold dg; rw [if_neg e]
          have e2 : dg d w j = 0 := by unfold dg; rw [if_neg e]
          rw [e1, e2]; split <;> rfl)
      simp only [Nat.lt_irrefl, if_false] at hso
      have hnt := hnew t htT
      rw [if_pos rfl] at hnt
      refine ⟨sV m c t (iI ((dg d w t + 1 : Nat) : Int)), (sumN 6 (fun j => if j < t then 0 else dg d w j) : Int) - (sumN 6 (dg d w) : Int) + 1, ?_, ⟨fun a ha => by rw [sV_ne _ _ _ _ ha]; exact ho1.1 a ha, ho1.2⟩, fun h => ⟨fun j hj => ?_, ?_⟩⟩
      · rw [E_Tw_step_1]
        simp (disch := omega) only [cK_10 H, okO_ov, ho, aN_ov, hn, gd_true, gd_in, nI_iI, iI_cl, Int.toNat_natCast, aI_ov H.1, sI_ov H.1, letT_eq, h7, h8, hrt, l_0, l_1, iI_lt, iI_add, iI_s]
        rw [if_pos (by omega), if_pos (by omega), if_pos (by omega)]
      · rw [sV_eq, hnew j hj]
        by_cases e : j = t
        · rw [if_pos e, if_pos e]
        · rw [if_neg e, if_neg e]; exact hr j hj
      · omega
    · have hz := dig_nx (B := dM d + 1) (by omega) hw (by rw [← hdt]; omega)
      have hso := sum_one (n := 6) (t := t) (by omega) (fun j => if j < t + 1 then 0 else dg d w j) (fun j => if j < t then 0 else dg d w j) (fun j hj hjt => by
        by_cases e : j < t
        · rw [if_pos e, if_pos (by omega)]
        · rw [if_neg e, if_neg (by omega)])
      simp only [Nat.lt_irrefl, if_false, Nat.lt_succ_self, if_true, Nat.add_zero] at hso
      obtain ⟨m', r, e, q⟩ := ih (t + 1) (sV m c t (iI 0)) (by omega) (by rw [sV_ne _ _ _ _ (by omega)]; exact h7) (by rw [sV_ne _ _ _ _ (by omega)]; exact h8) ⟨fun a ha => by rw [sV_ne _ _ _ _ ha]; exact ho1.1 a ha, ho1.2⟩ hz (fun j hj => by
        rw [sV_eq]
        by_cases e : j = t
        · rw [if_pos e, if_pos (by omega)]; rfl
        · rw [if_neg e, hr j hj]
          by_cases e2 : j < t
          · rw [if_pos e2, if_pos (by omega)]
          · rw [if_neg e2, if_neg (by omega)])
      refine ⟨m', r, ?_, q⟩
      rw [← e]
      have ee : (sumN 6 (fun j => if j < t then 0 else dg d w j) : Int) - (sumN 6 (dg d w) : Int) - (dg d w t : Int) = (sumN 6 (fun j => if j < t + 1 then 0 else dg d w j) : Int) - (sumN 6 (dg d w) : Int) := by omega
      rw [E_Tw_step_1]
      simp (disch := omega) only [cK_10 H, okO_ov, ho, aN_ov, hn, gd_true, gd_in, nI_iI, iI_cl, Int.toNat_natCast, aI_ov H.1, sI_ov H.1, letT_eq, h7, h8, hrt, l_0, l_1, iI_lt, iI_sub, ee, iI_add, iI_s]
      rw [if_pos (by omega), if_pos (by omega), if_neg (by omega)]
theorem p_Tw_step {A : Nat → Nat} {σ : AM} (H : LC A σ) {d : TD} (hd : wfD d) {c : Nat} (hc : c < 68) (hk : aK σ (A c) = 101) (hn : aN σ (A c) = 6) (hc10 : c ≠ 10) {w : Nat} {m : VM} (h7 : m.1 10 7 = iI (dT d : Int)) (h8 : m.1 10 8 = iI (dM d : Int)) (hr : rowE d w c m) : ∃ (m' : VM) (r : Int), M_Tw_step (A 10) (A c) (ov 68 A m σ) = some (iI r, (ov 68 A (m') σ)) ∧ OnS c m m' ∧ (w + 1 < dW d → rowE d (w + 1) c m' ∧ r = (sumN 6 (dg d (w + 1)) : Int) - (sumN 6 (dg d w) : Int)) := by
  obtain ⟨m', r, e, q⟩ := Tw_step1 H hd hc hk hn hc10 (w := w) m (dT d) 0 m (by omega) h7 h8 (OnS_r _ _) (by rw [Nat.pow_zero, Nat.mod_one]) (fun j hj => by rw [if_neg (Nat.not_lt_zero j)]; exact hr j hj)
  refine ⟨m', r, ?_, q⟩
  have e0 : (sumN 6 (fun j => if j < 0 then 0 else dg d w j) : Int) - (sumN 6 (dg d w) : Int) = 0 := by
    have : sumN 6 (fun j => if j < 0 then 0 else dg d w j) = sumN 6 (dg d w) := sumN_congr fun j _ => if_neg (Nat.not_lt_zero j)
    rw [this]; omega
  rw [e0] at e
  unfold M_Tw_step
  rw [E_Tw_step_0]
  simp only [l_0]
  exact (congrArg (mw _) e).trans (mw_ov _ _ _ _ _ _)
