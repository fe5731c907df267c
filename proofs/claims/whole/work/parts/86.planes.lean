/-! ===== counters kept as planes of bits ===== -/
def pvN (P : Nat → Int64) (n s : Nat) : Nat := sumN n (fun p => if bt (P p) s = true then 2 ^ p else 0)
def bN (b : Bool) : Nat := if b = true then 1 else 0
theorem pv_up {P : Nat → Int64} {n i s : Nat} (hi : i < n) (c : Int64) : pvN (fun p => if p = i then P i ^^^ c else P p) n s + 2 ^ (i + 1) * bN (bt (P i &&& c) s) = pvN P n s + 2 ^ i * bN (bt c s) := by
  unfold pvN
  have h := sum_one (n := n) (t := i) hi (fun p => if bt (if p = i then P i ^^^ c else P p) s = true then 2 ^ p else 0) (fun p => if bt (P p) s = true then 2 ^ p else 0) (fun p _ hp => by
    show (if bt (if p = i then P i ^^^ c else P p) s = true then 2 ^ p else 0) = _
    rw [if_neg hp])
  simp only [if_true] at h
  rw [bt_xor] at h
  rw [bt_and]
  have e : 2 ^ (i + 1) = 2 ^ i + 2 ^ i := by rw [Nat.pow_succ]; omega
  unfold bN
  generalize 2 ^ i = u at *
  cases q1 : bt (P i) s <;> cases q2 : bt c s <;> simp [q1, q2] at h ⊢ <;> omega
theorem q_addTo {n : Nat} {A : Nat → Nat} {σ : AM} (hA : Inj n A) {c : Nat} (hc : c < n) (hk : aK σ (A c) = 102) {N : Nat} (hl : aN σ (A c) = N) (hN : N ≤ 64) (x : Int64) {t : Nat} (ht : t ≤ N) (m : VM) (hb : ∀ s, s < 64 → pvN (m.2 c) N s + 2 ^ t * bN (bt x s) < 2 ^ N) : ∃ m' : VM, M_St_addTo (A c) x (iI (t : Int)) (ov n A m σ) = some ((), ov n A m' σ) ∧ m'.1 = m.1 ∧ (∀ a, a ≠ c → m'.2 a = m.2 a) ∧ (∀ j, N ≤ j → m'.2 c j = m.2 c j) ∧ ∀ s, s < 64 → pvN (m'.2 c) N s = pvN (m.2 c) N s + 2 ^ t * bN (bt x s) := by
  have ho := okO_of hk
  have key : ∀ r i, i + r = N → ∀ (y : Int64) (m1 : VM), m1.1 = m.1 → (∀ a, a ≠ c → m1.2 a = m.2 a) → (∀ j, N ≤ j → m1.2 c j = m.2 c j) → (∀ s, s < 64 → pvN (m1.2 c) N s + 2 ^ i * bN (bt y s) = pvN (m.2 c) N s + 2 ^ t * bN (bt x s)) → ∃ m' : VM, L_St_addTo_1 (A c) y (iI (i : Int)) (ov n A m1 σ) = some ((), ov n A m' σ) ∧ m'.1 = m.1 ∧ (∀ a, a ≠ c → m'.2 a = m.2 a) ∧ (∀ j, N ≤ j → m'.2 c j = m.2 c j) ∧ ∀ s, s < 64 → pvN (m'.2 c) N s = pvN (m.2 c) N s + 2 ^ t * bN (bt x s) := by
    intro r
    induction r with
    | zero =>
      intro i hi y m1 h1 h2 h2b h3
      obtain rfl : i = N := hi
      refine ⟨m1, ?_, h1, h2, h2b, fun s hs => ?_⟩
      · rw [E_St_addTo_1]
        simp (disch := omega) only [okO_ov, ho, gd_true, aN_ov, hl, nI_iI, iI_lt, E_St_addTo_2]
        rw [if_neg (by omega)]
      · have e1 := h3 s hs
        have e2 := hb s hs
        cases q : bt y s
        · rw [q] at e1
          have : bN false = 0 := rfl
          rw [this, Nat.mul_zero] at e1
          omega
        · rw [q] at e1
          have : bN true = 1 := rfl
          rw [this, Nat.mul_one] at e1
          omega
    | succ r ih =>
      intro i hi y m1 h1 h2 h2b h3
      by_cases c0 : y = 0
      · refine ⟨m1, ?_, h1, h2, h2b, fun s hs => ?_⟩
        · rw [E_St_addTo_1]
          simp (disch := omega) only [okO_ov, ho, gd_true, aN_ov, hl, nI_iI, iI_lt, E_St_addTo_2, l_0, lgc0]
          rw [if_pos (by omega), if_pos c0]
        · have e1 := h3 s hs
          rw [c0, bt_0] at e1
          have : bN false = 0 := rfl
          rw [this, Nat.mul_zero] at e1
          omega
      · have e1 : (sW m1 c i (m1.2 c i ^^^ y)).2 c = fun p => if p = i then m1.2 c i ^^^ y else m1.2 c p := by funext p; rw [sW_eq]
        obtain ⟨m', e, q⟩ := ih (i + 1) (by omega) (m1.2 c i &&& y) (sW m1 c i (m1.2 c i ^^^ y)) h1 (fun a ha => by rw [sW_ne _ _ _ _ ha]; exact h2 a ha) (fun j hj => by rw [sW_eq, if_neg (by omega)]; exact h2b j hj) (fun s hs => by
          rw [e1, pv_up (by omega)]
          exact h3 s hs)
        refine ⟨m', ?_, q⟩
        rw [← e, E_St_addTo_1]
        simp (disch := omega) only [okO_ov, ho, gd_true, aN_ov, hl, nI_iI, iI_lt, gd_in, iI_cl, Int.toNat_natCast, aL_ov hA, sL_ov hA, letT_eq, l_0, l_1, lgc0, iI_add]
        rw [if_pos (by omega), if_neg c0]
        rfl
  obtain ⟨m', e, q⟩ := key (N - t) t (by omega) x m rfl (fun _ _ => rfl) (fun _ _ => rfl) (fun _ _ => rfl)
  refine ⟨m', ?_, q⟩
  unfold M_St_addTo
  rw [E_St_addTo_0]
  exact (congrArg (mw _) e).trans (mw_ov _ _ _ _ _ _)
/-! how many trials a list gets wrong -/
def wrB (b : BD) (x : Int64) (j : Nat) : Bool := bt x (tS b j) != tR b j
def wr (b : BD) (x : Int64) : Nat := cntN (nT b) (wrB b x)
def tlN (b : BD) (r : Bool) (k s : Nat) : Nat := cntN k (fun j => decide (tR b j = r) && decide (tS b j = s))
theorem sum_swap (n m : Nat) (g : Nat → Nat → Nat) : sumN n (fun p => sumN m (fun s => g p s)) = sumN m (fun s => sumN n (fun p => g p s)) := by
  induction n with
  | zero =>
    have : ∀ m, sumN m (fun _ => 0) = 0 := by
      intro m
      induction m with
      | zero => rfl
      | succ m ih => rw [sumN_s, ih]
    exact (this m).symm
  | succ n ih =>
    rw [sumN_s, ih, ← sumN_add]
    exact sumN_congr fun s _ => (sumN_s n (fun p => g p s)).symm
theorem sum_mul (n c : Nat) (f : Nat → Nat) : sumN n (fun i => c * f i) = c * sumN n f := by
  induction n with
  | zero => rfl
  | succ n ih => rw [sumN_s, sumN_s, ih, Nat.mul_add]
theorem wr_tl {d : TD} {b : BD} (hb : wfB d b) (x : Int64) {k : Nat} (hk : k ≤ nT b) : sumN 64 (fun s => if bt x s = true then tlN b false k s else tlN b true k s) = cntN k (wrB b x) := by
  induction k with
  | zero =>
    have : ∀ m, sumN m (fun s => if bt x s = true then tlN b false 0 s else tlN b true 0 s) = 0 := by
      intro m
      induction m with
      | zero => rfl
      | succ m ih => rw [sumN_s, ih]; split <;> rfl
    exact this 64
  | succ k ih =>
    rw [cntN_s, ← ih (by omega)]
    have hs := hb.2.2.1 k (by have := hb.1; omega)
    have h1 : ∀ s, (if bt x s = true then tlN b false (k + 1) s else tlN b true (k + 1) s) = (if bt x s = true then tlN b false k s else tlN b true k s) + (if tS b k = s then (if wrB b x k = true then 1 else 0) else 0) := by
      intro s
      unfold tlN wrB
      rw [cntN_s, cntN_s]
      by_cases e : tS b k = s
      · subst e
        cases q1 : bt x (tS b k) <;> cases q2 : tR b k <;> simp
      · simp [e]
    rw [sumN_congr fun s _ => h1 s, sumN_add]
    congr 1
    exact sum_pick hs (fun _ => if wrB b x k = true then 1 else 0)
/-- what the planes make of it -/
def plW (R S : Nat → Int64) (x : Int64) (k : Nat) : Nat := sumN k (fun p => 2 ^ p * (pcl (R p &&& (x ^^^ (-1))) + pcl (S p &&& x)))
theorem plW_eq {d : TD} {b : BD} (hb : wfB d b) {R S : Nat → Int64} (hR : ∀ s, s < 64 → pvN R 6 s = tlN b true (nT b) s) (hS : ∀ s, s < 64 → pvN S 6 s = tlN b false (nT b) s) (x : Int64) : plW R S x 6 = wr b x := by
  unfold plW wr
  rw [← wr_tl hb x (Nat.le_refl _)]
  have e1 : ∀ p, 2 ^ p * (pcl (R p &&& (x ^^^ (-1))) + pcl (S p &&& x)) = sumN 64 (fun s => if bt x s = true then (if bt (S p) s = true then 2 ^ p else 0) else (if bt (R p) s = true then 2 ^ p else 0)) := by
    intro p
    unfold pcl cntN
    rw [← sumN_add, ← sum_mul]
    apply sumN_congr
    intro s hs
    rw [bt_and, bt_and, bt_not x hs]
    cases bt x s <;> cases bt (S p) s <;> cases bt (R p) s <;> simp
  rw [sumN_congr fun p _ => e1 p, sum_swap]
  apply sumN_congr
  intro s hs
  by_cases c : bt x s = true
  · rw [if_pos c, ← hS s hs]
    unfold pvN
    exact sumN_congr fun p _ => by rw [if_pos c]
  · rw [if_neg c, ← hR s hs]
    unfold pvN
    exact sumN_congr fun p _ => by rw [if_neg c]
/-! the fewest wrong, and what those lists ring -/
def fwN (d : TD) (b : BD) : Nat → Nat
  | 0 => 60
  | k + 1 => if wr b (LL d k) < fwN d b k then wr b (LL d k) else fwN d b k
def dSo (d : TD) (b : BD) : Nat → Int64
  | 0 => 0
  | k + 1 => if wr b (LL d k) < fwN d b k then 0 ||| LL d k else if wr b (LL d k) = fwN d b k then dSo d b k ||| LL d k else dSo d b k
def dEv (d : TD) (b : BD) : Nat → Int64
  | 0 => -1
  | k + 1 => if wr b (LL d k) < fwN d b k then (-1) &&& LL d k else if wr b (LL d k) = fwN d b k then dEv d b k &&& LL d k else dEv d b k
theorem fwN_s (d : TD) (b : BD) (k : Nat) : fwN d b (k + 1) = if wr b (LL d k) < fwN d b k then wr b (LL d k) else fwN d b k := rfl
theorem fwN_le (d : TD) (b : BD) (k : Nat) : fwN d b k ≤ 60 ∧ ∀ i, i < k → fwN d b k ≤ wr b (LL d i) := by
  induction k with
  | zero => exact ⟨Nat.le_refl _, fun i hi => absurd hi (Nat.not_lt_zero i)⟩
  | succ k ih =>
    rw [fwN_s]
    refine ⟨by split <;> omega, fun i hi => ?_⟩
    by_cases e : i = k
    · subst e; split <;> omega
    · have := ih.2 i (by omega)
      split <;> omega
theorem wr_le {d : TD} {b : BD} (hb : wfB d b) (x : Int64) : wr b x ≤ 60 := Nat.le_trans (cntN_le _ _) hb.1
theorem bt_dSo {d : TD} {b : BD} (k s : Nat) : bt (dSo d b k) s = anyN k (fun i => decide (wr b (LL d i) = fwN d b k) && bt (LL d i) s) := by
  induction k with
  | zero => exact bt_0 s
  | succ k ih =>
    rw [anyN_s, fwN_s]
    unfold dSo
    have hlo := fwN_le d b k
    by_cases c1 : wr b (LL d k) < fwN d b k
    · rw [if_pos c1, if_pos c1, bt_or, bt_0, Bool.false_or, decide_eq_true rfl, Bool.true_and]
      have : anyN k (fun i => decide (wr b (LL d i) = wr b (LL d k)) && bt (LL d i) s) = false := by
        cases q : anyN k (fun i => decide (wr b (LL d i) = wr b (LL d k)) && bt (LL d i) s)
        · rfl
        · obtain ⟨i, hi, z⟩ := anyN_iff.mp q
          rw [Bool.and_eq_true] at z
          have := of_decide_eq_true z.1
          have := hlo.2 i hi
          omega
      rw [this, Bool.false_or]
    · rw [if_neg c1, if_neg c1]
      by_cases c2 : wr b (LL d k) = fwN d b k
      · rw [if_pos c2, bt_or, ih, decide_eq_true c2, Bool.true_and]
      · rw [if_neg c2, ih, decide_eq_false c2, Bool.false_and, Bool.or_false]
theorem bt_dEv {d : TD} {b : BD} (k : Nat) {s : Nat} (hs : s < 64) : bt (dEv d b k) s = !anyN k (fun i => decide (wr b (LL d i) = fwN d b k) && !bt (LL d i) s) := by
  induction k with
  | zero => exact bt_m1 hs
  | succ k ih =>
    rw [anyN_s, fwN_s]
    unfold dEv
    have hlo := fwN_le d b k
    by_cases c1 : wr b (LL d k) < fwN d b k
    · rw [if_pos c1, if_pos c1, bt_and, bt_m1 hs, Bool.true_and, decide_eq_true rfl, Bool.true_and]
      have : anyN k (fun i => decide (wr b (LL d i) = wr b (LL d k)) && !bt (LL d i) s) = false := by
        cases q : anyN k (fun i => decide (wr b (LL d i) = wr b (LL d k)) && !bt (LL d i) s)
        · rfl
        · obtain ⟨i, hi, z⟩ := anyN_iff.mp q
          rw [Bool.and_eq_true] at z
          have := of_decide_eq_true z.1
          have := hlo.2 i hi
          omega
      rw [this, Bool.false_or, Bool.not_not]
    · rw [if_neg c1, if_neg c1]
      by_cases c2 : wr b (LL d k) = fwN d b k
      · rw [if_pos c2, bt_and, ih, decide_eq_true c2, Bool.true_and, Bool.not_or, Bool.not_not]
      · rw [if_neg c2, ih, decide_eq_false c2, Bool.false_and, Bool.or_false]
def wbN (d : TD) (b : BD) (v k : Nat) : Nat := sumN k (fun i => if wr b (LL d i) = v then sh d i else 0)
def wthN (d : TD) (b : BD) (n k : Nat) : Nat := sumN k (fun i => if wr b (LL d i) ≤ n then sh d i else 0)
theorem wb_sum (d : TD) (b : BD) (n k : Nat) : sumN (n + 1) (fun v => wbN d b v k) = wthN d b n k := by
  unfold wbN wthN
  rw [sum_swap]
  apply sumN_congr
  intro i _
  by_cases c : wr b (LL d i) ≤ n
  · rw [if_pos c]
    exact sum_pick (T := n + 1) (c := wr b (LL d i)) (by omega) (fun _ => sh d i)
  · rw [if_neg c]
    have : ∀ m, m ≤ n + 1 → sumN m (fun v => if wr b (LL d i) = v then sh d i else 0) = 0 := by
      intro m
      induction m with
      | zero => intro _; rfl
      | succ m ih => intro hm; rw [sumN_s, ih (by omega), if_neg (by omega)]
    exact this _ (Nat.le_refl _)
theorem wthN_le {d : TD} (hd : wfD d) (b : BD) (n : Nat) : wthN d b n (NL d) ≤ 16384 := by
  have h1 : wthN d b n (NL d) ≤ sumN (NL d) (sh d) := sumN_mono fun i _ => by split <;> omega
  rw [sum_sh] at h1
  have := nMay_le d
  have := hd.2.2.2.2.2.2
  omega
theorem shl_iI {n p : Nat} (hn : n ≤ 128) (hp : p < 6) : iI (n : Int) <<< (iI (p : Int) &&& iI 31) = iI ((2 ^ p * n : Nat) : Int) := by
  have : ∀ p : Fin 6, ∀ n : Fin 129, iI (n.val : Int) <<< (iI (p.val : Int) &&& iI 31) = iI ((2 ^ p.val * n.val : Nat) : Int) := by decide +kernel
  exact this ⟨p, hp⟩ ⟨n, by omega⟩
