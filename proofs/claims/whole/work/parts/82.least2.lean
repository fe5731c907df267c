/-! ===== sets that hold, or lie in, no other one ===== -/
def sbN (t r s : Nat) : Bool := (r &&& s == r) && (r / 2 ^ t == s / 2 ^ t)
def upB (x : Int64) (t s : Nat) : Bool := anyN 64 (fun r => sbN t r s && bt x r)
def dnB (x : Int64) (t s : Nat) : Bool := anyN 64 (fun r => sbN t s r && bt x r)
theorem sbN_up {t r s : Nat} (ht : t < 6) (hr : r < 64) (hs : s < 64) : sbN (t + 1) r s = (sbN t r s || (s.testBit t && sbN t r (s - 2 ^ t))) := by
  have : ∀ t : Fin 6, ∀ r : Fin 64, ∀ s : Fin 64, sbN (t.val + 1) r.val s.val = (sbN t.val r.val s.val || (s.val.testBit t.val && sbN t.val r.val (s.val - 2 ^ t.val))) := by decide +kernel
  exact this ⟨t, ht⟩ ⟨r, hr⟩ ⟨s, hs⟩
theorem sbN_dn {t r s : Nat} (ht : t < 6) (hr : r < 64) (hs : s < 64) : sbN (t + 1) s r = (sbN t s r || (!s.testBit t && sbN t (s + 2 ^ t) r)) := by
  have : ∀ t : Fin 6, ∀ r : Fin 64, ∀ s : Fin 64, sbN (t.val + 1) s.val r.val = (sbN t.val s.val r.val || (!s.val.testBit t.val && sbN t.val (s.val + 2 ^ t.val) r.val)) := by decide +kernel
  exact this ⟨t, ht⟩ ⟨r, hr⟩ ⟨s, hs⟩
theorem sbN_0 {r s : Nat} : sbN 0 r s = true ↔ r = s := by
  unfold sbN
  rw [Bool.and_eq_true, beq_iff_eq, beq_iff_eq, Nat.pow_zero, Nat.div_one, Nat.div_one]
  constructor
  · exact fun h => h.2
  · intro h; subst h; exact ⟨Nat.and_self _, rfl⟩
theorem sbN_6 {r s : Nat} (hr : r < 64) (hs : s < 64) : sbN 6 r s = true ↔ r &&& s = r := by
  unfold sbN
  rw [Bool.and_eq_true, beq_iff_eq, beq_iff_eq]
  constructor
  · exact fun h => h.1
  · intro h; exact ⟨h, by rw [Nat.div_eq_of_lt hr, Nat.div_eq_of_lt hs]⟩
theorem any_or {n : Nat} {p q r : Nat → Bool} (h : ∀ i, i < n → p i = (q i || r i)) : anyN n p = (anyN n q || anyN n r) := by
  rw [Bool.eq_iff_iff, Bool.or_eq_true, anyN_iff, anyN_iff, anyN_iff]
  constructor
  · rintro ⟨i, hi, hp⟩
    rw [h i hi, Bool.or_eq_true] at hp
    rcases hp with z | z
    · exact Or.inl ⟨i, hi, z⟩
    · exact Or.inr ⟨i, hi, z⟩
  · rintro (⟨i, hi, z⟩ | ⟨i, hi, z⟩)
    · exact ⟨i, hi, by rw [h i hi, z]; rfl⟩
    · exact ⟨i, hi, by rw [h i hi, z, Bool.or_true]⟩
theorem any_and {n : Nat} {p : Nat → Bool} (b : Bool) : anyN n (fun i => b && p i) = (b && anyN n p) := by
  cases b
  · show anyN n (fun _ => false) = false
    cases q : anyN n (fun _ => false)
    · rfl
    · obtain ⟨i, _, hi⟩ := anyN_iff.mp q; cases hi
  · rfl
theorem upB_s (x : Int64) {t s : Nat} (ht : t < 6) (hs : s < 64) : upB x (t + 1) s = (upB x t s || (s.testBit t && upB x t (s - 2 ^ t))) := by
  unfold upB
  rw [← any_and]
  apply any_or
  intro r hr
  rw [sbN_up ht hr hs]
  cases sbN t r s <;> cases s.testBit t <;> cases sbN t r (s - 2 ^ t) <;> cases bt x r <;> rfl
theorem dnB_s (x : Int64) {t s : Nat} (ht : t < 6) (hs : s < 64) : dnB x (t + 1) s = (dnB x t s || (!s.testBit t && dnB x t (s + 2 ^ t))) := by
  unfold dnB
  rw [← any_and]
  apply any_or
  intro r hr
  rw [sbN_dn ht hr hs]
  cases sbN t s r <;> cases s.testBit t <;> cases sbN t (s + 2 ^ t) r <;> cases bt x r <;> rfl
theorem upB_0 (x : Int64) {s : Nat} (hs : s < 64) : upB x 0 s = bt x s := by
  rw [Bool.eq_iff_iff]
  unfold upB
  rw [anyN_iff]
  constructor
  · rintro ⟨r, hr, h⟩
    rw [Bool.and_eq_true, sbN_0] at h
    rw [← h.1]; exact h.2
  · intro h; exact ⟨s, hs, by rw [Bool.and_eq_true, sbN_0]; exact ⟨rfl, h⟩⟩
theorem dnB_0 (x : Int64) {s : Nat} (hs : s < 64) : dnB x 0 s = bt x s := by
  rw [Bool.eq_iff_iff]
  unfold dnB
  rw [anyN_iff]
  constructor
  · rintro ⟨r, hr, h⟩
    rw [Bool.and_eq_true, sbN_0] at h
    rw [h.1]; exact h.2
  · intro h; exact ⟨s, hs, by rw [Bool.and_eq_true, sbN_0]; exact ⟨rfl, h⟩⟩
theorem upB_6 {x : Int64} {s : Nat} (hs : s < 64) : upB x 6 s = true ↔ ∃ r, r < 64 ∧ r &&& s = r ∧ bt x r = true := by
  unfold upB
  rw [anyN_iff]
  constructor
  · rintro ⟨r, hr, h⟩
    rw [Bool.and_eq_true, sbN_6 hr hs] at h
    exact ⟨r, hr, h⟩
  · rintro ⟨r, hr, h1, h2⟩; exact ⟨r, hr, by rw [Bool.and_eq_true, sbN_6 hr hs]; exact ⟨h1, h2⟩⟩
theorem dnB_6 {x : Int64} {s : Nat} (hs : s < 64) : dnB x 6 s = true ↔ ∃ r, r < 64 ∧ s &&& r = s ∧ bt x r = true := by
  unfold dnB
  rw [anyN_iff]
  constructor
  · rintro ⟨r, hr, h⟩
    rw [Bool.and_eq_true, sbN_6 hs hr] at h
    exact ⟨r, hr, h⟩
  · rintro ⟨r, hr, h1, h2⟩; exact ⟨r, hr, by rw [Bool.and_eq_true, sbN_6 hs hr]; exact ⟨h1, h2⟩⟩
theorem bt_mk {p : Nat → Bool} {s : Nat} (hs : s < 64) : bt (mkB 64 p) s = p s := by rw [bt_mkB (Nat.le_refl _), decide_eq_true hs]; rfl
theorem mk_bt {x : Int64} {p : Nat → Bool} (h : ∀ s, s < 64 → bt x s = p s) : x = mkB 64 p := bt_ext fun s hs => by rw [h s hs, bt_mk hs]
theorem bit_dec {t s : Nat} (ht : t < 6) (hs : s < 64) : (decide (2 ^ t ≤ s) && !(s - 2 ^ t).testBit t) = s.testBit t := by
  have : ∀ t : Fin 6, ∀ s : Fin 64, (decide (2 ^ t.val ≤ s.val) && !(s.val - 2 ^ t.val).testBit t.val) = s.val.testBit t.val := by decide +kernel
  exact this ⟨t, ht⟩ ⟨s, hs⟩
theorem bit_inc {t s : Nat} (ht : t < 6) (hs : s < 64) : (decide (s + 2 ^ t < 64) && (s + 2 ^ t).testBit t) = !s.testBit t := by
  have : ∀ t : Fin 6, ∀ s : Fin 64, (decide (s.val + 2 ^ t.val < 64) && (s.val + 2 ^ t.val).testBit t.val) = !s.val.testBit t.val := by decide +kernel
  exact this ⟨t, ht⟩ ⟨s, hs⟩
/-- a shift to the sets with one thing more -/
theorem bt_more {p : Nat → Bool} {t s : Nat} (ht : t < 6) (hs : s < 64) : bt ((mkB 64 p &&& tbWITHOUT t) <<< ((iI ((2 ^ t : Nat) : Int)).toInt64 &&& 63)) s = (s.testBit t && p (s - 2 ^ t)) := by
  have hp := pw6 ht
  rw [bt_shl _ (s := 2 ^ t) (by omega) hs, ← bit_dec ht hs]
  by_cases c : 2 ^ t ≤ s
  · have h2 : s - 2 ^ t < 64 := Nat.lt_of_le_of_lt (Nat.sub_le _ _) hs
    rw [bt_and, bt_mk h2, bt_WO ht h2, decide_eq_true c]
    cases p (s - 2 ^ t) <;> cases (s - 2 ^ t).testBit t <;> rfl
  · rw [decide_eq_false c]; rfl
theorem bt_less {p : Nat → Bool} {t s : Nat} (ht : t < 6) (hs : s < 64) : bt (((mkB 64 p &&& (tbWITHOUT t ^^^ (-1))).toUInt64 >>> ((iI ((2 ^ t : Nat) : Int)).toInt64.toUInt64 &&& Int64.toUInt64 63)).toInt64) s = (!s.testBit t && p (s + 2 ^ t)) := by
  have hp := pw6 ht
  rw [bt_ushr _ (s := 2 ^ t) (by omega), ← bit_inc ht hs, Nat.add_comm (2 ^ t) s]
  by_cases c : s + 2 ^ t < 64
  · rw [bt_and, bt_mk c, bt_not _ c, bt_WO ht c, decide_eq_true c, Bool.not_not]
    cases p (s + 2 ^ t) <;> cases (s + 2 ^ t).testBit t <;> rfl
  · rw [decide_eq_false c, bt_big _ (by omega)]; rfl
def lsB (x : Int64) (s : Nat) : Bool := bt x s && !anyN 6 (fun j => s.testBit j && upB x 6 (s - 2 ^ j))
def gtB (x : Int64) (s : Nat) : Bool := bt x s && !anyN 6 (fun j => !s.testBit j && dnB x 6 (s + 2 ^ j))
theorem q_St_leastOf (x : Int64) (σ : AM) : M_St_leastOf x σ = some (mkB 64 (lsB x), σ) := by
  have l2 := up_loop (fun k => L_St_leastOf_2 x (mkB 64 (upB x 6)) (mkB 64 (fun s => anyN k (fun j => s.testBit j && upB x 6 (s - 2 ^ j)))) (iI (k : Int)) σ) 6 (some (mkB 64 (lsB x), σ)) (fun k hk ih => by
    show L_St_leastOf_2 _ _ _ _ _ = _
    have e : mkB 64 (fun s => anyN k (fun j => s.testBit j && upB x 6 (s - 2 ^ j))) ||| ((mkB 64 (upB x 6) &&& tbWITHOUT k) <<< ((iI ((2 ^ k : Nat) : Int)).toInt64 &&& 63)) = mkB 64 (fun s => anyN (k + 1) (fun j => s.testBit j && upB x 6 (s - 2 ^ j))) := mk_bt fun s hs => by
      rw [bt_or, bt_mk hs, bt_more hk hs, anyN_s]
    rw [E_St_leastOf_2]
    simp (disch := omega) only [l_6, l_1, l_31, iI_lt, gd_in, shl1N, iI_cl, Int.toNat_natCast, letT_eq, e, iI_add]
    rw [if_pos (by omega)]
    exact ih) (by
    show L_St_leastOf_2 _ _ _ _ _ = _
    rw [E_St_leastOf_2]
    simp (disch := omega) only [l_6, iI_lt]
    rw [if_neg (by omega)]
    congr 2
    exact mk_bt fun s hs => by rw [bt_and, bt_not _ hs, bt_mk hs]; rfl) 0 (Nat.zero_le _)
  have l1 := up_loop (fun k => L_St_leastOf_1 x (mkB 64 (upB x k)) (iI (k : Int)) σ) 6 (some (mkB 64 (lsB x), σ)) (fun k hk ih => by
    show L_St_leastOf_1 _ _ _ _ = _
    have e : mkB 64 (upB x k) ||| ((mkB 64 (upB x k) &&& tbWITHOUT k) <<< ((iI ((2 ^ k : Nat) : Int)).toInt64 &&& 63)) = mkB 64 (upB x (k + 1)) := mk_bt fun s hs => by
      rw [bt_or, bt_mk hs, bt_more hk hs, upB_s x hk hs]
    rw [E_St_leastOf_1]
    simp (disch := omega) only [l_6, l_1, l_31, iI_lt, gd_in, shl1N, iI_cl, Int.toNat_natCast, letT_eq, e, iI_add]
    rw [if_pos (by omega)]
    exact ih) (by
    show L_St_leastOf_1 _ _ _ _ = _
    rw [E_St_leastOf_1]
    simp (disch := omega) only [l_6, l_0, iI_lt]
    rw [if_neg (by omega)]
    exact l2) 0 (Nat.zero_le _)
  have e0 : mkB 64 (upB x 0) = x := (mk_bt fun s hs => (upB_0 x hs).symm).symm
  replace l1 : L_St_leastOf_1 x (mkB 64 (upB x 0)) (iI 0) σ = _ := l1
  rw [e0] at l1
  unfold M_St_leastOf
  rw [E_St_leastOf_0]
  simp only [l_0]
  exact (congrArg (mw σ) l1).trans (mw_of (Nat.le_refl _) (Nat.le_refl _))
theorem q_St_greatestOf (x : Int64) (σ : AM) : M_St_greatestOf x σ = some (mkB 64 (gtB x), σ) := by
  have l2 := up_loop (fun k => L_St_greatestOf_2 x (mkB 64 (dnB x 6)) (mkB 64 (fun s => anyN k (fun j => !s.testBit j && dnB x 6 (s + 2 ^ j)))) (iI (k : Int)) σ) 6 (some (mkB 64 (gtB x), σ)) (fun k hk ih => by
    show L_St_greatestOf_2 _ _ _ _ _ = _
    have e : mkB 64 (fun s => anyN k (fun j => !s.testBit j && dnB x 6 (s + 2 ^ j))) ||| (((mkB 64 (dnB x 6) &&& (tbWITHOUT k ^^^ (-1))).toUInt64 >>> ((iI ((2 ^ k : Nat) : Int)).toInt64.toUInt64 &&& Int64.toUInt64 63)).toInt64) = mkB 64 (fun s => anyN (k + 1) (fun j => !s.testBit j && dnB x 6 (s + 2 ^ j))) := mk_bt fun s hs => by
      rw [bt_or, bt_mk hs, bt_less hk hs, anyN_s]
    rw [E_St_greatestOf_2]
    simp (disch := omega) only [l_6, l_1, l_31, iI_lt, gd_in, shl1N, iI_cl, Int.toNat_natCast, letT_eq, e, iI_add]
    rw [if_pos (by omega)]
    exact ih) (by
    show L_St_greatestOf_2 _ _ _ _ _ = _
    rw [E_St_greatestOf_2]
    simp (disch := omega) only [l_6, iI_lt]
    rw [if_neg (by omega)]
    congr 2
    exact mk_bt fun s hs => by rw [bt_and, bt_not _ hs, bt_mk hs]; rfl) 0 (Nat.zero_le _)
  have l1 := up_loop (fun k => L_St_greatestOf_1 x (mkB 64 (dnB x k)) (iI (k : Int)) σ) 6 (some (mkB 64 (gtB x), σ)) (fun k hk ih => by
    show L_St_greatestOf_1 _ _ _ _ = _
    have e : mkB 64 (dnB x k) ||| (((mkB 64 (dnB x k) &&& (tbWITHOUT k ^^^ (-1))).toUInt64 >>> ((iI ((2 ^ k : Nat) : Int)).toInt64.toUInt64 &&& Int64.toUInt64 63)).toInt64) = mkB 64 (dnB x (k + 1)) := mk_bt fun s hs => by
      rw [bt_or, bt_mk hs, bt_less hk hs, dnB_s x hk hs]
    rw [E_St_greatestOf_1]
    simp (disch := omega) only [l_6, l_1, l_31, iI_lt, gd_in, shl1N, iI_cl, Int.toNat_natCast, letT_eq, e, iI_add]
    rw [if_pos (by omega)]
    exact ih) (by
    show L_St_greatestOf_1 _ _ _ _ = _
    rw [E_St_greatestOf_1]
    simp (disch := omega) only [l_6, l_0, iI_lt]
    rw [if_neg (by omega)]
    exact l2) 0 (Nat.zero_le _)
  have e0 : mkB 64 (dnB x 0) = x := (mk_bt fun s hs => (dnB_0 x hs).symm).symm
  replace l1 : L_St_greatestOf_1 x (mkB 64 (dnB x 0)) (iI 0) σ = _ := l1
  rw [e0] at l1
  unfold M_St_greatestOf
  rw [E_St_greatestOf_0]
  simp only [l_0]
  exact (congrArg (mw σ) l1).trans (mw_of (Nat.le_refl _) (Nat.le_refl _))
/-- the i-th that is so -/
def ithN (p : Nat → Bool) (i : Int) (n : Nat) : Int := fsN n (fun s => p s && decide ((cntN s p : Int) = i))
theorem q_St_ith (x : Int64) {i : Int} (h1 : -2147483648 ≤ i) (h2 : i < 2147483648) (σ : AM) : M_St_ith x (iI i) σ = some (iI (ithN (bt x) i 64), σ) := by
  have h := up_loopI (fun k (_ : Unit) => L_St_ith_1 x (iI i) (iI (cntN k (bt x) : Int)) (iI (k : Int)) σ) (fun k _ => ∀ s, s < k → (bt x s && decide ((cntN s (bt x) : Int) = i)) = false) (fun y => y = some (iI (ithN (bt x) i 64), σ)) 64 (fun k _ hk hI ih => by
    have hc := cntN_le k (bt x)
    show L_St_ith_1 _ _ _ _ _ = _
    replace ih := ih ()
    have ih2 : (∀ s, s < k + 1 → (bt x s && decide ((cntN s (bt x) : Int) = i)) = false) → L_St_ith_1 x (iI i) (iI ((cntN k (bt x) + if bt x k = true then 1 else 0 : Nat) : Int)) (iI ((k + 1 : Nat) : Int)) σ = _ := ih
    have nxt : (bt x k && decide ((cntN k (bt x) : Int) = i)) = false → ∀ s, s < k + 1 → (bt x s && decide ((cntN s (bt x) : Int) = i)) = false := fun z s hs => by
      by_cases e : s = k
      · rw [e]; exact z
      · exact hI s (by omega)
    rw [E_St_ith_1]
    simp (disch := omega) only [E_St_ith_2, l_64, l_0, l_1, iI_lt, iI_eq, q_St_has x hk, bnd_some, bZ_0, iI_add]
    rw [if_pos (by omega)]
    cases q : bt x k
    · rw [q] at ih2 nxt
      rw [if_pos rfl]
      exact ih2 (nxt rfl)
    · rw [q] at ih2 nxt
      rw [if_neg (by decide)]
      by_cases c : (cntN k (bt x) : Int) = i
      · rw [if_pos c]
        have : ithN (bt x) i 64 = (k : Int) := fsN_of hk (by rw [q, decide_eq_true c]; rfl) hI
        rw [this]
      · rw [if_neg c]
        exact ih2 (nxt (by rw [decide_eq_false c]; rfl))) (fun _ hI => by
    show L_St_ith_1 _ _ _ _ _ = _
    have : ithN (bt x) i 64 = -1 := fsN_none hI
    rw [this, E_St_ith_1]
    simp (disch := omega) only [l_64, iI_lt, l_1, iI_neg]
    rw [if_neg (by omega)]) 0 () (Nat.zero_le _) (fun s hs => absurd hs (Nat.not_lt_zero s))
  unfold M_St_ith
  rw [E_St_ith_0]
  simp only [l_0]
  exact (congrArg (mw σ) h).trans (mw_of (Nat.le_refl _) (Nat.le_refl _))
/-! lists grow with their sets -/
theorem wtS_sub (f : Nat → Nat) {r s : Nat} (h : r &&& s = r) : wtS f r ≤ wtS f s := by
  unfold wtS
  apply sumN_mono
  intro t _
  show (if r.testBit t = true then f t else 0) ≤ if s.testBit t = true then f t else 0
  by_cases c : r.testBit t = true
  · have : s.testBit t = true := by
      have e : (r &&& s).testBit t = true := by rw [h]; exact c
      rw [Nat.testBit_and, Bool.and_eq_true] at e
      exact e.2
    rw [if_pos c, if_pos this]; exact Nat.le_refl _
  · rw [if_neg c]; exact Nat.zero_le _
theorem lst_mono {d : TD} (hd : wfD d) (w : Nat) {r s : Nat} (hs : s < sN d) (h : r &&& s = r) (hr : bt (lst d w) r = true) : bt (lst d w) s = true := by
  have hle : r ≤ s := by rw [← h]; exact Nat.and_le_right
  rw [bt_lst hd w (by omega)] at hr
  rw [bt_lst hd w hs]
  unfold ringsAt at *
  have := wtS_sub (dg d w) h
  have := of_decide_eq_true hr
  exact decide_eq_true (by omega)
def lmB (d : TD) (x : Int64) (s : Nat) : Bool := bt x s && allN (dT d) (fun t => !s.testBit t || !bt x (s - 2 ^ t))
theorem lsB_lst {d : TD} (hd : wfD d) (w : Nat) {s : Nat} (hs : s < sN d) : lsB (lst d w) s = lmB d (lst d w) s := by
  have hN := sN_le hd
  have hT := hd.1
  unfold lsB lmB
  congr 1
  rw [Bool.eq_iff_iff, Bool.not_eq_true', allN_iff]
  constructor
  · intro h t ht
    cases q : s.testBit t
    · rfl
    · cases q2 : bt (lst d w) (s - 2 ^ t)
      · rfl
      · exfalso
        have : anyN 6 (fun j => s.testBit j && upB (lst d w) 6 (s - 2 ^ j)) = true := anyN_iff.mpr ⟨t, by omega, by
          show (s.testBit t && upB (lst d w) 6 (s - 2 ^ t)) = true
          rw [q, Bool.true_and]
          exact (upB_6 (Nat.lt_of_le_of_lt (Nat.sub_le _ _) (by omega))).mpr ⟨s - 2 ^ t, Nat.lt_of_le_of_lt (Nat.sub_le _ _) (by omega), Nat.and_self _, q2⟩⟩
        rw [h] at this; cases this
  · intro h
    cases q : anyN 6 (fun j => s.testBit j && upB (lst d w) 6 (s - 2 ^ j))
    · rfl
    · exfalso
      obtain ⟨j, hj, z⟩ := anyN_iff.mp q
      rw [Bool.and_eq_true] at z
      obtain ⟨r, hr, h1, h2⟩ := (upB_6 (Nat.lt_of_le_of_lt (Nat.sub_le _ _) (by omega))).mp z.2
      have hm := lst_mono hd w (s := s - 2 ^ j) (Nat.lt_of_le_of_lt (Nat.sub_le _ _) hs) h1 h2
      have := h j (bit_lt hs z.1)
      rw [z.1, hm] at this
      cases this
theorem lsB_low {d : TD} (hd : wfD d) (w : Nat) {s : Nat} (hs : sN d ≤ s) : lsB (lst d w) s = false := by unfold lsB; rw [lst_low hd w s hs]; rfl
/-! least sets asked for -/
def lssS (d : TD) (a c : Int) : Int := if (0 ≤ a ∧ a < (dW d : Int)) ∧ -1 ≤ c then (if c = -1 then (cntN 64 (lsB (lst d a.toNat)) : Int) else ithN (lsB (lst d a.toNat)) c 64) else -1
theorem ithN_congr {p q : Nat → Bool} (h : ∀ s, s < 64 → p s = q s) (i : Int) : ithN p i 64 = ithN q i 64 := by
  have hc : ∀ n, n ≤ 64 → cntN n p = cntN n q := fun n hn => cntN_congr fun s hs => h s (by omega)
  have : ∀ n, n ≤ 64 → fsN n (fun s => p s && decide ((cntN s p : Int) = i)) = fsN n (fun s => q s && decide ((cntN s q : Int) = i)) := by
    intro n
    induction n with
    | zero => intro _; rfl
    | succ n ih =>
      intro hn
      show (if 0 ≤ fsN n _ then fsN n _ else if (p n && decide ((cntN n p : Int) = i)) = true then (n : Int) else -1) = (if 0 ≤ fsN n _ then fsN n _ else if (q n && decide ((cntN n q : Int) = i)) = true then (n : Int) else -1)
      rw [ih (by omega), h n (by omega), hc n (by omega)]
  exact this 64 (Nat.le_refl _)
theorem ithN_neg {p : Nat → Bool} {i : Int} (h : i < 0) (n : Nat) : ithN p i n = -1 := fsN_none fun s _ => by rw [decide_eq_false (by omega), Bool.and_false]
theorem c_leastSet {d : TD} {b : BD} {g z u : Nat} {A : Nat → Nat} {σ : AM} {m : VM} (C : CS0 d b g z u A σ m) {a c : Int} (h1 : -2147483648 ≤ a) (h2 : a < 2147483648) (h3 : -2147483648 ≤ c) (h4 : c < 2147483648) : ∃ m' : VM, M_Bp_leastSet (A 0) (iI a) (iI c) (ov 68 A m σ) = some (iI (lssS d a c), (ov 68 A (m') σ)) ∧ OnW m m' := by
  obtain ⟨H, hd, hD, _, hT, _⟩ := C
  have hw := q_Tw_hasWeights H hd hT h1 h2
  unfold M_Bp_leastSet
  by_cases q : 0 ≤ a ∧ a < (dW d : Int)
  · rw [decide_eq_true q] at hw
    obtain ⟨n, rfl⟩ := Int.eq_ofNat_of_zero_le q.1
    obtain ⟨m', e, j⟩ := p_Ls_listOf H hd hD hT (w := n) (by omega)
    refine ⟨m', ?_, j⟩
    have e1 : pcl (mkB 64 (lsB (lst d n))) = cntN 64 (lsB (lst d n)) := cntN_congr fun s hs => bt_mk hs
    have e2 : ithN (bt (mkB 64 (lsB (lst d n)))) c 64 = ithN (lsB (lst d n)) c 64 := ithN_congr (fun s hs => bt_mk hs) c
    rw [E_Bp_leastSet_0]; simp (disch := omega) only [E_Bp_leastSet_1, l_0, l_1, cK_0 H, cR_0_1 H, cK_10 H, cR_0_2 H, cK_17 H, letT_eq, gd_true, bnd_some, aR_ov, aK_ov, aN_ov, okO_ov, aI_ov H.1, aL_ov H.1, sI_ov H.1, sL_ov H.1, sV_eq, sV_ne, sV_2, sW_eq, sW_ne, sW_1, iI_add, iI_sub, iI_mul, iI_neg, iI_lt, iI_eq, iI_cl, nI_iI, gd_in, bZ_0, bZ_1, bZ_eq, isB_bZ, isB_0, isB_1, nar_bZ, nar_0, nar_1, mw_ov, iI_s, iI_na, iI_nm, Int.toNat_natCast, Int.add_zero, Int.zero_add, Nat.reduceEqDiff, Nat.reduceAdd, Int.reduceAdd, Int.reduceNeg, Int.reduceSub, Int.reduceMul, Int.reduceLT, Int.reduceEq, Int.reduceToNat, reduceCtorEq, ↓reduceIte, hw, e, q_St_leastOf, q_JLong_bitCount, e1, q_St_ith _ h3 h4, e2]
    by_cases q1 : c = -1
    · rw [if_pos q1, mw_ov, lssS, if_pos ⟨q, by omega⟩, if_pos q1]; rfl
    · rw [if_neg q1, mw_ov]
      by_cases q2 : -1 ≤ c
      · rw [lssS, if_pos ⟨q, q2⟩, if_neg q1]; rfl
      · rw [lssS, if_neg (fun z => q2 z.2), ithN_neg (by omega)]
  · rw [decide_eq_false q] at hw
    refine ⟨m, ?_, OnW_r _⟩
    rw [E_Bp_leastSet_0]; simp (disch := omega) only [E_Bp_leastSet_1, l_0, l_1, cK_0 H, cR_0_1 H, cK_10 H, cR_0_2 H, cK_17 H, letT_eq, gd_true, bnd_some, aR_ov, aK_ov, aN_ov, okO_ov, aI_ov H.1, aL_ov H.1, sI_ov H.1, sL_ov H.1, sV_eq, sV_ne, sV_2, sW_eq, sW_ne, sW_1, iI_add, iI_sub, iI_mul, iI_neg, iI_lt, iI_eq, iI_cl, nI_iI, gd_in, bZ_0, bZ_1, bZ_eq, isB_bZ, isB_0, isB_1, nar_bZ, nar_0, nar_1, mw_ov, iI_s, iI_na, iI_nm, Int.toNat_natCast, Int.add_zero, Int.zero_add, Nat.reduceEqDiff, Nat.reduceAdd, Int.reduceAdd, Int.reduceNeg, Int.reduceSub, Int.reduceMul, Int.reduceLT, Int.reduceEq, Int.reduceToNat, reduceCtorEq, ↓reduceIte, hw]
    rw [lssS, if_neg (fun z => q z.1)]
theorem Md_least3 {A : Nat → Nat} {σ : AM} (H : LM A σ) {m : VM} {d : TD} (hd : wfD d) (hT : MT d m) {n s : Nat} (hn : n < dW d) (hs : s < sN d) (c k : Int32) (t : Nat) (ht : t < dT d) (b0 : Bool) : L_Md_leastSet_3 (A 0) (iI (n : Int)) c k (iI (s : Int)) (bZ (b0 && allN t (fun t => !s.testBit t || !bt (lst d n) (s - 2 ^ t)))) (iI (t : Int)) (ov 40 A m σ) = L_Md_leastSet_3 (A 0) (iI (n : Int)) c k (iI (s : Int)) (bZ (b0 && allN (t + 1) (fun t => !s.testBit t || !bt (lst d n) (s - 2 ^ t)))) (iI ((t + 1 : Nat) : Int)) (ov 40 A m σ) := by
  have hN := sN_le hd
  have hT6 := hd.1
  have hW := hd.2.2.2.2.2.2
  have h64 : s < 64 := by omega
  have e12 := hT.2.1 n hn
  have hbI := bitI (s := s) (k := t) h64 (by omega)
  rw [allN_s, ← Bool.and_assoc]
  cases q : (b0 && allN t (fun t => !s.testBit t || !bt (lst d n) (s - 2 ^ t)))
  · rw [Bool.false_and]
    rw [E_Md_leastSet_3]
    simp (disch := omega) only [E_Md_leastSet_5, E_Md_leastSet_6, mK_0 H, okO_ov, gd_true, aI_ov H.1, hT.1.1, iI_lt, bZ_0, l_0, l_1, iI_add, iI_s, ↓reduceIte]
    rw [if_pos (by omega)]
    rfl
  · rw [Bool.true_and]
    cases q1 : s.testBit t
    · rw [q1] at hbI
      replace hbI : (iI (s : Int) >>> (iI (t : Int) &&& iI 31)) &&& iI 1 = iI 0 := hbI
      rw [E_Md_leastSet_3]; simp (disch := omega) only [E_Md_leastSet_4, E_Md_leastSet_5, E_Md_leastSet_6, E_Md_leastSet_7, E_Md_leastSet_8, l_0, l_1, l_31, mK_0 H, mR_27 H, mK_12 H, mN_12 H, letT_eq, gd_true, bnd_some, aR_ov, aK_ov, aN_ov, okO_ov, aI_ov H.1, aL_ov H.1, sI_ov H.1, sL_ov H.1, sV_eq, sV_ne, sV_2, sW_eq, sW_ne, sW_1, iI_add, iI_sub, iI_mul, iI_neg, iI_lt, iI_eq, iI_cl, nI_iI, gd_in, bZ_0, bZ_1, bZ_eq, isB_bZ, isB_0, isB_1, nar_bZ, nar_0, nar_1, mw_ov, iI_s, iI_na, iI_nm, Int.toNat_natCast, Int.add_zero, Int.zero_add, Nat.reduceEqDiff, Nat.reduceAdd, Int.reduceAdd, Int.reduceNeg, Int.reduceSub, Int.reduceMul, Int.reduceLT, Int.reduceEq, Int.reduceToNat, reduceCtorEq, ↓reduceIte, hT.1.1, hbI]
      rw [if_pos (by omega)]
      rfl
    · rw [q1] at hbI
      replace hbI : (iI (s : Int) >>> (iI (t : Int) &&& iI 31)) &&& iI 1 = iI 1 := hbI
      have hcl := bitClr h64 (by omega : t < 6) q1
      have hlt : s - 2 ^ t < 64 := Nat.lt_of_le_of_lt (Nat.sub_le _ _) h64
      rw [E_Md_leastSet_3]; simp (disch := omega) only [E_Md_leastSet_4, E_Md_leastSet_5, E_Md_leastSet_6, E_Md_leastSet_7, E_Md_leastSet_8, l_0, l_1, l_31, mK_0 H, mR_27 H, mK_12 H, mN_12 H, letT_eq, gd_true, bnd_some, aR_ov, aK_ov, aN_ov, okO_ov, aI_ov H.1, aL_ov H.1, sI_ov H.1, sL_ov H.1, sV_eq, sV_ne, sV_2, sW_eq, sW_ne, sW_1, iI_add, iI_sub, iI_mul, iI_neg, iI_lt, iI_eq, iI_cl, nI_iI, gd_in, bZ_0, bZ_1, bZ_eq, isB_bZ, isB_0, isB_1, nar_bZ, nar_0, nar_1, mw_ov, iI_s, iI_na, iI_nm, Int.toNat_natCast, Int.add_zero, Int.zero_add, Nat.reduceEqDiff, Nat.reduceAdd, Int.reduceAdd, Int.reduceNeg, Int.reduceSub, Int.reduceMul, Int.reduceLT, Int.reduceEq, Int.reduceToNat, reduceCtorEq, ↓reduceIte, hT.1.1, hbI, e12, hcl, q_Md_doesRing (lst d n) hlt]
      rw [if_pos (by omega)]
      cases bt (lst d n) (s - 2 ^ t) <;> rfl
theorem Md_least2 {A : Nat → Nat} {σ : AM} (H : LM A σ) {m : VM} {d : TD} (hd : wfD d) (hT : MT d m) {n s : Nat} (hn : n < dW d) (hs : s < sN d) (c : Int32) (k : Nat) (hk : k ≤ 64) : L_Md_leastSet_2 (A 0) (iI (n : Int)) c (iI (k : Int)) (iI (s : Int)) (ov 40 A m σ) = if lsB (lst d n) s = true then (if iI (k : Int) = c then some (iI (s : Int), (ov 40 A m σ)) else L_Md_leastSet_2 (A 0) (iI (n : Int)) c (iI ((k + 1 : Nat) : Int)) (iI ((s + 1 : Nat) : Int)) (ov 40 A m σ)) else L_Md_leastSet_2 (A 0) (iI (n : Int)) c (iI (k : Int)) (iI ((s + 1 : Nat) : Int)) (ov 40 A m σ) := by
  have hN := sN_le hd
  have hT6 := hd.1
  have hW := hd.2.2.2.2.2.2
  have h64 : s < 64 := by omega
  have e12 := hT.2.1 n hn
  rw [lsB_lst hd n hs]
  have hl := up_loop (fun t => L_Md_leastSet_3 (A 0) (iI (n : Int)) c (iI (k : Int)) (iI (s : Int)) (bZ (bt (lst d n) s && allN t (fun t => !s.testBit t || !bt (lst d n) (s - 2 ^ t)))) (iI (t : Int)) (ov 40 A m σ)) (dT d) (if lmB d (lst d n) s = true then (if iI (k : Int) = c then some (iI (s : Int), (ov 40 A m σ)) else L_Md_leastSet_2 (A 0) (iI (n : Int)) c (iI ((k + 1 : Nat) : Int)) (iI ((s + 1 : Nat) : Int)) (ov 40 A m σ)) else L_Md_leastSet_2 (A 0) (iI (n : Int)) c (iI (k : Int)) (iI ((s + 1 : Nat) : Int)) (ov 40 A m σ)) (fun t ht ih => (Md_least3 H hd hT hn hs c (iI (k : Int)) t ht (bt (lst d n) s)).trans ih) (by
    show L_Md_leastSet_3 _ _ _ _ _ (bZ (lmB d (lst d n) s)) _ _ = _
    cases q : lmB d (lst d n) s
    · rw [E_Md_leastSet_3]
      simp (disch := omega) only [E_Md_leastSet_7, E_Md_leastSet_8, mK_0 H, okO_ov, gd_true, aI_ov H.1, hT.1.1, iI_lt, bZ_0, l_0, l_1, iI_add, iI_s, letT_eq, Int.add_zero, ↓reduceIte]
      rw [if_neg (by omega), if_neg (by decide)]
    · rw [E_Md_leastSet_3]
      simp (disch := omega) only [E_Md_leastSet_7, E_Md_leastSet_8, mK_0 H, okO_ov, gd_true, aI_ov H.1, hT.1.1, iI_lt, bZ_0, l_0, l_1, iI_add, iI_s, letT_eq, reduceCtorEq, ↓reduceIte]
      rw [if_neg (by omega)]) 0 (Nat.zero_le _)
  replace hl : L_Md_leastSet_3 (A 0) (iI (n : Int)) c (iI (k : Int)) (iI (s : Int)) (bZ (bt (lst d n) s && true)) (iI 0) (ov 40 A m σ) = _ := hl
  rw [Bool.and_true] at hl
  rw [← hl, E_Md_leastSet_2]
  simp (disch := omega) only [mK_0 H, mR_27 H, mK_12 H, mN_12 H, okO_ov, aR_ov, aN_ov, gd_true, gd_in, q_Md_sets H hd hT, bnd_some, iI_lt, aL_ov H.1, iI_cl, Int.toNat_natCast, e12, q_Md_doesRing (lst d n) h64, l_0]
  rw [if_pos (by omega)]
theorem Md_leastL {A : Nat → Nat} {σ : AM} (H : LM A σ) {m : VM} {d : TD} (hd : wfD d) (hT : MT d m) {n : Nat} (hn : n < dW d) {c : Int} (h3 : -1 ≤ c) (h4 : c < 2147483648) : L_Md_leastSet_2 (A 0) (iI (n : Int)) (iI c) (iI 0) (iI 0) (ov 40 A m σ) = some (iI (if c = -1 then (cntN 64 (lsB (lst d n)) : Int) else ithN (lsB (lst d n)) c 64), (ov 40 A m σ)) := by
  have hN := sN_le hd
  exact up_loopI (fun s (_ : Unit) => L_Md_leastSet_2 (A 0) (iI (n : Int)) (iI c) (iI (cntN s (lsB (lst d n)) : Int)) (iI (s : Int)) (ov 40 A m σ)) (fun s _ => ∀ r, r < s → (lsB (lst d n) r && decide ((cntN r (lsB (lst d n)) : Int) = c)) = false) (fun y => y = some (iI (if c = -1 then (cntN 64 (lsB (lst d n)) : Int) else ithN (lsB (lst d n)) c 64), (ov 40 A m σ))) (sN d) (fun s _ hs hI ih => by
    have hc := cntN_le s (lsB (lst d n))
    show L_Md_leastSet_2 _ _ _ _ _ _ = _
    rw [Md_least2 H hd hT hn hs (iI c) (cntN s (lsB (lst d n))) (by omega)]
    simp (disch := omega) only [iI_eq]
    replace ih := ih ()
    have ih2 : (∀ r, r < s + 1 → (lsB (lst d n) r && decide ((cntN r (lsB (lst d n)) : Int) = c)) = false) → L_Md_leastSet_2 (A 0) (iI (n : Int)) (iI c) (iI ((cntN s (lsB (lst d n)) + if lsB (lst d n) s = true then 1 else 0 : Nat) : Int)) (iI ((s + 1 : Nat) : Int)) (ov 40 A m σ) = _ := ih
    have nxt : (lsB (lst d n) s && decide ((cntN s (lsB (lst d n)) : Int) = c)) = false → ∀ r, r < s + 1 → (lsB (lst d n) r && decide ((cntN r (lsB (lst d n)) : Int) = c)) = false := fun z r hr => by
      by_cases e : r = s
      · rw [e]; exact z
      · exact hI r (by omega)
    cases q : lsB (lst d n) s
    · rw [q] at ih2 nxt
      rw [if_neg (by decide)]
      exact ih2 (nxt rfl)
    · rw [q] at ih2 nxt
      rw [if_pos (show true = true from rfl)]
      by_cases cc : (cntN s (lsB (lst d n)) : Int) = c
      · rw [if_pos cc, if_neg (show ¬ c = -1 by omega)]
        have : ithN (lsB (lst d n)) c 64 = (s : Int) := fsN_of (by omega) (by rw [q, decide_eq_true cc]; rfl) hI
        rw [this]
      · rw [if_neg cc]
        exact ih2 (nxt (by rw [decide_eq_false cc]; rfl))) (fun _ hI => by
    show L_Md_leastSet_2 _ _ _ _ _ _ = _
    have hc := cntN_le (sN d) (lsB (lst d n))
    have e1 : cntN 64 (lsB (lst d n)) = cntN (sN d) (lsB (lst d n)) := cntN_ext hN fun s h1 _ => lsB_low hd n h1
    have e2 : ithN (lsB (lst d n)) c 64 = -1 := fsN_none fun s hs => by
      by_cases z : s < sN d
      · exact hI s z
      · rw [lsB_low hd n (by omega)]; rfl
    rw [e1, e2, E_Md_leastSet_2]
    simp (disch := omega) only [E_Md_leastSet_9, mK_0 H, okO_ov, gd_true, q_Md_sets H hd hT, bnd_some, iI_lt, l_0, l_1, iI_neg]
    rw [if_neg (by omega)]
    by_cases z : c = -1
    · rw [if_pos (by omega), if_pos z]
    · rw [if_neg (by omega), if_neg z]) 0 () (Nat.zero_le _) (fun r hr => absurd hr (Nat.not_lt_zero r))
theorem m_leastSet {d : TD} {b : BD} {A : Nat → Nat} {σ : AM} {m : VM} (M : MS0 d b A σ m) {a c : Int} (h1 : -2147483648 ≤ a) (h2 : a < 2147483648) (h3 : -2147483648 ≤ c) (h4 : c < 2147483648) : Mf A σ m (M_Md_leastSet (A 0) (iI a) (iI c) (ov 40 A m σ)) (iI (lssS d a c)) := by
  obtain ⟨H, hd, hT, hb, hB⟩ := M
  have hT0 := MT_K (KM_0 m) hT
  have hw := q_Md_isWeights H hd hT0 h1 h2
  refine ⟨_, ?_, KM_0 m⟩
  unfold M_Md_leastSet
  by_cases q : 0 ≤ a ∧ a < (dW d : Int)
  · rw [decide_eq_true q] at hw
    obtain ⟨n, rfl⟩ := Int.eq_ofNat_of_zero_le q.1
    by_cases q2 : -1 ≤ c
    · have hl := Md_leastL H hd hT0 (n := n) (by omega) q2 h4
      rw [E_Md_leastSet_0]; simp (disch := omega) only [E_Md_leastSet_1, l_0, l_1, mK_0 H, letT_eq, gd_true, bnd_some, aR_ov, aK_ov, aN_ov, okO_ov, aI_ov H.1, aL_ov H.1, sI_ov H.1, sL_ov H.1, sV_eq, sV_ne, sV_2, sW_eq, sW_ne, sW_1, iI_add, iI_sub, iI_mul, iI_neg, iI_lt, iI_eq, iI_cl, nI_iI, gd_in, bZ_0, bZ_1, bZ_eq, isB_bZ, isB_0, isB_1, nar_bZ, nar_0, nar_1, mw_ov, iI_s, iI_na, iI_nm, Int.toNat_natCast, Int.add_zero, Int.zero_add, Nat.reduceEqDiff, Nat.reduceAdd, Int.reduceAdd, Int.reduceNeg, Int.reduceSub, Int.reduceMul, Int.reduceLT, Int.reduceEq, Int.reduceToNat, reduceCtorEq, ↓reduceIte, hw, hl]
      have eS : lssS d (n : Int) c = if c = -1 then (cntN 64 (lsB (lst d n)) : Int) else ithN (lsB (lst d n)) c 64 := if_pos ⟨q, q2⟩
      rw [eS, if_neg (show ¬ c < -1 by omega), mw_ov]
    · rw [E_Md_leastSet_0]; simp (disch := omega) only [E_Md_leastSet_1, l_0, l_1, mK_0 H, letT_eq, gd_true, bnd_some, aR_ov, aK_ov, aN_ov, okO_ov, aI_ov H.1, aL_ov H.1, sI_ov H.1, sL_ov H.1, sV_eq, sV_ne, sV_2, sW_eq, sW_ne, sW_1, iI_add, iI_sub, iI_mul, iI_neg, iI_lt, iI_eq, iI_cl, nI_iI, gd_in, bZ_0, bZ_1, bZ_eq, isB_bZ, isB_0, isB_1, nar_bZ, nar_0, nar_1, mw_ov, iI_s, iI_na, iI_nm, Int.toNat_natCast, Int.add_zero, Int.zero_add, Nat.reduceEqDiff, Nat.reduceAdd, Int.reduceAdd, Int.reduceNeg, Int.reduceSub, Int.reduceMul, Int.reduceLT, Int.reduceEq, Int.reduceToNat, reduceCtorEq, ↓reduceIte, hw]
      rw [if_pos (by omega), mw_ov, lssS, if_neg (fun z => q2 z.2)]
  · rw [decide_eq_false q] at hw
    rw [E_Md_leastSet_0]; simp (disch := omega) only [E_Md_leastSet_1, l_0, l_1, mK_0 H, letT_eq, gd_true, bnd_some, aR_ov, aK_ov, aN_ov, okO_ov, aI_ov H.1, aL_ov H.1, sI_ov H.1, sL_ov H.1, sV_eq, sV_ne, sV_2, sW_eq, sW_ne, sW_1, iI_add, iI_sub, iI_mul, iI_neg, iI_lt, iI_eq, iI_cl, nI_iI, gd_in, bZ_0, bZ_1, bZ_eq, isB_bZ, isB_0, isB_1, nar_bZ, nar_0, nar_1, mw_ov, iI_s, iI_na, iI_nm, Int.toNat_natCast, Int.add_zero, Int.zero_add, Nat.reduceEqDiff, Nat.reduceAdd, Int.reduceAdd, Int.reduceNeg, Int.reduceSub, Int.reduceMul, Int.reduceLT, Int.reduceEq, Int.reduceToNat, reduceCtorEq, ↓reduceIte, hw]
    rw [lssS, if_neg (fun z => q z.1)]
