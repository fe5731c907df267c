/-! ===== a table of lists, by their scattered places ===== -/
theorem least {P : Nat → Prop} : ∀ n, (∃ e, e < n ∧ P e) → ∃ e, e < n ∧ P e ∧ ∀ e', e' < e → ¬ P e' := by
  intro n
  induction n with
  | zero => rintro ⟨e, h, _⟩; omega
  | succ n ih =>
    rintro ⟨e, h1, h2⟩
    by_cases c : ∃ e, e < n ∧ P e
    · obtain ⟨e, a1, a2, a3⟩ := ih c; exact ⟨e, by omega, a2, a3⟩
    · have he : e = n := by
        by_cases z : e < n
        · exact absurd ⟨e, z, h2⟩ c
        · omega
      subst he
      exact ⟨e, by omega, h2, fun e' h' hp => c ⟨e', h', hp⟩⟩
def HT (N : Nat) (hs : Int64 → Nat) (S : Nat → Int32) (L : List Int64) : Prop := (∀ j, j < N → S j = iI (-1) ∨ ∃ k : Nat, k < L.length ∧ S j = iI (k : Int)) ∧ cntN N (fun j => decide (¬ S j = iI (-1))) ≤ L.length ∧ ∀ k, k < L.length → ∃ e, e < N ∧ S ((hs (L.getD k 0) + e) % N) = iI (k : Int) ∧ ∀ e', e' < e → ¬ S ((hs (L.getD k 0) + e') % N) = iI (-1)
theorem iI_ne {k : Nat} (h : k < 100000) : ¬ iI (k : Int) = iI (-1) := by rw [iI_eq (by omega) (by omega) (by omega) (by omega)]; omega
theorem cnt_full {n : Nat} {p : Nat → Bool} (h : cntN n p < n) : ∃ j, j < n ∧ p j = false := by
  induction n with
  | zero => omega
  | succ n ih =>
    cases q : p n
    · exact ⟨n, by omega, q⟩
    · rw [cntN_s, q] at h
      obtain ⟨j, j1, j2⟩ := ih (by simp at h; omega)
      exact ⟨j, by omega, j2⟩
theorem mod_reach {N h j : Nat} (hh : h < N) (hj : j < N) : ∃ e, e < N ∧ (h + e) % N = j := by
  by_cases c : h ≤ j
  · exact ⟨j - h, by omega, by rw [show h + (j - h) = j by omega]; exact Nat.mod_eq_of_lt hj⟩
  · refine ⟨N + j - h, by omega, ?_⟩
    rw [show h + (N + j - h) = j + N by omega, Nat.add_mod_right]; exact Nat.mod_eq_of_lt hj
theorem HT_0 (N : Nat) (hs : Int64 → Nat) {S : Nat → Int32} (h : ∀ j, j < N → S j = iI (-1)) : HT N hs S [] := by
  refine ⟨fun j hj => Or.inl (h j hj), ?_, fun k hk => absurd hk (Nat.not_lt_zero k)⟩
  have : ∀ n, n ≤ N → cntN n (fun j => decide (¬ S j = iI (-1))) = 0 := by
    intro n
    induction n with
    | zero => intro _; rfl
    | succ n ih =>
      intro hn
      rw [cntN_s, ih (by omega), decide_eq_false (fun z => z (h n (by omega)))]; rfl
  rw [this N (Nat.le_refl _)]; exact Nat.zero_le _
/-- where the search for x ends -/
def hEnd (N : Nat) (hs : Int64 → Nat) (S : Nat → Int32) (L : List Int64) (x : Int64) (e : Nat) : Prop := e < N ∧ (∀ e', e' < e → ∃ k : Nat, k < L.length ∧ S ((hs x + e') % N) = iI (k : Int) ∧ ¬ L.getD k 0 = x) ∧ ((S ((hs x + e) % N) = iI (-1) ∧ ¬ x ∈ L) ∨ (S ((hs x + e) % N) = iI (L.idxOf x : Int) ∧ x ∈ L))
theorem getD_mem {L : List Int64} {k : Nat} (h : k < L.length) : L.getD k 0 ∈ L := by
  rw [List.getD_eq_getElem?_getD, List.getElem?_eq_getElem h]; exact List.getElem_mem h
theorem idxOf_getD {L : List Int64} (hn : L.Nodup) {k : Nat} (h : k < L.length) : L.idxOf (L.getD k 0) = k := by
  rw [List.getD_eq_getElem?_getD, List.getElem?_eq_getElem h]
  exact hn.idxOf_getElem k h
theorem HT_find {N : Nat} {hs : Int64 → Nat} (hN : N ≤ 32768) (hh : ∀ x, hs x < N) {S : Nat → Int32} {L : List Int64} (H : HT N hs S L) (hL : L.length < N) (hn : L.Nodup) (x : Int64) : ∃ e, hEnd N hs S L x e := by
  obtain ⟨h1, h2, h3⟩ := H
  have ex : ∃ e, e < N ∧ (S ((hs x + e) % N) = iI (-1) ∨ ∃ k : Nat, k < L.length ∧ S ((hs x + e) % N) = iI (k : Int) ∧ L.getD k 0 = x) := by
    obtain ⟨j, j1, j2⟩ := cnt_full (Nat.lt_of_le_of_lt h2 hL)
    obtain ⟨e, e1, e2⟩ := mod_reach (hh x) j1
    refine ⟨e, e1, Or.inl ?_⟩
    rw [e2]
    exact Classical.byContradiction fun z => by rw [decide_eq_true z] at j2; cases j2
  obtain ⟨e, e1, e2, e3⟩ := least N ex
  refine ⟨e, e1, fun e' he' => ?_, ?_⟩
  · have hno := e3 e' he'
    rcases h1 ((hs x + e') % N) (Nat.mod_lt _ (by omega)) with q | ⟨k, k1, k2⟩
    · exact absurd (Or.inl q) hno
    · exact ⟨k, k1, k2, fun z => hno (Or.inr ⟨k, k1, k2, z⟩)⟩
  · rcases e2 with q | ⟨k, k1, k2, k3⟩
    · refine Or.inl ⟨q, fun hx => ?_⟩
      obtain ⟨k, k1, k2⟩ := List.mem_iff_getElem.mp hx
      have kx : L.getD k 0 = x := by rw [List.getD_eq_getElem?_getD, List.getElem?_eq_getElem k1]; exact k2
      obtain ⟨f, f1, f2, f3⟩ := h3 k k1
      rw [kx] at f2 f3
      rcases Nat.lt_or_ge e f with z | z
      · exact f3 e z q
      · by_cases z2 : e = f
        · rw [z2] at q
          exact iI_ne (by omega) (f2.symm.trans q)
        · exact e3 f (by omega) (Or.inr ⟨k, k1, f2, kx⟩)
    · refine Or.inr ⟨?_, by rw [← k3]; exact getD_mem k1⟩
      rw [k2, ← k3, idxOf_getD hn k1]
theorem cnt_up {n : Nat} {p q : Nat → Bool} {j : Nat} (h : ∀ i, i ≠ j → q i = p i) (hj : p j = false) : cntN n q ≤ cntN n p + 1 := by
  induction n with
  | zero => exact Nat.zero_le _
  | succ n ih =>
    rw [cntN_s, cntN_s]
    by_cases e : n = j
    · have : cntN n q = cntN n p := by
        have : ∀ m, m ≤ n → cntN m q = cntN m p := by
          intro m
          induction m with
          | zero => intro _; rfl
          | succ m im => intro hm; rw [cntN_s, cntN_s, im (by omega), h m (by omega)]
        exact this n (Nat.le_refl _)
      rw [this, e, hj]
      split <;> simp
    · rw [h n e]
      split <;> omega
theorem HT_new {N : Nat} {hs : Int64 → Nat} (hN : N ≤ 32768) (hh : ∀ x, hs x < N) {S S' : Nat → Int32} {L : List Int64} (H : HT N hs S L) (hL : L.length < N) {x : Int64} {e : Nat} (he : hEnd N hs S L x e) (hx : ¬ x ∈ L) (hS : ∀ i, S' i = if i = (hs x + e) % N then iI (L.length : Int) else S i) : HT N hs S' (L ++ [x]) := by
  obtain ⟨h1, h2, h3⟩ := H
  obtain ⟨a1, a2, a3⟩ := he
  have hemp : S ((hs x + e) % N) = iI (-1) := by
    rcases a3 with q | q
    · exact q.1
    · exact absurd q.2 hx
  refine ⟨fun j hj => ?_, ?_, fun k hk => ?_⟩
  · rw [hS j, List.length_append, List.length_singleton]
    by_cases c : j = (hs x + e) % N
    · rw [if_pos c]; exact Or.inr ⟨L.length, by omega, rfl⟩
    · rw [if_neg c]
      rcases h1 j hj with q | ⟨k, k1, k2⟩
      · exact Or.inl q
      · exact Or.inr ⟨k, by omega, k2⟩
  · rw [List.length_append, List.length_singleton]
    have := cnt_up (n := N) (p := fun j => decide (¬ S j = iI (-1))) (q := fun j => decide (¬ S' j = iI (-1))) (j := (hs x + e) % N) (fun i hi => by
      show decide (¬ S' i = iI (-1)) = decide (¬ S i = iI (-1))
      rw [hS i, if_neg hi]) (decide_eq_false (fun z => z hemp))
    omega
  · rw [List.length_append, List.length_singleton] at hk
    by_cases c : k = L.length
    · subst c
      rw [getD_app2]
      refine ⟨e, a1, by rw [hS, if_pos rfl], fun e' he' => ?_⟩
      obtain ⟨k, k1, k2, k3⟩ := a2 e' he'
      rw [hS]
      split
      · exact iI_ne (by omega)
      · rw [k2]; exact iI_ne (by omega)
    · rw [getD_app1 _ _ _ (by omega)]
      obtain ⟨f, f1, f2, f3⟩ := h3 k (by omega)
      refine ⟨f, f1, ?_, fun e' he' => ?_⟩
      · rw [hS, if_neg (fun z => ?_)]
        · exact f2
        · rw [z, hemp] at f2
          exact iI_ne (by omega) f2.symm
      · rw [hS]
        split
        · exact iI_ne (by omega)
        · exact f3 e' he'
theorem and_mask {a k : Nat} (ha : a < 2147483648) (hk : k ≤ 16) : iI (a : Int) &&& iI ((2 ^ k - 1 : Nat) : Int) = iI ((a % 2 ^ k : Nat) : Int) := by
  have hp : 2 ^ k ≤ 65536 := Nat.le_trans (Nat.pow_le_pow_right (by omega) hk) (by decide)
  have e : ∀ n : Nat, n < 2147483648 → (iI (n : Int)).toBitVec = BitVec.ofNat 32 n := fun n hn => by
    show BitVec.ofInt 32 (n : Int) = _
    exact BitVec.ofInt_natCast 32 n
  have hm : a % 2 ^ k < 2147483648 := Nat.lt_of_le_of_lt (Nat.mod_le _ _) ha
  refine Int32.toBitVec_inj.mp ?_
  rw [Int32.toBitVec_and, e a ha, e _ (by omega), e _ hm]
  refine BitVec.eq_of_toNat_eq ?_
  rw [BitVec.toNat_and, BitVec.toNat_ofNat, BitVec.toNat_ofNat, BitVec.toNat_ofNat, Nat.mod_eq_of_lt (show a < 2 ^ 32 by omega), Nat.mod_eq_of_lt (show 2 ^ k - 1 < 2 ^ 32 by omega), Nat.mod_eq_of_lt (show a % 2 ^ k < 2 ^ 32 by omega), Nat.and_two_pow_sub_one_eq_mod]
theorem hi_bits (x : Int64) {c : Nat} (h : 34 ≤ c) (hc : c < 64) : ((x.toUInt64 >>> ((iI (c : Int)).toInt64.toUInt64 &&& Int64.toUInt64 63)).toInt64).toInt32 = iI ((tn x / 2 ^ c : Nat) : Int) ∧ tn x / 2 ^ c < 2 ^ (64 - c) := by
  have hlt : tn x / 2 ^ c < 2 ^ (64 - c) := by
    rw [Nat.div_lt_iff_lt_mul (Nat.pow_pos (by omega)), ← Nat.pow_add, show 64 - c + c = 64 by omega]
    exact x.toBitVec.isLt
  have hp : 2 ^ (64 - c) ≤ 2 ^ 30 := Nat.pow_le_pow_right (by omega) (by omega)
  refine ⟨?_, hlt⟩
  have e1 : ∀ c : Fin 64, ((iI (c.val : Int)).toInt64.toUInt64 &&& Int64.toUInt64 63).toBitVec.toNat % 64 = c.val := by decide +kernel
  have e2 : tn ((x.toUInt64 >>> ((iI (c : Int)).toInt64.toUInt64 &&& Int64.toUInt64 63)).toInt64) = tn x / 2 ^ c := by
    unfold tn
    show (x.toUInt64 >>> ((iI (c : Int)).toInt64.toUInt64 &&& Int64.toUInt64 63)).toBitVec.toNat = _
    rw [UInt64.toBitVec_shiftRight, BitVec.ushiftRight_eq', BitVec.toNat_ushiftRight, BitVec.toNat_umod]
    have := e1 ⟨c, hc⟩
    replace this : ((iI (c : Int)).toInt64.toUInt64 &&& Int64.toUInt64 63).toBitVec.toNat % 64 = c := this
    show x.toBitVec.toNat >>> (((iI (c : Int)).toInt64.toUInt64 &&& Int64.toUInt64 63).toBitVec.toNat % 64) = _
    rw [this, Nat.shiftRight_eq_div_pow]
  generalize ((x.toUInt64 >>> ((iI (c : Int)).toInt64.toUInt64 &&& Int64.toUInt64 63)).toInt64) = y at e2 ⊢
  refine Int32.toBitVec_inj.mp (BitVec.eq_of_toNat_eq ?_)
  show y.toInt32.toBitVec.toNat = (BitVec.ofInt 32 ((tn x / 2 ^ c : Nat) : Int)).toNat
  rw [Int64.toBitVec_toInt32, BitVec.signExtend_eq_setWidth_of_le _ (by omega), BitVec.toNat_setWidth, BitVec.ofInt_natCast, BitVec.toNat_ofNat]
  show tn y % _ = _
  rw [e2]
