/-! ===== the class: blocks of the low things ===== -/
def bkN : Nat → (Nat → Bool) → Nat
  | 0, _ => 0
  | n + 1, p => if p n = true then bkN n p ||| 2 ^ n else bkN n p
theorem bk_tb (n : Nat) (p : Nat → Bool) (s : Nat) : (bkN n p).testBit s = (decide (s < n) && p s) := by
  induction n with
  | zero => show (0 : Nat).testBit s = _; rw [Nat.zero_testBit, decide_eq_false (Nat.not_lt_zero s)]; rfl
  | succ n ih =>
    show (if p n = true then bkN n p ||| 2 ^ n else bkN n p).testBit s = _
    by_cases q : p n = true
    · rw [if_pos q, Nat.testBit_or, ih, Nat.testBit_two_pow]
      by_cases e : s = n
      · subst e; rw [decide_eq_true (show s = s from rfl), decide_eq_true (show s < s + 1 by omega), q, Bool.or_true]; rfl
      · rw [decide_eq_false (show ¬ n = s by omega), Bool.or_false]
        congr 1
        by_cases z : s < n
        · rw [decide_eq_true z, decide_eq_true (show s < n + 1 by omega)]
        · rw [decide_eq_false z, decide_eq_false (show ¬ s < n + 1 by omega)]
    · rw [if_neg q, ih]
      by_cases e : s = n
      · subst e
        have : p s = false := by cases y : p s; rfl; exact absurd y q
        rw [this, Bool.and_false, Bool.and_false]
      · congr 1
        by_cases z : s < n
        · rw [decide_eq_true z, decide_eq_true (show s < n + 1 by omega)]
        · rw [decide_eq_false z, decide_eq_false (show ¬ s < n + 1 by omega)]
theorem bk_lt (n : Nat) (p : Nat → Bool) : bkN n p < 2 ^ n := by
  induction n with
  | zero => exact Nat.one_pos
  | succ n ih =>
    show (if p n = true then bkN n p ||| 2 ^ n else bkN n p) < 2 ^ (n + 1)
    have h2 : 2 ^ (n + 1) = 2 ^ n * 2 := Nat.pow_succ 2 n
    split
    · exact Nat.or_lt_two_pow (by omega) (by omega)
    · omega
theorem bk_or {b s : Nat} (hb : b < 256) (hs : s < 8) : iI (b : Int) ||| ((1 : Int32) <<< (iI (s : Int) &&& 31)) = iI ((b ||| 2 ^ s : Nat) : Int) := by
  have : ∀ b : Fin 256, ∀ s : Fin 8, iI (b.val : Int) ||| ((1 : Int32) <<< (iI (s.val : Int) &&& 31)) = iI ((b.val ||| 2 ^ s.val : Nat) : Int) := by decide +kernel
  exact this ⟨b, hb⟩ ⟨s, hs⟩
def lwN (d : TD) : Nat := (dM d + 1) ^ (dT d / 2)
def blk (d : TD) (low bar : Nat) : Nat := bkN (2 ^ (dT d / 2)) (fun s => decide (bar ≤ wtS (dg d low) s))
theorem lw_le {d : TD} (hd : wfD d) : lwN d ≤ 128 ∧ 1 ≤ lwN d := by
  have h1 : lwN d * lwN d ≤ dW d := by
    unfold lwN dW
    rw [← Nat.pow_add]
    exact Nat.pow_le_pow_right (by omega) (by omega)
  have h2 := hd.2.2.2.2.2.2
  refine ⟨?_, Nat.pow_pos (by omega)⟩
  rcases Nat.lt_or_ge (lwN d) 129 with z | z
  · omega
  · have := Nat.mul_le_mul z z
    omega
theorem sh_w {t : Nat} (h : t ≤ 6) : (1 : Int32) <<< (iI (t : Int) &&& 31) = iI ((2 ^ t : Nat) : Int) := by
  have := iI_shl1 (t := t) (by omega)
  exact this
/-- one block -/
theorem low_5 {A : Nat → Nat} {σ : AM} (H : LC A σ) {d : TD} (hd : wfD d) {m : VM} {low bar : Nat} (hl : low < lwN d) (hbar : bar < dB d + 1) (hs : ∀ s, s < sN d → m.1 19 s = iI (wtS (dg d low) s : Int)) (hn : lwN d * (dB d + 1) ≤ aN σ (A 26)) (hn2 : aN σ (A 26) ≤ 15616) : L_Ls_makeLowBlocks_5 (A 17) (iI ((dT d / 2 : Nat) : Int)) (iI (lwN d : Int)) (iI ((dB d + 1 : Nat) : Int)) (iI (low : Int)) (iI (bar : Int)) (iI 0) (iI 0) (ov 68 A m σ) = L_Ls_makeLowBlocks_4 (A 17) (iI ((dT d / 2 : Nat) : Int)) (iI (lwN d : Int)) (iI ((dB d + 1 : Nat) : Int)) (iI (low : Int)) (iI ((bar + 1 : Nat) : Int)) (ov 68 A (sV m 26 (low * (dB d + 1) + bar) (iI (blk d low bar : Int))) σ) := by
  have h6 := hd.1
  have hB := hd.2.2.2.2.1
  have l0 : ∀ k : Nat, iI (k : Int) + (1 : Int32) = iI ((k + 1 : Nat) : Int) := fun k => by rw [l_1, iI_add, iI_s]
  have hp8 : 2 ^ (dT d / 2) ≤ 8 := Nat.le_trans (Nat.pow_le_pow_right (by omega) (show dT d / 2 ≤ 3 by omega)) (by decide)
  have hpN : 2 ^ (dT d / 2) ≤ sN d := Nat.pow_le_pow_right (by omega) (by omega)
  have hsN := sN_le hd
  have hwl : ∀ s, wtS (dg d low) s ≤ 1000 := fun s => Nat.le_trans (wtS_le (c := 9) (fun t => Nat.le_trans (dg_le _ _ _) hd.2.2.1) s) (by omega)
  have hsh := sh_w (t := dT d / 2) (by omega)
  have hidx : low * (dB d + 1) + bar < aN σ (A 26) := by
    have := Nat.mul_le_mul_right (dB d + 1) (show low + 1 ≤ lwN d by omega)
    rw [Nat.succ_mul] at this
    omega
  have hix : iI (low : Int) * iI ((dB d + 1 : Nat) : Int) + iI (bar : Int) = iI ((low * (dB d + 1) + bar : Nat) : Int) := by
    rw [iI_mul, iI_add]; exact congrArg iI (by rw [← Int.natCast_mul, ← Int.natCast_add])
  have lp := up_loop (fun k => L_Ls_makeLowBlocks_5 (A 17) (iI ((dT d / 2 : Nat) : Int)) (iI (lwN d : Int)) (iI ((dB d + 1 : Nat) : Int)) (iI (low : Int)) (iI (bar : Int)) (iI (bkN k (fun s => decide (bar ≤ wtS (dg d low) s)) : Int)) (iI (k : Int)) (ov 68 A m σ)) (2 ^ (dT d / 2)) (L_Ls_makeLowBlocks_4 (A 17) (iI ((dT d / 2 : Nat) : Int)) (iI (lwN d : Int)) (iI ((dB d + 1 : Nat) : Int)) (iI (low : Int)) (iI ((bar + 1 : Nat) : Int)) (ov 68 A (sV m 26 (low * (dB d + 1) + bar) (iI (blk d low bar : Int))) σ)) (fun k hk ih => by
    have e1 := hs k (by omega)
    have hwk := hwl k
    have c1 : iI (k : Int) < iI ((2 ^ (dT d / 2) : Nat) : Int) := by
      generalize 2 ^ (dT d / 2) = P at *
      rw [iI_lt (by omega) (by omega) (by omega) (by omega)]; omega
    have es : bkN (k + 1) (fun s => decide (bar ≤ wtS (dg d low) s)) = if decide (bar ≤ wtS (dg d low) k) = true then bkN k (fun s => decide (bar ≤ wtS (dg d low) s)) ||| 2 ^ k else bkN k (fun s => decide (bar ≤ wtS (dg d low) s)) := rfl
    have hbk : bkN k (fun s => decide (bar ≤ wtS (dg d low) s)) < 256 := Nat.lt_of_lt_of_le (bk_lt _ _) (Nat.le_trans (Nat.pow_le_pow_right (by omega) (show k ≤ 8 by omega)) (by decide))
    show L_Ls_makeLowBlocks_5 _ _ _ _ _ _ _ _ _ = _
    replace ih : L_Ls_makeLowBlocks_5 _ _ _ _ _ _ _ _ _ = _ := ih
    rw [es] at ih
    by_cases q : bar ≤ wtS (dg d low) k
    · have c2 : ¬ iI (wtS (dg d low) k : Int) < iI (bar : Int) := by rw [iI_lt (by omega) (by omega) (by omega) (by omega)]; omega
      rw [if_pos (decide_eq_true q)] at ih
      rw [E_Ls_makeLowBlocks_5, hsh, if_pos c1, okO_ov, aR_ov, aN_ov, cK_17 H, gd_true, cR_17_2 H, cK_19 H, gd_true, cN_19 H, gd_in (by omega) (by omega) (by omega), iI_cl (by omega) (by omega), Int.toNat_natCast, aI_ov H.1 _ _ (by omega), e1, if_neg c2, letT_eq, bk_or hbk (by omega), E_Ls_makeLowBlocks_6, l0]
      exact ih
    · have c2 : iI (wtS (dg d low) k : Int) < iI (bar : Int) := by rw [iI_lt (by omega) (by omega) (by omega) (by omega)]; omega
      rw [if_neg (by rw [decide_eq_false q]; decide)] at ih
      rw [E_Ls_makeLowBlocks_5, hsh, if_pos c1, okO_ov, aR_ov, aN_ov, cK_17 H, gd_true, cR_17_2 H, cK_19 H, gd_true, cN_19 H, gd_in (by omega) (by omega) (by omega), iI_cl (by omega) (by omega), Int.toNat_natCast, aI_ov H.1 _ _ (by omega), e1, if_pos c2, E_Ls_makeLowBlocks_6, l0]
      exact ih) (by
    have c1 : ¬ iI ((2 ^ (dT d / 2) : Nat) : Int) < iI ((2 ^ (dT d / 2) : Nat) : Int) := Int32.lt_irrefl
    show L_Ls_makeLowBlocks_5 _ _ _ _ _ _ _ _ _ = _
    rw [E_Ls_makeLowBlocks_5, hsh, if_neg c1, okO_ov, aR_ov, aN_ov, cK_17 H, gd_true, cR_17_9 H, cK_26 H, gd_true, hix, gd_in (by omega) (by omega) (by omega), iI_cl (by omega) (by omega), Int.toNat_natCast, sI_ov H.1 _ _ (by omega), letT_eq, l0]
    rfl) 0 (Nat.zero_le _)
  exact lp
theorem low_3 {A : Nat → Nat} {σ : AM} (H : LC A σ) {d : TD} (hd : wfD d) {m : VM} (h7 : m.1 10 7 = iI (dT d : Int)) (h8 : m.1 10 8 = iI (dM d : Int)) (hn : lwN d * (dB d + 1) ≤ aN σ (A 26)) (hn2 : aN σ (A 26) ≤ 15616) : ∃ m' : VM, L_Ls_makeLowBlocks_3 (A 17) (iI ((dT d / 2 : Nat) : Int)) (iI (lwN d : Int)) (iI ((dB d + 1 : Nat) : Int)) (iI 0) (ov 68 A m σ) = some (iI (lwN d : Int), (ov 68 A (m') σ)) ∧ (∀ c, c ∉ [18, 19, 26] → m'.1 c = m.1 c) ∧ m'.2 = m.2 ∧ ∀ i, i < lwN d * (dB d + 1) → m'.1 26 i = iI (blk d (i / (dB d + 1)) (i % (dB d + 1)) : Int) := by
  have hB := hd.2.2.2.2.1
  have hlw := lw_le hd
  have l0 : ∀ k : Nat, iI (k : Int) + (1 : Int32) = iI ((k + 1 : Nat) : Int) := fun k => by rw [l_1, iI_add, iI_s]
  refine up_loopI (fun k mm => L_Ls_makeLowBlocks_3 (A 17) (iI ((dT d / 2 : Nat) : Int)) (iI (lwN d : Int)) (iI ((dB d + 1 : Nat) : Int)) (iI (k : Int)) (ov 68 A mm σ)) (fun k mm => (∀ c, c ∉ [18, 19, 26] → mm.1 c = m.1 c) ∧ mm.2 = m.2 ∧ ∀ i, i < k * (dB d + 1) → mm.1 26 i = iI (blk d (i / (dB d + 1)) (i % (dB d + 1)) : Int)) (fun X => ∃ m' : VM, X = some (iI (lwN d : Int), (ov 68 A (m') σ)) ∧ (∀ c, c ∉ [18, 19, 26] → m'.1 c = m.1 c) ∧ m'.2 = m.2 ∧ ∀ i, i < lwN d * (dB d + 1) → m'.1 26 i = iI (blk d (i / (dB d + 1)) (i % (dB d + 1)) : Int)) (lwN d) (fun k mm hk ⟨i1, i2, i3⟩ ih => ?_) (fun mm ⟨i1, i2, i3⟩ => ?_) 0 _ (Nat.zero_le _) ⟨fun _ _ => rfl, rfl, fun i hi => absurd hi (by rw [Nat.zero_mul]; exact Nat.not_lt_zero i)⟩
  · obtain ⟨m1, e1, o1, _, s1⟩ := p_Ls_weigh H (m := mm) (d := d) hd.1 hd.2.2.1 (by rw [i1 10 (by decide)]; exact h7) (by rw [i1 10 (by decide)]; exact h8) (w := k) (by omega)
    have c1 : iI (k : Int) < iI (lwN d : Int) := by rw [iI_lt (by omega) (by omega) (by omega) (by omega)]; omega
    have bars : ∃ m2 : VM, L_Ls_makeLowBlocks_4 (A 17) (iI ((dT d / 2 : Nat) : Int)) (iI (lwN d : Int)) (iI ((dB d + 1 : Nat) : Int)) (iI (k : Int)) (iI ((0 : Nat) : Int)) (ov 68 A m1 σ) = L_Ls_makeLowBlocks_3 (A 17) (iI ((dT d / 2 : Nat) : Int)) (iI (lwN d : Int)) (iI ((dB d + 1 : Nat) : Int)) (iI ((k + 1 : Nat) : Int)) (ov 68 A m2 σ) ∧ (∀ c, c ≠ 26 → m2.1 c = m1.1 c) ∧ m2.2 = m1.2 ∧ ∀ i, i < k * (dB d + 1) + (dB d + 1) → m2.1 26 i = iI (blk d (i / (dB d + 1)) (i % (dB d + 1)) : Int) := by
      refine up_loopI (fun j mq => L_Ls_makeLowBlocks_4 (A 17) (iI ((dT d / 2 : Nat) : Int)) (iI (lwN d : Int)) (iI ((dB d + 1 : Nat) : Int)) (iI (k : Int)) (iI (j : Int)) (ov 68 A mq σ)) (fun j mq => (∀ c, c ≠ 26 → mq.1 c = m1.1 c) ∧ mq.2 = m1.2 ∧ ∀ i, i < k * (dB d + 1) + j → mq.1 26 i = iI (blk d (i / (dB d + 1)) (i % (dB d + 1)) : Int)) (fun X => ∃ m2 : VM, X = L_Ls_makeLowBlocks_3 (A 17) (iI ((dT d / 2 : Nat) : Int)) (iI (lwN d : Int)) (iI ((dB d + 1 : Nat) : Int)) (iI ((k + 1 : Nat) : Int)) (ov 68 A m2 σ) ∧ (∀ c, c ≠ 26 → m2.1 c = m1.1 c) ∧ m2.2 = m1.2 ∧ ∀ i, i < k * (dB d + 1) + (dB d + 1) → m2.1 26 i = iI (blk d (i / (dB d + 1)) (i % (dB d + 1)) : Int)) (dB d + 1) (fun j mq hj ⟨q1, q2, q3⟩ ih2 => ?_) (fun mq ⟨q1, q2, q3⟩ => ?_) 0 _ (Nat.zero_le _) ⟨fun _ _ => rfl, rfl, fun i hi => by rw [o1.1 26 (by decide) (by decide)]; exact i3 i (by omega)⟩
      · have c2 : iI (j : Int) < iI ((dB d + 1 : Nat) : Int) := by rw [iI_lt (by omega) (by omega) (by omega) (by omega)]; omega
        show ∃ m2 : VM, L_Ls_makeLowBlocks_4 _ _ _ _ _ _ _ = _ ∧ _
        rw [E_Ls_makeLowBlocks_4, if_pos c2, l_0, low_5 H hd hk hj (fun s hs => by rw [q1 19 (by decide)]; exact s1 s hs) hn hn2]
        refine ih2 _ ⟨fun c hc => by rw [sV_ne _ _ _ _ hc]; exact q1 c hc, q2, fun i hi => ?_⟩
        rw [sV_eq]
        by_cases e : i = k * (dB d + 1) + j
        · rw [if_pos e, e]
          have d1 : (k * (dB d + 1) + j) / (dB d + 1) = k := by rw [Nat.mul_comm, Nat.mul_add_div (by omega), Nat.div_eq_of_lt hj]; omega
          have d2 : (k * (dB d + 1) + j) % (dB d + 1) = j := by rw [Nat.mul_comm, Nat.mul_add_mod, Nat.mod_eq_of_lt hj]
          rw [d1, d2]
        · rw [if_neg e]; exact q3 i (by omega)
      · have c2 : ¬ iI ((dB d + 1 : Nat) : Int) < iI ((dB d + 1 : Nat) : Int) := Int32.lt_irrefl
        refine ⟨mq, ?_, q1, q2, q3⟩
        show L_Ls_makeLowBlocks_4 _ _ _ _ _ _ _ = _
        rw [E_Ls_makeLowBlocks_4, if_neg c2, l0]
    obtain ⟨m2, e2, q1, q2, q3⟩ := bars
    replace e2 : L_Ls_makeLowBlocks_4 (A 17) (iI ((dT d / 2 : Nat) : Int)) (iI (lwN d : Int)) (iI ((dB d + 1 : Nat) : Int)) (iI (k : Int)) (iI 0) _ = _ := e2
    show ∃ m' : VM, L_Ls_makeLowBlocks_3 _ _ _ _ _ _ = _ ∧ _
    rw [E_Ls_makeLowBlocks_3, if_pos c1, okO_ov, cK_17 H, gd_true, e1, bnd_some, l_0, e2]
    refine ih _ ⟨fun c hc => ?_, by rw [q2, o1.2]; exact i2, fun i hi => q3 i (by rw [Nat.succ_mul] at hi; exact hi)⟩
    have h3 := hc
    simp only [List.mem_cons, List.not_mem_nil, or_false, not_or] at h3
    rw [q1 c h3.2.2, o1.1 c h3.1 h3.2.1]; exact i1 c hc
  · have c1 : ¬ iI (lwN d : Int) < iI (lwN d : Int) := Int32.lt_irrefl
    refine ⟨mm, ?_, i1, i2, i3⟩
    show L_Ls_makeLowBlocks_3 _ _ _ _ _ _ = _
    rw [E_Ls_makeLowBlocks_3, if_neg c1]
theorem p_low {A : Nat → Nat} {σ : AM} (H : LC A σ) {d : TD} (hd : wfD d) {m : VM} (h7 : m.1 10 7 = iI (dT d : Int)) (h8 : m.1 10 8 = iI (dM d : Int)) (h9 : m.1 10 9 = iI (dB d : Int)) {z u : Nat} (hM : RmI z u A σ) : ∃ (A' : Nat → Nat) (σ' : AM) (m' : VM), M_Ls_makeLowBlocks (A 17) (iI ((dT d / 2 : Nat) : Int)) (ov 68 A m σ) = some (iI (lwN d : Int), ov 68 A' m' σ') ∧ LC A' σ' ∧ (∀ k, k ≠ 26 → A' k = A k) ∧ (∀ k, k < 68 → k ∉ [18, 19, 26] → m'.1 k = m.1 k) ∧ (∀ k, k < 68 → k ≠ 26 → m'.2 k = m.2 k ∧ aN σ' (A' k) = aN σ (A k)) ∧ RmI (z + 1) u A' σ' ∧ Ext A σ A' σ' ∧ lwN d * (dB d + 1) ≤ aN σ' (A' 26) ∧ ∀ i, i < lwN d * (dB d + 1) → m'.1 26 i = iI (blk d (i / (dB d + 1)) (i % (dB d + 1)) : Int) := by
  have h6 := hd.1
  have hm9 := hd.2.2.1
  have hB := hd.2.2.2.2.1
  have hlw := lw_le hd
  have hlb : lwN d * (dB d + 1) ≤ 7808 := Nat.le_trans (Nat.mul_le_mul hlw.1 (show dB d + 1 ≤ 61 by omega)) (by decide)
  have l0 : ∀ k : Nat, iI (k : Int) + (1 : Int32) = iI ((k + 1 : Nat) : Int) := fun k => by rw [l_1, iI_add, iI_s]
  obtain ⟨R1, R2, R3, R4, R5, R6, R7, R8⟩ := hM
  have qm := q_Tw_most (LTt H) m
  rw [h8] at qm
  have qb := q_Tw_bar (LTt H) m
  rw [h9] at qb
  have hmu : iI (lwN d : Int) * iI ((dB d + 1 : Nat) : Int) = iI ((lwN d * (dB d + 1) : Nat) : Int) := by rw [iI_mul]; exact congrArg iI (by rw [← Int.natCast_mul])
  have lp := up_loop (fun k => L_Ls_makeLowBlocks_1 (A 17) (iI ((dT d / 2 : Nat) : Int)) (iI (((dM d + 1) ^ k : Nat) : Int)) (iI (k : Int)) (ov 68 A m σ)) (dT d / 2) (L_Ls_makeLowBlocks_1 (A 17) (iI ((dT d / 2 : Nat) : Int)) (iI (lwN d : Int)) (iI ((dT d / 2 : Nat) : Int)) (ov 68 A m σ)) (fun k hk ih => by
    have c1 : iI (k : Int) < iI ((dT d / 2 : Nat) : Int) := by rw [iI_lt (by omega) (by omega) (by omega) (by omega)]; omega
    have em : iI (((dM d + 1) ^ k : Nat) : Int) * iI ((dM d + 1 : Nat) : Int) = iI (((dM d + 1) ^ (k + 1) : Nat) : Int) := by rw [iI_mul, Nat.pow_succ]; exact congrArg iI (by rw [← Int.natCast_mul])
    show L_Ls_makeLowBlocks_1 _ _ _ _ _ = _
    rw [E_Ls_makeLowBlocks_1, if_pos c1, okO_ov, aR_ov, cK_17 H, gd_true, cR_17_0 H, cK_10 H, gd_true, qm, bnd_some, l0, em, letT_eq, l0]
    exact ih) rfl 0 (Nat.zero_le _)
  rw [Nat.pow_zero] at lp
  replace lp : L_Ls_makeLowBlocks_1 (A 17) (iI ((dT d / 2 : Nat) : Int)) (iI 1) (iI 0) (ov 68 A m σ) = _ := lp
  have c0 : ¬ iI ((dT d / 2 : Nat) : Int) < iI ((dT d / 2 : Nat) : Int) := Int32.lt_irrefl
  have st : M_Ls_makeLowBlocks (A 17) (iI ((dT d / 2 : Nat) : Int)) (ov 68 A m σ) = mw (ov 68 A m σ) (L_Ls_makeLowBlocks_1 (A 17) (iI ((dT d / 2 : Nat) : Int)) (iI (lwN d : Int)) (iI ((dT d / 2 : Nat) : Int)) (ov 68 A m σ)) := by
    unfold M_Ls_makeLowBlocks
    rw [E_Ls_makeLowBlocks_0, l_1, l_0, lp]
  rw [st]
  by_cases hlt : aN σ (A 26) < lwN d * (dB d + 1)
  · have e2 : (2 : Int32) * iI (aN σ (A 26) : Int) = iI ((2 * aN σ (A 26) : Nat) : Int) := by rw [l_2, iI_mul]; exact congrArg iI (by omega)
    have hmx : mxI (iI ((lwN d * (dB d + 1) : Nat) : Int)) (iI ((2 * aN σ (A 26) : Nat) : Int)) = iI ((max (lwN d * (dB d + 1)) (2 * aN σ (A 26)) : Nat) : Int) := by
      rw [mxI_iI (by omega) (by omega) (by omega) (by omega)]
      exact congrArg iI (by split <;> omega)
    obtain ⟨n1, hn⟩ : ∃ n1, max (lwN d * (dB d + 1)) (2 * aN σ (A 26)) = n1 := ⟨_, rfl⟩
    rw [hn] at hmx
    have b1 : lwN d * (dB d + 1) ≤ n1 ∧ n1 ≤ 15616 ∧ 2 * aN σ (A 26) ≤ n1 := by omega
    obtain ⟨A1, σ1, m1, e1, L1, a1, k1, c1, z1, u1, x1⟩ := re_step (LC_x H) m n1 (f := 9) (c := 26) (kd := 101) (by decide)
    have p1 : A1 17 = A 17 := a1 17 (by decide)
    have nO : ∀ q, q < 68 → q ≠ 26 → aN σ1 (A1 q) = aN σ (A q) := fun q h1 h2 => (k1 q h1 h2).2.2
    have H1 : LC A1 σ1 := LC_of L1 (by rw [nO 22 (by decide) (by decide), nO 21 (by decide) (by decide)]; exact H.2.2.2.2.1) (by rw [nO 23 (by decide) (by decide), nO 21 (by decide) (by decide)]; exact H.2.2.2.2.2.1) (by rw [nO 24 (by decide) (by decide), nO 21 (by decide) (by decide)]; exact H.2.2.2.2.2.2.1) (by rw [nO 37 (by decide) (by decide), nO 38 (by decide) (by decide)]; exact H.2.2.2.2.2.2.2.1)
    obtain ⟨m2, e2', g1, g2, g3⟩ := low_3 H1 hd (m := m1) (by rw [(k1 10 (by decide) (by decide)).1]; exact h7) (by rw [(k1 10 (by decide) (by decide)).1]; exact h8) (by omega) (by omega)
    refine ⟨A1, σ1, m2, ?_, H1, a1, fun q h1 h2 => ?_, fun q h1 h2 => ⟨by rw [g2]; exact (k1 q h1 h2).2.1, nO q h1 h2⟩, ?_, x1, by omega, g3⟩
    · have q1 : iI (aN σ (A 26) : Int) < iI ((lwN d * (dB d + 1) : Nat) : Int) := by rw [iI_lt (by omega) (by omega) (by omega) (by omega)]; omega
      rw [E_Ls_makeLowBlocks_1, if_neg c0, okO_ov, aR_ov, cK_17 H, gd_true, cR_17_0 H, cK_10 H, gd_true, qb, bnd_some, l0, letT_eq, okO_ov, aR_ov, aN_ov, cK_17 H, gd_true, cR_17_9 H, cK_26 H, gd_true, nI_iI, hmu, if_pos q1, e2, hmx, gd_okN (by omega) (by omega), iI_cl (by omega) (by omega), Int.toNat_natCast, e1, ← p1, E_Ls_makeLowBlocks_2, l_0, e2']
      exact mw_of x1.2.1 x1.2.2.1
    · have h3 := h2
      simp only [List.mem_cons, List.not_mem_nil, or_false, not_or] at h3
      rw [g1 q h2]; exact (k1 q h1 h3.2.2).1
    · refine ⟨by omega, ?_, by rw [nO 21 (by decide) (by decide)]; exact R3, by rw [nO 25 (by decide) (by decide)]; exact R4, by omega, by rw [nO 38 (by decide) (by decide), nO 21 (by decide) (by decide)]; exact R6, by rw [nO 38 (by decide) (by decide), nO 21 (by decide) (by decide)]; exact R7, by rw [nO 25 (by decide) (by decide)]; exact R8⟩
      rw [nO 21 (by decide) (by decide), nO 25 (by decide) (by decide), c1, nO 38 (by decide) (by decide), u1]
      omega
  · obtain ⟨m2, e2', g1, g2, g3⟩ := low_3 H hd (m := m) h7 h8 (by omega) R5
    refine ⟨A, σ, m2, ?_, H, fun _ _ => rfl, fun q h1 h2 => g1 q h2, fun q h1 h2 => ⟨by rw [g2], rfl⟩, ⟨by omega, R2, R3, R4, R5, R6, R7, R8⟩, Ext_r _ _, by omega, g3⟩
    have q1 : ¬ iI (aN σ (A 26) : Int) < iI ((lwN d * (dB d + 1) : Nat) : Int) := by rw [iI_lt (by omega) (by omega) (by omega) (by omega)]; omega
    rw [E_Ls_makeLowBlocks_1, if_neg c0, okO_ov, aR_ov, cK_17 H, gd_true, cR_17_0 H, cK_10 H, gd_true, qb, bnd_some, l0, letT_eq, okO_ov, aR_ov, aN_ov, cK_17 H, gd_true, cR_17_9 H, cK_26 H, gd_true, nI_iI, hmu, if_neg q1, E_Ls_makeLowBlocks_2, l_0, e2', mw_ov]
