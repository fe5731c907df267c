/-! ===== the class: high things, lists put together ===== -/
theorem tb_split : ∀ lt : Fin 4, ∀ h : Fin 8, ∀ s : Fin 8, ∀ t : Fin 6, s.val < 2 ^ lt.val → (h.val * 2 ^ lt.val + s.val).testBit t.val = (s.val.testBit t.val || (h.val * 2 ^ lt.val).testBit t.val) ∧ (s.val.testBit t.val && (h.val * 2 ^ lt.val).testBit t.val) = false := by decide +kernel
theorem wt_split (f : Nat → Nat) {lt h s : Nat} (hl : lt ≤ 3) (hh : h < 8) (hs : s < 2 ^ lt) : wtS f (h * 2 ^ lt + s) = wtS f s + wtS f (h * 2 ^ lt) := by
  have hs8 : s < 8 := Nat.lt_of_lt_of_le hs (Nat.le_trans (Nat.pow_le_pow_right (by omega) hl) (by decide))
  unfold wtS
  rw [← sumN_add]
  refine sumN_congr fun t ht => ?_
  have := tb_split ⟨lt, by omega⟩ ⟨h, hh⟩ ⟨s, hs8⟩ ⟨t, ht⟩ hs
  replace this : (h * 2 ^ lt + s).testBit t = (s.testBit t || (h * 2 ^ lt).testBit t) ∧ (s.testBit t && (h * 2 ^ lt).testBit t) = false := this
  rw [this.1]
  cases q : s.testBit t
  · cases r : (h * 2 ^ lt).testBit t
    · rfl
    · simp
  · cases r : (h * 2 ^ lt).testBit t
    · simp
    · rw [q, r] at this; exact absurd this.2 (by decide)
theorem dg_low {d : TD} {w t : Nat} (ht : t < dT d / 2) : dg d (w % lwN d) t = dg d w t := by
  unfold dg lwN
  rw [if_pos (by omega), if_pos (by omega)]
  generalize hb : dM d + 1 = b
  have hbp : 0 < b := by omega
  obtain ⟨k, hk⟩ : ∃ k, dT d / 2 = t + (k + 1) := ⟨dT d / 2 - t - 1, by omega⟩
  rw [hk]
  have e1 : b ^ (t + (k + 1)) = b ^ t * (b * b ^ k) := by rw [Nat.pow_add, Nat.pow_succ, Nat.mul_comm (b ^ k) b]
  have e2 := Nat.div_add_mod w (b ^ (t + (k + 1)))
  generalize hq : w / b ^ (t + (k + 1)) = q at e2
  generalize hr : w % b ^ (t + (k + 1)) = r at e2 ⊢
  rw [e1] at e2
  rw [← e2, show b ^ t * (b * b ^ k) * q + r = b ^ t * (b * (b ^ k * q)) + r by simp only [Nat.mul_assoc], Nat.mul_add_div (Nat.pow_pos hbp), Nat.mul_add_mod]
theorem wt_low {d : TD} {w s : Nat} (hs : s < 2 ^ (dT d / 2)) : wtS (dg d (w % lwN d)) s = wtS (dg d w) s := by
  unfold wtS
  refine sumN_congr fun t ht => ?_
  by_cases q : s.testBit t = true
  · rw [if_pos q, if_pos q]
    refine dg_low ?_
    rcases Nat.lt_or_ge t (dT d / 2) with z | z
    · exact z
    · rw [Nat.testBit_lt_two_pow (Nat.lt_of_lt_of_le hs (Nat.pow_le_pow_right (by omega) z))] at q; cases q
  · rw [if_neg q, if_neg q]
theorem dg_high {d : TD} {w v t : Nat} (h : w / lwN d = v / lwN d) (ht : dT d / 2 ≤ t) : dg d w t = dg d v t := by
  unfold dg
  by_cases c : t < dT d
  · rw [if_pos c, if_pos c]
    obtain ⟨k, hk⟩ : ∃ k, t = dT d / 2 + k := ⟨t - dT d / 2, by omega⟩
    rw [hk, Nat.pow_add, ← Nat.div_div_eq_div_mul, ← Nat.div_div_eq_div_mul]
    unfold lwN at h
    rw [h]
  · rw [if_neg c, if_neg c]
theorem tb_high : ∀ lt : Fin 4, ∀ h : Fin 8, ∀ t : Fin 6, t.val < lt.val → (h.val * 2 ^ lt.val).testBit t.val = false := by decide +kernel
theorem wt_high {d : TD} (hd : dT d ≤ 6) {w v h : Nat} (e : w / lwN d = v / lwN d) (hh : h < 8) : wtS (dg d w) (h * 2 ^ (dT d / 2)) = wtS (dg d v) (h * 2 ^ (dT d / 2)) := by
  unfold wtS
  refine sumN_congr fun t ht => ?_
  by_cases q : (h * 2 ^ (dT d / 2)).testBit t = true
  · rw [if_pos q, if_pos q]
    refine dg_high e ?_
    rcases Nat.lt_or_ge t (dT d / 2) with z | z
    · have := tb_high ⟨dT d / 2, by omega⟩ ⟨h, hh⟩ ⟨t, ht⟩ z
      replace this : (h * 2 ^ (dT d / 2)).testBit t = false := this
      rw [this] at q; cases q
    · exact z
  · rw [if_neg q, if_neg q]
theorem sh_h {h t : Nat} (hh : h < 8) (ht : t ≤ 3) : iI (h : Int) <<< (iI (t : Int) &&& 31) = iI ((h * 2 ^ t : Nat) : Int) := by
  have : ∀ h : Fin 8, ∀ t : Fin 4, iI (h.val : Int) <<< (iI (t.val : Int) &&& 31) = iI ((h.val * 2 ^ t.val : Nat) : Int) := by decide +kernel
  exact this ⟨h, hh⟩ ⟨t, by omega⟩
def hiN (d : TD) : Nat := 2 ^ (dT d - dT d / 2)
theorem hi_b {d : TD} (hd : dT d ≤ 6) : hiN d ≤ 8 ∧ hiN d * 2 ^ (dT d / 2) = sN d := by
  unfold hiN sN
  refine ⟨Nat.le_trans (Nat.pow_le_pow_right (by omega) (show dT d - dT d / 2 ≤ 3 by omega)) (by decide), ?_⟩
  rw [← Nat.pow_add, show dT d - dT d / 2 + dT d / 2 = dT d by omega]
theorem p_high {A : Nat → Nat} {σ : AM} (H : LC A σ) {d : TD} (hd : wfD d) {m : VM} (h7 : m.1 10 7 = iI (dT d : Int)) {w : Nat} (hr : rowE d w 18 m) : ∃ m' : VM, M_Ls_weighHigh (A 17) (iI ((dT d / 2 : Nat) : Int)) (ov 68 A m σ) = some ((), (ov 68 A (m') σ)) ∧ On1 20 m m' ∧ ∀ h, h < hiN d → m'.1 20 h = iI (wtS (dg d w) (h * 2 ^ (dT d / 2)) : Int) := by
  have h6 := hd.1
  obtain ⟨hh8, hhs⟩ := hi_b h6
  have l0 : ∀ k : Nat, iI (k : Int) + (1 : Int32) = iI ((k + 1 : Nat) : Int) := fun k => by rw [l_1, iI_add, iI_s]
  have hsub : iI (dT d : Int) - iI ((dT d / 2 : Nat) : Int) = iI ((dT d - dT d / 2 : Nat) : Int) := by rw [iI_sub]; exact congrArg iI (by omega)
  have hsh := sh_w (t := dT d - dT d / 2) (by omega)
  replace hsh : (1 : Int32) <<< (iI ((dT d - dT d / 2 : Nat) : Int) &&& 31) = iI (hiN d : Int) := hsh
  have lp : ∃ m' : VM, L_Ls_weighHigh_1 (A 17) (iI ((dT d / 2 : Nat) : Int)) (iI ((0 : Nat) : Int)) (ov 68 A m σ) = some ((), (ov 68 A (m') σ)) ∧ On1 20 m m' ∧ ∀ h, h < hiN d → m'.1 20 h = iI (wtS (dg d w) (h * 2 ^ (dT d / 2)) : Int) := by
    refine up_loopI (fun k mm => L_Ls_weighHigh_1 (A 17) (iI ((dT d / 2 : Nat) : Int)) (iI (k : Int)) (ov 68 A mm σ)) (fun k mm => On1 20 m mm ∧ ∀ h, h < k → mm.1 20 h = iI (wtS (dg d w) (h * 2 ^ (dT d / 2)) : Int)) (fun X => ∃ m' : VM, X = some ((), (ov 68 A (m') σ)) ∧ On1 20 m m' ∧ ∀ h, h < hiN d → m'.1 20 h = iI (wtS (dg d w) (h * 2 ^ (dT d / 2)) : Int)) (hiN d) (fun k mm hk ⟨i1, i2⟩ ih => ?_) (fun mm ⟨i1, i2⟩ => ?_) 0 _ (Nat.zero_le _) ⟨On1_r _ _, fun h hh => absurd hh (Nat.not_lt_zero h)⟩
    · have qt := q_Tw_things (LTt H) mm
      rw [i1.1 10 (by decide), h7] at qt
      have c1 : iI (k : Int) < iI (hiN d : Int) := by rw [iI_lt (by omega) (by omega) (by omega) (by omega)]; omega
      have hkN : k * 2 ^ (dT d / 2) < sN d := by
        rw [← hhs]
        exact Nat.mul_lt_mul_of_pos_right hk (Nat.pow_pos (by omega))
      have hr2 : rowE d w 18 mm := fun t ht => by rw [i1.1 18 (by decide)]; exact hr t ht
      have qs := q_sumRow H hd (c := 18) (by decide) (H.2.2.1 (18, 101) (by decide)) (cN_18 H) hr2 hkN
      show ∃ m' : VM, L_Ls_weighHigh_1 _ _ _ _ = _ ∧ _
      have step : L_Ls_weighHigh_1 (A 17) (iI ((dT d / 2 : Nat) : Int)) (iI (k : Int)) (ov 68 A mm σ) = L_Ls_weighHigh_1 (A 17) (iI ((dT d / 2 : Nat) : Int)) (iI ((k + 1 : Nat) : Int)) (ov 68 A (sV mm 20 k (iI (wtS (dg d w) (k * 2 ^ (dT d / 2)) : Int))) σ) := by
        rw [E_Ls_weighHigh_1, okO_ov, aR_ov, cK_17 H, gd_true, cR_17_0 H, cK_10 H, gd_true, qt, bnd_some, hsub, hsh, if_pos c1, okO_ov, aR_ov, cK_17 H, gd_true, cR_17_3 H, cK_20 H, gd_true, cR_17_1 H, cK_18 H, gd_true, sh_h (by omega) (by omega), qs, bnd_some, okO_ov, cK_20 H, gd_true, aN_ov, cN_20 H, gd_in (by omega) (by omega) (by omega), iI_cl (by omega) (by omega), Int.toNat_natCast, sI_ov H.1 _ _ (by omega), letT_eq, l0]
      rw [step]
      refine ih _ ⟨On1_V i1 _ _, fun h hh => ?_⟩
      rw [sV_eq]
      by_cases e : h = k
      · rw [if_pos e, e]
      · rw [if_neg e]; exact i2 h (by omega)
    · have qt := q_Tw_things (LTt H) mm
      rw [i1.1 10 (by decide), h7] at qt
      have c1 : ¬ iI (hiN d : Int) < iI (hiN d : Int) := Int32.lt_irrefl
      refine ⟨mm, ?_, i1, i2⟩
      show L_Ls_weighHigh_1 _ _ _ _ = _
      rw [E_Ls_weighHigh_1, okO_ov, aR_ov, cK_17 H, gd_true, cR_17_0 H, cK_10 H, gd_true, qt, bnd_some, hsub, hsh, if_neg c1]
  obtain ⟨m', e, g⟩ := lp
  replace e : L_Ls_weighHigh_1 (A 17) (iI ((dT d / 2 : Nat) : Int)) (iI 0) (ov 68 A m σ) = _ := e
  refine ⟨m', ?_, g⟩
  unfold M_Ls_weighHigh
  rw [E_Ls_weighHigh_0, l_0, e, mw_ov]
theorem bt_i {b : Nat} (hb : b < 2147483648) (i : Nat) (hi : i < 64) : bt ((iI (b : Int)).toInt64) i = b.testBit i := by
  rw [iI_j (by omega) (by omega)]
  unfold bt jI
  show (BitVec.ofInt 64 (b : Int)).getLsbD i = _
  rw [BitVec.ofInt_natCast, BitVec.getLsbD_ofNat, decide_eq_true hi]; rfl
theorem p_join {A : Nat → Nat} {σ : AM} (H : LC A σ) {d : TD} (hd : wfD d) {m : VM} (h7 : m.1 10 7 = iI (dT d : Int)) (h9 : m.1 10 9 = iI (dB d : Int)) {w : Nat} (hh : ∀ h, h < hiN d → m.1 20 h = iI (wtS (dg d w) (h * 2 ^ (dT d / 2)) : Int)) (hn : lwN d * (dB d + 1) ≤ aN σ (A 26)) (hn2 : aN σ (A 26) ≤ 15616) (hl : ∀ i, i < lwN d * (dB d + 1) → m.1 26 i = iI (blk d (i / (dB d + 1)) (i % (dB d + 1)) : Int)) : M_Ls_joinBlocks (A 17) (iI ((w % lwN d : Nat) : Int)) (iI ((dT d / 2 : Nat) : Int)) (ov 68 A m σ) = some (lst d w, (ov 68 A m σ)) := by
  have h6 := hd.1
  have hB := hd.2.2.2.2.1
  have hlw := lw_le hd
  obtain ⟨hh8, hhs⟩ := hi_b h6
  have hsN := sN_le hd
  have hlow : w % lwN d < lwN d := Nat.mod_lt _ (by omega)
  have hwl : ∀ s, wtS (dg d w) s ≤ 1000 := fun s => Nat.le_trans (wtS_le (c := 9) (fun t => Nat.le_trans (dg_le _ _ _) hd.2.2.1) s) (by omega)
  have hp8 : 2 ^ (dT d / 2) ≤ 8 := Nat.le_trans (Nat.pow_le_pow_right (by omega) (show dT d / 2 ≤ 3 by omega)) (by decide)
  have l0 : ∀ k : Nat, iI (k : Int) + (1 : Int32) = iI ((k + 1 : Nat) : Int) := fun k => by rw [l_1, iI_add, iI_s]
  have hsub : iI (dT d : Int) - iI ((dT d / 2 : Nat) : Int) = iI ((dT d - dT d / 2 : Nat) : Int) := by rw [iI_sub]; exact congrArg iI (by omega)
  have hsh := sh_w (t := dT d - dT d / 2) (by omega)
  replace hsh : (1 : Int32) <<< (iI ((dT d - dT d / 2 : Nat) : Int) &&& 31) = iI (hiN d : Int) := hsh
  have hsh2 := sh_w (t := dT d / 2) (by omega)
  have hst : iI ((w % lwN d : Nat) : Int) * iI ((dB d + 1 : Nat) : Int) = iI ((w % lwN d * (dB d + 1) : Nat) : Int) := by rw [iI_mul]; exact congrArg iI (by rw [← Int.natCast_mul])
  have qt := q_Tw_things (LTt H) m
  rw [h7] at qt
  have qb := q_Tw_bar (LTt H) m
  rw [h9] at qb
  generalize hW : 2 ^ (dT d / 2) = W at *
  have lp := up_loop (fun k => L_Ls_joinBlocks_1 (A 17) (iI ((dT d / 2 : Nat) : Int)) (iI ((w % lwN d * (dB d + 1) : Nat) : Int)) (iI (W : Int)) (mkB (k * W) (ringsAt d w)) (iI (k : Int)) (ov 68 A m σ)) (hiN d) (some (lst d w, (ov 68 A m σ))) (fun k hk ih => by
    have e20 := hh k hk
    have hwk := hwl (k * W)
    generalize hH : wtS (dg d w) (k * W) = hs at *
    have c1 : iI (k : Int) < iI (hiN d : Int) := by rw [iI_lt (by omega) (by omega) (by omega) (by omega)]; omega
    have elk : mxI (0 : Int32) (iI (dB d : Int) - iI (hs : Int)) = iI ((dB d - hs : Nat) : Int) := by
      rw [iI_sub, l_0, mxI_iI (by omega) (by omega) (by omega) (by omega)]
      exact congrArg iI (by split <;> omega)
    have eix : iI ((w % lwN d * (dB d + 1) : Nat) : Int) + iI ((dB d - hs : Nat) : Int) = iI ((w % lwN d * (dB d + 1) + (dB d - hs) : Nat) : Int) := by rw [iI_add]; exact congrArg iI (by omega)
    have hixl : w % lwN d * (dB d + 1) + (dB d - hs) < lwN d * (dB d + 1) := by
      have := Nat.mul_le_mul_right (dB d + 1) (show w % lwN d + 1 ≤ lwN d by omega)
      rw [Nat.succ_mul] at this
      omega
    have e26 := hl _ hixl
    have d1 : (w % lwN d * (dB d + 1) + (dB d - hs)) / (dB d + 1) = w % lwN d := by rw [Nat.mul_comm, Nat.mul_add_div (by omega), Nat.div_eq_of_lt (show dB d - hs < dB d + 1 by omega)]; omega
    have d2 : (w % lwN d * (dB d + 1) + (dB d - hs)) % (dB d + 1) = dB d - hs := by rw [Nat.mul_comm, Nat.mul_add_mod, Nat.mod_eq_of_lt (by omega)]
    rw [d1, d2] at e26
    have hkW : k * W + W ≤ 64 := by
      have := Nat.mul_le_mul_right W (show k + 1 ≤ hiN d by omega)
      rw [Nat.succ_mul] at this
      omega
    have ekW : iI (k : Int) * iI (W : Int) = iI ((k * W : Nat) : Int) := by rw [iI_mul]; exact congrArg iI (by rw [← Int.natCast_mul])
    have hWpos : 0 < W := by rw [← hW]; exact Nat.pow_pos (by omega)
    have hbl : blk d (w % lwN d) (dB d - hs) < 256 := by
      unfold blk; rw [hW]
      exact Nat.lt_of_lt_of_le (bk_lt _ _) (Nat.le_trans (Nat.pow_le_pow_right (by omega) hp8) (by decide))
    have ejn : mkB (k * W) (ringsAt d w) ||| ((iI (blk d (w % lwN d) (dB d - hs) : Int)).toInt64 <<< ((iI ((k * W : Nat) : Int)).toInt64 &&& 63)) = mkB ((k + 1) * W) (ringsAt d w) := by
      refine bt_ext fun s hs64 => ?_
      rw [bt_or, bt_mkB (by omega), bt_shl _ (by omega) hs64, bt_mkB (by rw [Nat.succ_mul]; omega)]
      by_cases z1 : s < k * W
      · rw [decide_eq_true z1, decide_eq_false (show ¬ k * W ≤ s by omega), decide_eq_true (show s < (k + 1) * W by rw [Nat.succ_mul]; omega), Bool.false_and, Bool.or_false]
      · rw [decide_eq_false z1, decide_eq_true (show k * W ≤ s by omega), Bool.false_and, Bool.false_or, Bool.true_and, bt_i (by omega) _ (by omega)]
        unfold blk
        rw [hW, bk_tb]
        by_cases z2 : s - k * W < W
        · rw [decide_eq_true z2, decide_eq_true (show s < (k + 1) * W by rw [Nat.succ_mul]; omega), Bool.true_and, Bool.true_and]
          unfold ringsAt
          have e1 := wt_split (dg d w) (lt := dT d / 2) (h := k) (s := s - k * W) (by omega) (by omega) (by rw [hW]; exact z2)
          have e2 := wt_low (d := d) (w := w) (s := s - k * W) (by rw [hW]; exact z2)
          rw [hW] at e1
          rw [show k * W + (s - k * W) = s by omega, hH] at e1
          rw [e2, e1]
          by_cases y : dB d ≤ wtS (dg d w) (s - k * W) + hs
          · rw [decide_eq_true y, decide_eq_true (show dB d - hs ≤ wtS (dg d w) (s - k * W) by omega)]
          · rw [decide_eq_false y, decide_eq_false (show ¬ dB d - hs ≤ wtS (dg d w) (s - k * W) by omega)]
        · rw [decide_eq_false z2, decide_eq_false (show ¬ s < (k + 1) * W by rw [Nat.succ_mul]; omega), Bool.false_and, Bool.false_and]
    show L_Ls_joinBlocks_1 _ _ _ _ _ _ _ = _
    rw [E_Ls_joinBlocks_1, okO_ov, aR_ov, cK_17 H, gd_true, cR_17_0 H, cK_10 H, gd_true, qt, bnd_some, hsub, hsh, if_pos c1, okO_ov, aR_ov, cK_17 H, gd_true, cR_17_0 H, cK_10 H, gd_true, qb, bnd_some, okO_ov, aR_ov, aN_ov, cK_17 H, gd_true, cR_17_3 H, cK_20 H, gd_true, cN_20 H, gd_in (by omega) (by omega) (by omega), iI_cl (by omega) (by omega), Int.toNat_natCast, aI_ov H.1 _ _ (by omega), e20, elk, letT_eq, cR_17_9 H, cK_26 H, gd_true, eix, gd_in (by omega) (by omega) (by omega), iI_cl (by omega) (by omega), Int.toNat_natCast, aI_ov H.1 _ _ (by omega), e26, ekW, ejn, letT_eq, l0]
    exact ih) (by
    have c1 : ¬ iI (hiN d : Int) < iI (hiN d : Int) := Int32.lt_irrefl
    show L_Ls_joinBlocks_1 _ _ _ _ _ _ _ = _
    rw [E_Ls_joinBlocks_1, okO_ov, aR_ov, cK_17 H, gd_true, cR_17_0 H, cK_10 H, gd_true, qt, bnd_some, hsub, hsh, if_neg c1, hhs]
    rfl) 0 (Nat.zero_le _)
  have m0 : mkB (0 * W) (ringsAt d w) = 0 := by rw [Nat.zero_mul]; rfl
  rw [m0] at lp
  replace lp : L_Ls_joinBlocks_1 (A 17) (iI ((dT d / 2 : Nat) : Int)) (iI ((w % lwN d * (dB d + 1) : Nat) : Int)) (iI (W : Int)) 0 (iI 0) (ov 68 A m σ) = _ := lp
  unfold M_Ls_joinBlocks
  rw [E_Ls_joinBlocks_0, okO_ov, aR_ov, cK_17 H, gd_true, cR_17_0 H, cK_10 H, gd_true, qb, bnd_some, l0, hst, letT_eq, hsh2, letT_eq, l_0, lp, mw_ov]
