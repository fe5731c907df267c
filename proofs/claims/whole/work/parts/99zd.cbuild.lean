/-! ===== the class builds its lists ===== -/
theorem mod_next {w n : Nat} (hn : 0 < n) : (w + 1) % n = if w % n + 1 < n then w % n + 1 else 0 := by
  have h1 := Nat.mod_lt w hn
  have h2 : (w + 1) % n = (w % n + 1) % n := by rw [Nat.mod_add_mod]
  rw [h2]
  by_cases c : w % n + 1 < n
  · rw [if_pos c, Nat.mod_eq_of_lt c]
  · rw [if_neg c, show w % n + 1 = n by omega, Nat.mod_self]
theorem div_next {w n : Nat} (hn : 0 < n) (h : w % n + 1 < n) : (w + 1) / n = w / n := by
  have e := Nat.div_add_mod w n
  have e2 : w + 1 = n * (w / n) + (w % n + 1) := by omega
  rw [e2, Nat.mul_add_div hn, Nat.div_eq_of_lt h]
  omega
/-- lists built below w -/
def BdI (x : XS) (k w : Nat) (m : VM) : Prop := (w < dW (twD x) → rowE (twD x) w 18 m) ∧ (¬ w % lwN (twD x) = 0 → ∀ h, h < hiN (twD x) → m.1 20 h = iI (wtS (dg (twD x) w) (h * 2 ^ (dT (twD x) / 2)) : Int)) ∧ m.1 17 11 = iI ((LLs (twD x) w).length : Int) ∧ (∀ q, q < (LLs (twD x) w).length → m.2 21 q = (LLs (twD x) w).getD q 0) ∧ CNT (twD x) w (LLs (twD x) w) (m.1 22) ∧ HT (2 ^ k) (hsC k) (m.1 25) (LLs (twD x) w) ∧ (∀ v, v < w → m.1 23 v = if mayX x v = true then iI ((LLs (twD x) w).idxOf (lst (twD x) v) : Int) else iI (-1)) ∧ m.1 17 12 = iI (cntN w (mayX x) : Int)
def OnBd (m m' : VM) : Prop := (∀ c, c ∉ [16, 17, 18, 20, 22, 23, 25] → m'.1 c = m.1 c) ∧ (∀ j, j ≠ 11 → j ≠ 12 → m'.1 17 j = m.1 17 j) ∧ ∀ c, c ≠ 21 → m'.2 c = m.2 c
theorem OnBd_r (m : VM) : OnBd m m := ⟨fun _ _ => rfl, fun _ _ _ => rfl, fun _ _ => rfl⟩
theorem OnBd_t {a b c : VM} (h : OnBd a b) (k : OnBd b c) : OnBd a c := ⟨fun i hi => (k.1 i hi).trans (h.1 i hi), fun i h1 h2 => (k.2.1 i h1 h2).trans (h.2.1 i h1 h2), fun i hi => (k.2.2 i hi).trans (h.2.2 i hi)⟩
theorem OnBd_1 {q : Nat} {m m' : VM} (hq : q ∈ [16, 18, 20, 22, 23, 25]) (h : On1 q m m') : OnBd m m' := by
  have h17 : (17 : Nat) ≠ q := fun z => by rw [← z] at hq; revert hq; decide
  have hh : ∀ q, q ∈ [16, 18, 20, 22, 23, 25] → q ∈ [16, 17, 18, 20, 22, 23, 25] := by decide
  exact ⟨fun c hc => h.1 c (fun z => hc (by rw [z]; exact hh q hq)), fun j _ _ => by rw [h.1 17 h17], fun c _ => by rw [h.2]⟩
theorem On1_s (m : VM) (q j : Nat) (v : Int32) : On1 q m (sV m q j v) := On1_V (On1_r _ _) _ _
theorem bd_step {t : PD} {x : XS} {A : Nat → Nat} {σ : AM} (H : LC A σ) (hx : xOk t x) (hf : fOk x) (hp : (mxS x + 1) ^ (xsN x).length ≤ 16384) {m : VM} (hC : CTx x m) {k : Nat} (hk : k ≤ 15) (h10 : m.1 17 10 = iI ((2 ^ k : Nat) : Int)) (hn : 2 ^ k ≤ aN σ (A 25)) (h2a : 2 * dW (twD x) ≤ 2 ^ k) (hq : dW (twD x) ≤ aN σ (A 21)) (hq2 : aN σ (A 21) ≤ 16384) (hl1 : lwN (twD x) * (dB (twD x) + 1) ≤ aN σ (A 26)) (hl2 : aN σ (A 26) ≤ 15616) (hl3 : ∀ i, i < lwN (twD x) * (dB (twD x) + 1) → m.1 26 i = iI (blk (twD x) (i / (dB (twD x) + 1)) (i % (dB (twD x) + 1)) : Int)) {w : Nat} (hw : w < dW (twD x)) (hI : BdI x k w m) : ∃ (m' : VM) (v : Int32), L_Ls_build_1 (A 17) (iI (dW (twD x) : Int)) (iI ((dT (twD x) / 2 : Nat) : Int)) (iI (lwN (twD x) : Int)) (iI (sumN 6 (dg (twD x) w) : Int)) (iI ((w % lwN (twD x) : Nat) : Int)) (iI (w : Int)) (ov 68 A m σ) = L_Ls_build_1 (A 17) (iI (dW (twD x) : Int)) (iI ((dT (twD x) / 2 : Nat) : Int)) (iI (lwN (twD x) : Int)) v (iI (((w + 1) % lwN (twD x) : Nat) : Int)) (iI ((w + 1 : Nat) : Int)) (ov 68 A (m') σ) ∧ OnBd m m' ∧ BdI x k (w + 1) m' ∧ (w + 1 < dW (twD x) → v = iI (sumN 6 (dg (twD x) (w + 1)) : Int)) := by
  have hd := wf_tw hx hp
  obtain ⟨d, hdd⟩ : ∃ d, twD x = d := ⟨_, rfl⟩
  have h6 : dT d ≤ 6 := by rw [← hdd]; exact hd.1
  have hm9 : dM d ≤ 9 := by rw [← hdd]; exact hd.2.2.1
  have hdT : dT d = (xsN x).length := by rw [← hdd]; rfl
  have hdM : dM d = mxS x := by rw [← hdd]; rfl
  have hdB : dB d = (xsB x).getD 10 := by rw [← hdd]; rfl
  have hmay : ∀ v, dMay d v = mayX x v := fun v => by rw [← hdd]; rfl
  have hdg : dg (d0X x) = dg d := by rw [← hdd]; rfl
  unfold BdI at hI ⊢
  rw [hdd] at hd h2a hq hl1 hl3 hw hI ⊢
  obtain ⟨i1, i2, i3, i4, i5, i6, i7, i8⟩ := hI
  have hW16 := hd.2.2.2.2.2.2
  have hlw := lw_le hd
  have hll := LLs_len d w
  have hnd := LLs_nodup d w
  have hrow := i1 hw
  have h23 := H.2.2.2.2.2.1
  have l0 : ∀ k : Nat, iI (k : Int) + (1 : Int32) = iI ((k + 1 : Nat) : Int) := fun k => by rw [l_1, iI_add, iI_s]
  have ln : ((-1) : Int32) = iI (-1) := by decide
  have hml := Nat.mod_lt w (show 0 < lwN d by omega)
  have c0 : iI (w : Int) < iI (dW d : Int) := by rw [iI_lt (by omega) (by omega) (by omega) (by omega)]; omega
  have g7 : m.1 10 7 = iI (dT d : Int) := by rw [hdT]; exact hC.1.1
  have g8 : m.1 10 8 = iI (dM d : Int) := by rw [hdM]; exact hC.1.2.1
  have g9 : m.1 10 9 = iI (dB d : Int) := by rw [hdB]; exact hC.1.2.2.1
  -- the high things
  have s1 : ∃ m1 : VM, L_Ls_build_1 (A 17) (iI (dW d : Int)) (iI ((dT d / 2 : Nat) : Int)) (iI (lwN d : Int)) (iI (sumN 6 (dg d w) : Int)) (iI ((w % lwN d : Nat) : Int)) (iI (w : Int)) (ov 68 A m σ) = L_Ls_build_2 (A 17) (iI (dW d : Int)) (iI ((dT d / 2 : Nat) : Int)) (iI (lwN d : Int)) (iI (sumN 6 (dg d w) : Int)) (iI ((w % lwN d : Nat) : Int)) (iI (w : Int)) (ov 68 A m1 σ) ∧ On1 20 m m1 ∧ ∀ h, h < hiN d → m1.1 20 h = iI (wtS (dg d w) (h * 2 ^ (dT d / 2)) : Int) := by
    by_cases z : w % lwN d = 0
    · obtain ⟨m1, e1, o1, g1⟩ := p_high H hd g7 hrow
      have c1 : iI ((w % lwN d : Nat) : Int) = (0 : Int32) := by rw [z]; rfl
      refine ⟨m1, ?_, o1, g1⟩
      rw [E_Ls_build_1, if_pos c0, if_pos c1, okO_ov, cK_17 H, gd_true, e1, bnd_some]
    · have c1 : ¬ iI ((w % lwN d : Nat) : Int) = (0 : Int32) := by rw [l_0, iI_eq (by omega) (by omega) (by omega) (by omega)]; omega
      refine ⟨m, ?_, On1_r _ _, i2 z⟩
      rw [E_Ls_build_1, if_pos c0, if_neg c1]
  obtain ⟨m1, e1, o1, hh⟩ := s1
  rw [e1]
  -- permitted?
  have O2 : OnBd m (sV m1 23 w (iI (-1))) := OnBd_t (OnBd_1 (by decide) o1) (OnBd_1 (by decide) (On1_s m1 23 w (iI (-1))))
  obtain ⟨m3, e3, o3⟩ := p_permits H hx hf (m := sV m1 23 w (iI (-1))) (CTx_e (O2.1 10 (by decide)) (O2.1 12 (by decide)) (O2.1 13 (by decide)) (O2.1 14 (by decide)) hC) (w := w) (fun t ht => by rw [sV_ne _ _ _ _ (by decide), o1.1 18 (by decide), hdg]; exact hrow t (by rw [hdT]; exact ht))
  rw [hdg] at e3
  have O3 := OnBd_t O2 (OnBd_1 (by decide) o3)
  have f17 : m3.1 17 = m.1 17 := by rw [o3.1 17 (by decide), sV_ne _ _ _ _ (by decide), o1.1 17 (by decide)]
  have f18 : m3.1 18 = m.1 18 := by rw [o3.1 18 (by decide), sV_ne _ _ _ _ (by decide), o1.1 18 (by decide)]
  have f20 : m3.1 20 = m1.1 20 := by rw [o3.1 20 (by decide), sV_ne _ _ _ _ (by decide)]
  have f22 : m3.1 22 = m.1 22 := by rw [o3.1 22 (by decide), sV_ne _ _ _ _ (by decide), o1.1 22 (by decide)]
  have f25 : m3.1 25 = m.1 25 := by rw [o3.1 25 (by decide), sV_ne _ _ _ _ (by decide), o1.1 25 (by decide)]
  have f23 : ∀ v, m3.1 23 v = if v = w then iI (-1) else m.1 23 v := fun v => by rw [o3.1 23 (by decide), sV_eq, o1.1 23 (by decide)]
  have f2 : m3.2 = m.2 := by rw [o3.2, sV_2, o1.2]
  have head : L_Ls_build_2 (A 17) (iI (dW d : Int)) (iI ((dT d / 2 : Nat) : Int)) (iI (lwN d : Int)) (iI (sumN 6 (dg d w) : Int)) (iI ((w % lwN d : Nat) : Int)) (iI (w : Int)) (ov 68 A m1 σ) = if bZ (mayX x w) = (0 : Int32) then L_Ls_build_3 (A 17) (iI (dW d : Int)) (iI ((dT d / 2 : Nat) : Int)) (iI (lwN d : Int)) (iI (sumN 6 (dg d w) : Int)) (iI ((w % lwN d : Nat) : Int)) (iI (w : Int)) (ov 68 A m3 σ) else (bnd (M_Ls_joinBlocks (A 17) (iI ((w % lwN d : Nat) : Int)) (iI ((dT d / 2 : Nat) : Int)) (ov 68 A m3 σ)) fun r12 σ13 => gd (okO σ13 (A 17) 3) <| bnd (M_Ls_enter (A 17) r12 σ13) fun r14 σ15 => gd (okO σ15 (A 23) 101) <| gd (inB (iI (w : Int)) (aN σ15 (A 23))) <| letT (sI σ15 (A 23) w r14) fun σ19 => gd (okO σ19 (A 17) 3) <| letT (sI σ19 (A 17) 12 ((aI σ19 (A 17) 12) + (1 : Int32))) fun σ22 => L_Ls_build_3 (A 17) (iI (dW d : Int)) (iI ((dT d / 2 : Nat) : Int)) (iI (lwN d : Int)) (iI (sumN 6 (dg d w) : Int)) (iI ((w % lwN d : Nat) : Int)) (iI (w : Int)) σ22) := by
    rw [E_Ls_build_2, okO_ov, aR_ov, aN_ov, cK_17 H, gd_true, cR_17_6 H, cK_23 H, gd_true, gd_in (by omega) (by omega) (by omega), iI_cl (by omega) (by omega), Int.toNat_natCast, ln, sI_ov H.1 _ _ (by omega), letT_eq, okO_ov, aR_ov, cR_17_0 H, cK_10 H, gd_true, cR_17_1 H, cK_18 H, gd_true, e3, bnd_some, okO_ov, aR_ov, cK_17 H, gd_true, cR_17_6 H, cK_23 H, gd_true]
  rw [head]
  -- the next row
  have fin : ∀ m6 : VM, OnBd m m6 → m6.1 18 = m.1 18 → m6.1 20 = m1.1 20 → ∃ (m' : VM) (v : Int32), L_Ls_build_3 (A 17) (iI (dW d : Int)) (iI ((dT d / 2 : Nat) : Int)) (iI (lwN d : Int)) (iI (sumN 6 (dg d w) : Int)) (iI ((w % lwN d : Nat) : Int)) (iI (w : Int)) (ov 68 A m6 σ) = L_Ls_build_1 (A 17) (iI (dW d : Int)) (iI ((dT d / 2 : Nat) : Int)) (iI (lwN d : Int)) v (iI (((w + 1) % lwN d : Nat) : Int)) (iI ((w + 1 : Nat) : Int)) (ov 68 A (m') σ) ∧ On1 18 m6 m' ∧ OnBd m m' ∧ (w + 1 < dW d → rowE d (w + 1) 18 m') ∧ (¬ (w + 1) % lwN d = 0 → ∀ h, h < hiN d → m'.1 20 h = iI (wtS (dg d (w + 1)) (h * 2 ^ (dT d / 2)) : Int)) ∧ (w + 1 < dW d → v = iI (sumN 6 (dg d (w + 1)) : Int)) := fun m6 O6 r18 r20 => by
    obtain ⟨m7, r, e7, o7, g⟩ := p_Tw_step H hd (c := 18) (by decide) (H.2.2.1 (18, 101) (by decide)) (cN_18 H) (by decide) (w := w) (m := m6) (by rw [O6.1 10 (by decide)]; exact g7) (by rw [O6.1 10 (by decide)]; exact g8) (fun t ht => by rw [r18]; exact hrow t ht)
    have o7' : On1 18 m6 m7 := o7
    have hs1 : sumN 6 (dg d w) ≤ 54 := by
      have := sumN_le (n := 6) (f := dg d w) (c := 9) (fun t _ => Nat.le_trans (dg_le _ _ _) hm9)
      omega
    refine ⟨m7, iI (sumN 6 (dg d w) : Int) + iI r, ?_, o7', OnBd_t O6 (OnBd_1 (by decide) o7'), fun h => (g h).1, fun h0 h hh2 => ?_, fun h => ?_⟩
    · have hmn := mod_next (w := w) (n := lwN d) (by omega)
      rw [E_Ls_build_3, okO_ov, aR_ov, cK_17 H, gd_true, cR_17_0 H, cK_10 H, gd_true, cR_17_1 H, cK_18 H, gd_true, e7, bnd_some, letT_eq, l0]
      by_cases y : w % lwN d + 1 < lwN d
      · have c2 : iI ((w % lwN d + 1 : Nat) : Int) < iI (lwN d : Int) := by rw [iI_lt (by omega) (by omega) (by omega) (by omega)]; omega
        rw [if_pos y] at hmn
        rw [if_pos c2, E_Ls_build_4, l0, hmn]
      · have c2 : ¬ iI ((w % lwN d + 1 : Nat) : Int) < iI (lwN d : Int) := by rw [iI_lt (by omega) (by omega) (by omega) (by omega)]; omega
        rw [if_neg y] at hmn
        rw [if_neg c2, E_Ls_build_4, l0, hmn, l_0]
        rfl
    · have hmn := mod_next (w := w) (n := lwN d) (by omega)
      have y : w % lwN d + 1 < lwN d := Classical.byContradiction fun z => h0 (by rw [hmn, if_neg z])
      have hb8 := (hi_b (d := d) h6).1
      rw [o7.1 20 (by decide), r20, hh h hh2, wt_high h6 (div_next (by omega) y).symm (by omega)]
    · rw [(g h).2, iI_add]
      exact congrArg iI (by omega)
  cases q : mayX x w
  · have hz : bZ false = (0 : Int32) := by decide
    rw [if_pos hz]
    obtain ⟨m', v, e, o, O, r1, r2, r3⟩ := fin m3 O3 f18 f20
    have hL : LLs d (w + 1) = LLs d w := LLs_old (fun z => by have z1 := z.1; rw [hmay, q] at z1; cases z1)
    refine ⟨m', v, e, O, ?_, r3⟩
    rw [hL]
    refine ⟨r1, r2, ?_, fun q hq => ?_, ?_, ?_, fun v hv => ?_, ?_⟩
    · rw [o.1 17 (by decide), f17]; exact i3
    · rw [o.2, f2]; exact i4 q hq
    · rw [o.1 22 (by decide), f22]; exact CNT_no (by rw [hmay]; exact q) i5
    · rw [o.1 25 (by decide), f25]; exact i6
    · rw [o.1 23 (by decide), f23]
      by_cases e : v = w
      · rw [if_pos e, e, q]; rfl
      · rw [if_neg e]; exact i7 v (by omega)
    · rw [o.1 17 (by decide), f17, i8, cntN_s, q]; rfl
  · have hz : ¬ bZ true = (0 : Int32) := by decide
    rw [if_neg hz]
    have ej := p_join H hd (m := m3) (by rw [O3.1 10 (by decide)]; exact g7) (by rw [O3.1 10 (by decide)]; exact g9) (w := w) (by rw [f20]; exact hh) hl1 hl2 (by rw [O3.1 26 (by decide)]; exact hl3)
    have hlen : (LLs d w).length < 2 ^ k := by omega
    obtain ⟨m4, e4, n1, n2⟩ := p_enter H (m := m3) (L := LLs d w) hk (by rw [f17]; exact h10) hn (by rw [f25]; exact i6) (by rw [f17]; exact i3) (by rw [f2]; exact i4) hnd hlen (by omega) hq2 (lst d w)
    have hc12 : cntN w (mayX x) ≤ w := cntN_le _ _
    have run : ∀ (idx : Nat) , M_Ls_enter (A 17) (lst d w) (ov 68 A m3 σ) = some (iI (idx : Int), (ov 68 A m4 σ)) → m4.1 17 12 = iI (cntN w (mayX x) : Int) → (bnd (M_Ls_joinBlocks (A 17) (iI ((w % lwN d : Nat) : Int)) (iI ((dT d / 2 : Nat) : Int)) (ov 68 A m3 σ)) fun r12 σ13 => gd (okO σ13 (A 17) 3) <| bnd (M_Ls_enter (A 17) r12 σ13) fun r14 σ15 => gd (okO σ15 (A 23) 101) <| gd (inB (iI (w : Int)) (aN σ15 (A 23))) <| letT (sI σ15 (A 23) w r14) fun σ19 => gd (okO σ19 (A 17) 3) <| letT (sI σ19 (A 17) 12 ((aI σ19 (A 17) 12) + (1 : Int32))) fun σ22 => L_Ls_build_3 (A 17) (iI (dW d : Int)) (iI ((dT d / 2 : Nat) : Int)) (iI (lwN d : Int)) (iI (sumN 6 (dg d w) : Int)) (iI ((w % lwN d : Nat) : Int)) (iI (w : Int)) σ22) = L_Ls_build_3 (A 17) (iI (dW d : Int)) (iI ((dT d / 2 : Nat) : Int)) (iI (lwN d : Int)) (iI (sumN 6 (dg d w) : Int)) (iI ((w % lwN d : Nat) : Int)) (iI (w : Int)) (ov 68 A (sV (sV m4 23 w (iI (idx : Int))) 17 12 (iI ((cntN w (mayX x) + 1 : Nat) : Int))) σ) := fun idx ee h12 => by
      have s5 : (sV m4 23 w (iI (idx : Int))).1 17 12 = iI (cntN w (mayX x) : Int) := by rw [sV_ne _ _ _ _ (by decide)]; exact h12
      rw [ej, bnd_some, okO_ov, cK_17 H, gd_true, ee, bnd_some, okO_ov, cK_23 H, gd_true, aN_ov, gd_in (by omega) (by omega) (by omega), sI_ov H.1 _ _ (by omega), letT_eq, okO_ov, cK_17 H, gd_true, aI_ov H.1 _ _ (by omega), s5, l0, sI_ov H.1 _ _ (by omega), letT_eq]
    have c23 : ∀ (L' : List Int64) (idx v : Nat), m4.1 23 = m3.1 23 → (∀ v, v < w → mayX x v = true → L'.idxOf (lst d v) = (LLs d w).idxOf (lst d v)) → L'.idxOf (lst d w) = idx → v < w + 1 → (sV (sV m4 23 w (iI (idx : Int))) 17 12 (iI ((cntN w (mayX x) + 1 : Nat) : Int))).1 23 v = if mayX x v = true then iI (L'.idxOf (lst d v) : Int) else iI (-1) := fun L' idx v h23' hL' hi hv => by
      rw [sV_ne _ _ _ _ (by decide), sV_eq]
      by_cases e : v = w
      · rw [if_pos e, e, q, if_pos rfl, hi]
      · rw [if_neg e, h23', f23, if_neg e, i7 v (by omega)]
        by_cases y : mayX x v = true
        · rw [if_pos y, if_pos y, hL' v (by omega) y]
        · rw [if_neg y, if_neg y]
    by_cases hm : lst d w ∈ LLs d w
    · rw [if_pos hm] at e4
      have em := n1 hm
      have hi : (LLs d w).idxOf (lst d w) < (LLs d w).length := List.idxOf_lt_length_iff.mpr hm
      have h412 : m4.1 17 12 = iI (cntN w (mayX x) : Int) := by rw [em, sV_ne _ _ _ _ (by decide), f17]; exact i8
      rw [run _ e4 h412]
      have O6 : OnBd m (sV (sV m4 23 w (iI ((LLs d w).idxOf (lst d w) : Int))) 17 12 (iI ((cntN w (mayX x) + 1 : Nat) : Int))) := by
        refine OnBd_t (OnBd_t O3 (OnBd_t (b := m4) (by rw [em]; exact OnBd_1 (by decide) (On1_s _ 22 _ _)) (OnBd_1 (by decide) (On1_s m4 23 w (iI ((LLs d w).idxOf (lst d w) : Int)))))) ⟨fun c hc => ?_, fun j _ h2 => ?_, fun _ _ => rfl⟩
        · rw [sV_ne _ _ _ _ (fun z => hc (by rw [z]; decide))]
        · rw [sV_eq, if_neg h2]
      obtain ⟨m', v, e, o, O, r1, r2, r3⟩ := fin _ O6 (by rw [sV_ne _ _ _ _ (by decide), sV_ne _ _ _ _ (by decide), em, sV_ne _ _ _ _ (by decide)]; exact f18) (by rw [sV_ne _ _ _ _ (by decide), sV_ne _ _ _ _ (by decide), em, sV_ne _ _ _ _ (by decide)]; exact f20)
      have hL : LLs d (w + 1) = LLs d w := LLs_old (fun z => z.2 hm)
      refine ⟨m', v, e, O, ?_, r3⟩
      rw [hL]
      refine ⟨r1, r2, ?_, fun q hq => ?_, ?_, ?_, fun v hv => ?_, ?_⟩
      · rw [o.1 17 (by decide), sV_eq, if_neg (by decide), sV_ne _ _ _ _ (by decide), em, sV_ne _ _ _ _ (by decide), f17]; exact i3
      · rw [o.2, sV_2, sV_2, em, sV_2, f2]; exact i4 q hq
      · rw [o.1 22 (by decide), sV_ne _ _ _ _ (by decide), sV_ne _ _ _ _ (by decide), em]
        exact CNT_old (by rw [hmay]; exact q) hnd hm i5 (fun i => by rw [sV_eq, f22])
      · rw [o.1 25 (by decide), sV_ne _ _ _ _ (by decide), sV_ne _ _ _ _ (by decide), em, sV_ne _ _ _ _ (by decide), f25]; exact i6
      · rw [o.1 23 (by decide)]
        exact c23 _ _ v (by rw [em, sV_ne _ _ _ _ (by decide)]) (fun _ _ _ => rfl) rfl hv
      · rw [o.1 17 (by decide), sV_eq, if_pos rfl, cntN_s, q]; rfl
    · rw [if_neg hm] at e4
      obtain ⟨b1, b2, b3, b4, b5, b6, b7⟩ := n2 hm
      have h412 : m4.1 17 12 = iI (cntN w (mayX x) : Int) := by rw [b4 12 (by decide), f17]; exact i8
      rw [run _ e4 h412]
      have O4 : OnBd m3 m4 := ⟨fun c hc => b3 c (fun z => hc (by rw [z]; decide)) (fun z => hc (by rw [z]; decide)) (fun z => hc (by rw [z]; decide)), fun j h1 _ => b4 j h1, fun c hc => b6 c hc⟩
      have O6 : OnBd m (sV (sV m4 23 w (iI ((LLs d w).length : Int))) 17 12 (iI ((cntN w (mayX x) + 1 : Nat) : Int))) := by
        refine OnBd_t (OnBd_t O3 (OnBd_t O4 (OnBd_1 (by decide) (On1_s m4 23 w (iI ((LLs d w).length : Int)))))) ⟨fun c hc => ?_, fun j _ h2 => ?_, fun _ _ => rfl⟩
        · rw [sV_ne _ _ _ _ (fun z => hc (by rw [z]; decide))]
        · rw [sV_eq, if_neg h2]
      obtain ⟨m', v, e, o, O, r1, r2, r3⟩ := fin _ O6 (by rw [sV_ne _ _ _ _ (by decide), sV_ne _ _ _ _ (by decide), b3 18 (by decide) (by decide) (by decide)]; exact f18) (by rw [sV_ne _ _ _ _ (by decide), sV_ne _ _ _ _ (by decide), b3 20 (by decide) (by decide) (by decide)]; exact f20)
      have hL : LLs d (w + 1) = LLs d w ++ [lst d w] := LLs_new ⟨by rw [hmay]; exact q, hm⟩
      refine ⟨m', v, e, O, ?_, r3⟩
      rw [hL]
      refine ⟨r1, r2, ?_, fun q hq => ?_, ?_, ?_, fun v hv => ?_, ?_⟩
      · rw [o.1 17 (by decide), sV_eq, if_neg (by decide), sV_ne _ _ _ _ (by decide), b2, List.length_append, List.length_singleton]
      · rw [List.length_append, List.length_singleton] at hq
        rw [o.2, sV_2, sV_2, b7, f2]
        by_cases e : q = (LLs d w).length
        · rw [if_pos e, e, getD_app2]
        · rw [if_neg e, getD_app1 _ _ _ (by omega)]; exact i4 q (by omega)
      · rw [o.1 22 (by decide), sV_ne _ _ _ _ (by decide), sV_ne _ _ _ _ (by decide)]
        exact CNT_new (by rw [hmay]; exact q) hm i5 (fun i => by rw [b5, f22])
      · rw [o.1 25 (by decide), sV_ne _ _ _ _ (by decide), sV_ne _ _ _ _ (by decide)]; exact b1
      · rw [o.1 23 (by decide)]
        refine c23 _ _ v (b3 23 (by decide) (by decide) (by decide)) (fun v hv2 hy => ?_) (idx_new hm) hv
        rw [List.idxOf_append, if_pos (LLs_has hv2 (by rw [hmay]; exact hy))]
      · rw [o.1 17 (by decide), sV_eq, if_pos rfl, cntN_s, q]; rfl
