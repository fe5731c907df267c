/-! ===== next, run, runSet, worst, mean: the class ===== -/
theorem CS0_z {d : TD} {b : BD} {g z u z' : Nat} {A : Nat → Nat} {σ : AM} {m : VM} (C : CS0 d b g z u A σ m) (h : z ≤ z') : CS0 d b g z' u A σ m := ⟨C.1, C.2.1, C.2.2.1, ⟨Nat.le_trans C.2.2.2.1.1 h, C.2.2.2.1.2⟩, C.2.2.2.2⟩
theorem CS0_10 {d : TD} {b : BD} {g z u : Nat} {A : Nat → Nat} {σ : AM} {m : VM} (C : CS0 d b g z u A σ m) : m.1 27 10 = iI (g : Int) ∧ g < 100000 := ⟨C.2.2.2.2.2.2.2.1, C.2.2.2.2.2.2.2.2.1⟩
def nextS (d : TD) (b : BD) (a : Int) : Int := if 0 ≤ a ∧ a ≤ 2 then nx d a.toNat (lefts d b) else -1
theorem c_next {d : TD} {b : BD} {g z u : Nat} {A : Nat → Nat} {σ : AM} {m : VM} (C : CS0 d b g z u A σ m) {a : Int} (h1 : -2147483648 ≤ a) (h2 : a < 2147483648) : Rf d b g (z + 2) u A σ m [0, 2, 3, 4, 5] (M_Bp_next (A 0) (iI a) (ov 68 A m σ)) (iI (nextS d b a)) := by
  have H0 := C.1
  have hw := q_Ch_isWay (ov 68 A m σ) h1 h2
  unfold nextS
  by_cases q : 0 ≤ a ∧ a ≤ 2
  · rw [decide_eq_true q] at hw
    obtain ⟨A', σ', m', e1, C', R, hX, hK, _⟩ := p_refresh C
    have H := R.1
    have h5 := RQ_5 R
    obtain ⟨n, rfl⟩ := Int.eq_ofNat_of_zero_le q.1
    have hz : aN σ' (A' 38) ≤ 16384 := R.2.2.2.2.2.2
    have hN : NL d ≤ aN σ' (A' 38) := R.2.2.2.2.2.1
    obtain ⟨m2, e2, k2⟩ := p_Ch_pick H R.2.1 R.2.2.1 R.2.2.2.1 (wl_lefts d b) (c := 38) (by decide) (by decide) (H.2.2.1 (38, 101) (by decide)) (a := 0) (by show 0 + nLf d b ≤ _; omega) hz ((Seg_0 _ _).mpr R.2.2.2.2.1.2.2.2.2.1) (way := n) (by omega)
    rw [show 0 + (lefts d b).length = nLf d b from Nat.zero_add _] at e2
    replace e2 : M_Ch_pick (A' 39) (A' 38) (iI 0) _ _ _ = _ := e2
    refine ⟨A', σ', m2, ?_, CS0_K (Ks_sub (OnQ_Ks k2) (by decide)) C', hX, Ks_t hK (Ks_sub (OnQ_Ks k2) (by decide))⟩
    unfold M_Bp_next
    rw [E_Bp_next_0, if_pos q]
    simp (disch := omega) only [l_0, hw, bnd_some, bZ_0, reduceCtorEq, ↓reduceIte, cK_0 H0, cR_0_4 H0, cK_35 H0, okO_ov, aR_ov, gd_true, e1]
    rw [← hX.1]
    refine (congrArg (mw _) ?_).trans (mw_of hX.2.1 hX.2.2.1)
    simp (disch := omega) only [cK_0 H, cR_0_4 H, cR_0_5 H, cK_35 H, cK_39 H, okO_ov, aR_ov, gd_true, bnd_some, q_Rs_row H, q_Rs_size H, h5.1, l_0, e2, Int.toNat_natCast]
  · rw [decide_eq_false q] at hw
    refine ⟨A, σ, m, ?_, CS0_z C (by omega), Ext_r _ _, Ks_r _ _⟩
    unfold M_Bp_next
    rw [E_Bp_next_0, if_neg q]
    simp (disch := omega) only [l_0, hw, bnd_some, bZ_0, ↓reduceIte, l_1, iI_neg, mw_ov]
/-! whether a run can be -/
def crOk (d : TD) (b : BD) (w way : Int) : Prop := (0 ≤ w ∧ w < (dW d : Int)) ∧ (0 ≤ way ∧ way ≤ 2) ∧ lfW d b w.toNat = true
theorem p_Bp_canRun {d : TD} {b : BD} {g z u : Nat} {A : Nat → Nat} {σ : AM} {m : VM} (C : CS0 d b g z u A σ m) {w way : Int} (h1 : -2147483648 ≤ w) (h2 : w < 2147483648) (h3 : -2147483648 ≤ way) (h4 : way < 2147483648) : ∃ (A' : Nat → Nat) (σ' : AM) (m' : VM) (r : Bool), M_Bp_canRun (A 0) (iI w) (iI way) (ov 68 A m σ) = some (bZ r, ov 68 A' m' σ') ∧ CS0 d b g (z + 2) u A' σ' m' ∧ RQ d b A' σ' m' ∧ Ext A σ A' σ' ∧ Ks [0, 2, 3, 4, 5] m m' ∧ (r = true ↔ crOk d b w way) := by
  have H0 := C.1
  obtain ⟨A', σ', m', e1, C', R, hX, hK, _⟩ := p_refresh C
  have H := R.1
  have hw := q_Ch_isWay (ov 68 A' m' σ') h3 h4
  have hs := q_Tw_hasWeights H R.2.1 R.2.2.2.1 h1 h2
  have key : ∀ r : Bool, (gd (okO (ov 68 A' m' σ') (A' 0) 11) <| L_Bp_canRun_2 (bZ r) (ov 68 A' m' σ')) = some (bZ r, ov 68 A' m' σ') := fun r => by
    rw [E_Bp_canRun_2, okO_ov, cK_0 H, gd_true, isB_bZ, gd_true]
  have go : ∀ r : Bool, (if (decide (0 ≤ way ∧ way ≤ 2)) = false then (L_Bp_canRun_2 (iI 0) (ov 68 A' m' σ')) else if (decide (0 ≤ w ∧ w < (dW d : Int))) = false then (L_Bp_canRun_2 (iI 0) (ov 68 A' m' σ')) else (bnd (M_Rs_holds (A' 35) (iI w) (ov 68 A' m' σ')) fun r13 σ14 => if r13 = iI 0 then (L_Bp_canRun_2 (iI 0) σ14) else (L_Bp_canRun_2 (iI 1) σ14))) = some (bZ r, ov 68 A' m' σ') → (r = true ↔ crOk d b w way) → ∃ (A' : Nat → Nat) (σ' : AM) (m' : VM) (r : Bool), M_Bp_canRun (A 0) (iI w) (iI way) (ov 68 A m σ) = some (bZ r, ov 68 A' m' σ') ∧ CS0 d b g (z + 2) u A' σ' m' ∧ RQ d b A' σ' m' ∧ Ext A σ A' σ' ∧ Ks [0, 2, 3, 4, 5] m m' ∧ (r = true ↔ crOk d b w way) := by
    intro r he hr
    refine ⟨A', σ', m', r, ?_, C', R, hX, hK, hr⟩
    unfold M_Bp_canRun
    rw [E_Bp_canRun_0]
    simp only [cK_0 H0, cR_0_4 H0, cK_35 H0, okO_ov, aR_ov, gd_true, bnd_some, e1]
    rw [← hX.1]
    refine (congrArg (mw _) ?_).trans (mw_of hX.2.1 hX.2.2.1)
    rw [← he]
    simp (disch := omega) only [E_Bp_canRun_1, hw, hs, bnd_some, bZ_0, l_0, l_1, cK_0 H, cR_0_1 H, cR_0_4 H, cK_10 H, cK_35 H, okO_ov, aR_ov, gd_true]
  have fF : L_Bp_canRun_2 (iI 0) (ov 68 A' m' σ') = some (bZ false, ov 68 A' m' σ') := by rw [E_Bp_canRun_2, isB_0, gd_true]; rfl
  have fT : L_Bp_canRun_2 (iI 1) (ov 68 A' m' σ') = some (bZ true, ov 68 A' m' σ') := by rw [E_Bp_canRun_2, isB_1, gd_true]; rfl
  by_cases q1 : 0 ≤ way ∧ way ≤ 2
  · by_cases q2 : 0 ≤ w ∧ w < (dW d : Int)
    · obtain ⟨n, rfl⟩ := Int.eq_ofNat_of_zero_le q2.1
      have hh := q_Rs_holds R (w := n) (by omega)
      refine go (lfW d b n) ?_ ⟨fun z => ⟨q2, q1, z⟩, fun z => z.2.2⟩
      rw [decide_eq_true q1, decide_eq_true q2, if_neg (by decide), if_neg (by decide), hh]
      simp only [bnd_some, bZ_0, fF, fT]
      cases lfW d b n <;> rfl
    · refine go false ?_ ⟨fun z => absurd z (by decide), fun z => absurd z.1 q2⟩
      rw [decide_eq_true q1, decide_eq_false q2, if_neg (by decide), if_pos rfl]
      exact fF
  · refine go false ?_ ⟨fun z => absurd z (by decide), fun z => absurd z.2.1 q1⟩
    rw [decide_eq_false q1, if_pos rfl]
    exact fF
/-! a cell that nobody keeps: what was thrown -/
theorem nw_ov {A : Nat → Nat} {σ : AM} (hb : ∀ k, k < 68 → A k < aZ σ) (m : VM) (kd n : Nat) : nw (ov 68 A m σ) kd n = ov 68 A m (nw σ kd n) := by
  unfold nw ov
  refine Prod.ext ?_ (Prod.ext ?_ rfl)
  · funext q j
    show (if q = aZ σ then 0 else match fd A q 68 with | some k => m.1 k j | none => σ.1 q j) = match fd A q 68 with | some k => m.1 k j | none => (if q = aZ σ then 0 else σ.1 q j)
    by_cases e : q = aZ σ
    · rw [if_pos e, if_pos e, fd_out (fun k hk => by have := hb k hk; omega)]
    · rw [if_neg e, if_neg e]
  · funext q j
    show (if q = aZ σ then 0 else match fd A q 68 with | some k => m.2 k j | none => σ.2.1 q j) = match fd A q 68 with | some k => m.2 k j | none => (if q = aZ σ then 0 else σ.2.1 q j)
    by_cases e : q = aZ σ
    · rw [if_pos e, if_pos e, fd_out (fun k hk => by have := hb k hk; omega)]
    · rw [if_neg e, if_neg e]
theorem LC_nw {A : Nat → Nat} {σ : AM} (H : LC A σ) (kd n : Nat) : LC A (nw σ kd n) := by
  have hlR : ∀ r ∈ tCR, r.1 < 68 ∧ r.2.2 < 68 := by decide
  have hlK : ∀ r ∈ tCK, r.1 < 68 := by decide
  have hlN : ∀ r ∈ tCN, r.1 < 68 := by decide
  obtain ⟨h1, h2, h3, h4, h5⟩ := LC_x H
  have hz : ∀ k, k < 68 → A k ≠ aZ σ := fun k hk => Nat.ne_of_lt (h5 k hk)
  have hN : ∀ k, k < 68 → aN (nw σ kd n) (A k) = aN σ (A k) := fun k hk => by rw [aN_nw, if_neg (hz k hk)]
  refine LC_of ⟨h1, fun r hr => ?_, fun r hr => ?_, fun r hr => ?_, fun k hk => ?_⟩ ?_ ?_ ?_ ?_
  · rw [aR_nw, if_neg (hz _ (hlR r hr).1)]; exact h2 r hr
  · rw [aK_nw, if_neg (hz _ (hlK r hr))]; exact h3 r hr
  · rw [hN _ (hlN r hr)]; exact h4 r hr
  · show A k < aZ σ + 1; have := h5 k hk; omega
  · rw [hN 22 (by decide), hN 21 (by decide)]; exact H.2.2.2.2.1
  · rw [hN 23 (by decide), hN 21 (by decide)]; exact H.2.2.2.2.2.1
  · rw [hN 24 (by decide), hN 21 (by decide)]; exact H.2.2.2.2.2.2.1
  · rw [hN 37 (by decide), hN 38 (by decide)]; exact H.2.2.2.2.2.2.2.1
theorem CS0_nw {d : TD} {b : BD} {g z u : Nat} {A : Nat → Nat} {σ : AM} {m : VM} (C : CS0 d b g z u A σ m) (kd n : Nat) : CS0 d b g (z + 1) (u + n) A (nw σ kd n) m ∧ Ext A σ A (nw σ kd n) := by
  obtain ⟨H, hd, hD, hM, hT, hb, hB, hg, hg2, a, ha, ha1, ha2, hv⟩ := C
  have h5 := (LC_x H).2.2.2.2
  have hz : ∀ k, k < 68 → A k ≠ aZ σ := fun k hk => Nat.ne_of_lt (h5 k hk)
  have hN : ∀ k, k < 68 → aN (nw σ kd n) (A k) = aN σ (A k) := fun k hk => by rw [aN_nw, if_neg (hz k hk)]
  obtain ⟨M1, M2, M3, M4, M5, M6, M7⟩ := hM
  refine ⟨⟨LC_nw H kd n, hd, ?_, ⟨?_, ?_, ?_, ?_, ?_, ?_, ?_⟩, hT, hb, hB, hg, hg2, a, ha, ha1, ha2, fun e => ⟨(hv e).1, ?_⟩⟩, rfl, Nat.le_succ _, Nat.le_add_right _ _, fun q hq hA => ⟨hA, ?_, ?_, ?_, ?_, ?_⟩⟩
  · unfold LD; rw [hN 21 (by decide)]; exact hD
  · rw [aZ_nw]; omega
  · rw [hN 21 (by decide), hN 25 (by decide), hN 26 (by decide), hN 38 (by decide), aU_nw]; omega
  · rw [hN 21 (by decide)]; exact M3
  · rw [hN 25 (by decide)]; exact M4
  · rw [hN 26 (by decide)]; exact M5
  · rw [hN 38 (by decide), hN 21 (by decide)]; exact M6
  · rw [hN 38 (by decide), hN 21 (by decide), hN 25 (by decide)]; exact M7
  · rw [hN 38 (by decide)]; exact (hv e).2
  · funext j; rw [aI_nw, if_neg (by omega)]
  · funext j; rw [aL_nw, if_neg (by omega)]
  · funext j; rw [aR_nw, if_neg (by omega)]
  · rw [aK_nw, if_neg (by omega)]
  · rw [aN_nw, if_neg (by omega)]
def runA (d : TD) (b : BD) (w way what : Int) (r : Int32) : Prop := ∃ n, isStop d way.toNat (lst d w.toNat) (lefts d b) n ∧ r = if what = 0 then iI (n : Int) else if what = 1 then iI (rRang d way.toNat (lst d w.toNat) (lefts d b) n : Int) else rCost d way.toNat (lst d w.toNat) (lefts d b) n
def runX (d : TD) (b : BD) (w way what : Int) (r : Option Int32) : Prop := ((crOk d b w way ∧ 0 ≤ what ∧ what ≤ 2) ∧ ∃ v, r = some v ∧ runA d b w way what v) ∨ (¬ (crOk d b w way ∧ 0 ≤ what ∧ what ≤ 2) ∧ r = none)
theorem c_runX {d : TD} {b : BD} {g z u : Nat} {A : Nat → Nat} {σ : AM} {m : VM} (C : CS0 d b g z u A σ m) (hA : HA d b g m) {w way c : Int} (h1 : -2147483648 ≤ w) (h2 : w < 2147483648) (h3 : -2147483648 ≤ way) (h4 : way < 2147483648) (h5 : -2147483648 ≤ c) (h6 : c < 2147483648) : ∃ (A' : Nat → Nat) (σ' : AM) (m' : VM) (r : Option Int32), M_Bp_runX (A 0) (iI w) (iI way) (iI c) (ov 68 A m σ) = some (r, ov 68 A' m' σ') ∧ CS0 d b g (z + 3) (u + 6) A' σ' m' ∧ Ext A σ A' σ' ∧ Ks [0, 3, 4, 5] m m' ∧ HA d b g m' ∧ runX d b w way c r := by
  have H0 := C.1
  obtain ⟨A1, σ1, m1, r1, e1, C1, R1, X1, K1, hr1⟩ := p_Bp_canRun C h1 h2 h3 h4
  have H := R1.1
  have hA1 := HA_K (K1 2 (by decide)) hA
  by_cases q : crOk d b w way ∧ 0 ≤ c ∧ c ≤ 2
  · have er : r1 = true := hr1.mpr q.1
    subst er
    obtain ⟨⟨w1, w2⟩, ⟨y1, y2⟩, hl⟩ := q.1
    obtain ⟨n, rfl⟩ := Int.eq_ofNat_of_zero_le w1
    obtain ⟨y, rfl⟩ := Int.eq_ofNat_of_zero_le y1
    obtain ⟨g1, g2⟩ := CS0_10 C1
    obtain ⟨m2, e2, k2, hA2, hv⟩ := p_Ch_hide R1 g1 g2 hA1 (w := n) (way := y) (by omega) (by omega)
    obtain ⟨k, v1, v2, v3, v4, v5⟩ := hv
    have C2 := CS0_K (Ks_sub k2 (by decide)) C1
    have C3 : CS0 d b g (z + 3) (u + 6) A1 σ1 m2 := by
      have := CS0_z C2 (show z + 2 ≤ z + 3 by omega)
      exact ⟨this.1, this.2.1, this.2.2.1, ⟨this.2.2.2.1.1, by have := this.2.2.2.1.2.1; omega, this.2.2.2.1.2.2⟩, this.2.2.2.2⟩
    refine ⟨A1, σ1, m2, some (if c = 0 then iI (k : Int) else if c = 1 then iI (rRang d y (lst d n) (lefts d b) k : Int) else rCost d y (lst d n) (lefts d b) k), ?_, C3, X1, Ks_t (Ks_sub K1 (by decide)) (Ks_sub k2 (by decide)), hA2, Or.inl ⟨q, _, rfl, k, v1, rfl⟩⟩
    unfold M_Bp_runX
    rw [E_Bp_runX_0]
    simp (disch := omega) only [cK_0 H0, okO_ov, gd_true, e1, bnd_some, l_0, bZ_0, reduceCtorEq, ↓reduceIte]
    rw [← X1.1]
    refine (congrArg (mw _) ?_).trans (mw_of X1.2.1 X1.2.2.1)
    have j1 : M_Ch_made (A1 39) (ov 68 A1 m2 σ1) = some (iI (k : Int), ov 68 A1 m2 σ1) := by rw [q_Ch_made H, v2]
    have j2 : M_Ch_rang (A1 39) (ov 68 A1 m2 σ1) = some (iI (rRang d y (lst d n) (lefts d b) k : Int), ov 68 A1 m2 σ1) := by rw [q_Ch_rang H, v3]
    have j3 : M_Ch_paid (A1 39) (ov 68 A1 m2 σ1) = some (rCost d y (lst d n) (lefts d b) k, ov 68 A1 m2 σ1) := by rw [q_Ch_paid H, v4]
    simp (disch := omega) only [l_0, l_1, l_2, iI_lt, iI_eq, cK_0 H, cR_0_5 H, cK_39 H, okO_ov, aR_ov, gd_true, bnd_some, e2, j1, j2, j3]
    rw [if_neg (by omega), if_neg (by omega)]
    by_cases c0 : c = 0
    · rw [if_pos c0, if_pos c0]
    · rw [if_neg c0, if_neg c0]
      by_cases c1 : c = 1
      · rw [if_pos c1, if_pos c1]
      · rw [if_neg c1, if_neg c1]
  · have hn := CS0_nw (CS0_z C1 (Nat.le_refl _)) 0 6
    refine ⟨A1, nw σ1 0 6, m1, none, ?_, hn.1, Ext_t X1 hn.2, Ks_sub K1 (by decide), hA1, Or.inr ⟨q, rfl⟩⟩
    unfold M_Bp_runX
    rw [E_Bp_runX_0]
    simp (disch := omega) only [cK_0 H0, okO_ov, gd_true, e1, bnd_some, l_0, bZ_0, E_Bp_runX_1, nw_ov (LC_x H).2.2.2.2]
    refine (congrArg (mw _) ?_).trans (mw_of (Nat.le_trans X1.2.1 hn.2.2.1) (Nat.le_trans X1.2.2.1 hn.2.2.2.1))
    cases er : r1
    · rw [if_pos rfl]
    · rw [if_neg (by decide)]
      have hc : ¬ (0 ≤ c ∧ c ≤ 2) := fun z => q ⟨hr1.mp er, z⟩
      simp (disch := omega) only [l_0, l_2, iI_lt]
      by_cases c0 : c < 0
      · rw [if_pos c0]
      · rw [if_neg c0, if_pos (by omega)]
def rsetX (d : TD) (b : BD) (w way c : Int) (r : Int) : Prop := (crOk d b w way ∧ ∃ n, isStop d way.toNat (lst d w.toNat) (lefts d b) n ∧ r = if 0 ≤ c ∧ c < (n : Int) then (rs d way.toNat (lst d w.toNat) (lefts d b) c.toNat : Int) else -1) ∨ (¬ crOk d b w way ∧ r = -1)
theorem c_runSet {d : TD} {b : BD} {g z u : Nat} {A : Nat → Nat} {σ : AM} {m : VM} (C : CS0 d b g z u A σ m) (hA : HA d b g m) {w way c : Int} (h1 : -2147483648 ≤ w) (h2 : w < 2147483648) (h3 : -2147483648 ≤ way) (h4 : way < 2147483648) (h5 : -2147483648 ≤ c) (h6 : c < 2147483648) : ∃ (A' : Nat → Nat) (σ' : AM) (m' : VM) (r : Int), M_Bp_runSet (A 0) (iI w) (iI way) (iI c) (ov 68 A m σ) = some (iI r, ov 68 A' m' σ') ∧ CS0 d b g (z + 2) u A' σ' m' ∧ Ext A σ A' σ' ∧ Ks [0, 3, 4, 5] m m' ∧ HA d b g m' ∧ rsetX d b w way c r := by
  have H0 := C.1
  obtain ⟨A1, σ1, m1, r1, e1, C1, R1, X1, K1, hr1⟩ := p_Bp_canRun C h1 h2 h3 h4
  have H := R1.1
  have hA1 := HA_K (K1 2 (by decide)) hA
  unfold M_Bp_runSet
  cases er : r1
  · subst er
    refine ⟨A1, σ1, m1, -1, ?_, C1, X1, Ks_sub K1 (by decide), hA1, Or.inr ⟨fun z => absurd (hr1.mpr z) (by decide), rfl⟩⟩
    rw [E_Bp_runSet_0]
    simp (disch := omega) only [cK_0 H0, okO_ov, gd_true, e1, bnd_some, l_0, bZ_0, l_1, iI_neg, ↓reduceIte]
    exact mw_of X1.2.1 X1.2.2.1
  · subst er
    have q := hr1.mp rfl
    obtain ⟨⟨w1, w2⟩, ⟨y1, y2⟩, hl⟩ := q
    obtain ⟨n, rfl⟩ := Int.eq_ofNat_of_zero_le w1
    obtain ⟨y, rfl⟩ := Int.eq_ofNat_of_zero_le y1
    obtain ⟨g1, g2⟩ := CS0_10 C1
    obtain ⟨m2, e2, k2, hA2, hv⟩ := p_Ch_hide R1 g1 g2 hA1 (w := n) (way := y) (by omega) (by omega)
    obtain ⟨k, v1, v2, v3, v4, v5⟩ := hv
    have hk := v1.1
    have C2 := CS0_K (Ks_sub k2 (by decide)) C1
    refine ⟨A1, σ1, m2, if 0 ≤ c ∧ c < (k : Int) then (rs d y (lst d n) (lefts d b) c.toNat : Int) else -1, ?_, C2, X1, Ks_t (Ks_sub K1 (by decide)) (Ks_sub k2 (by decide)), hA2, Or.inl ⟨hr1.mp rfl, k, v1, rfl⟩⟩
    rw [E_Bp_runSet_0]
    simp (disch := omega) only [cK_0 H0, okO_ov, gd_true, e1, bnd_some, l_0, bZ_0, reduceCtorEq, ↓reduceIte]
    rw [← X1.1]
    refine (congrArg (mw _) ?_).trans (mw_of X1.2.1 X1.2.2.1)
    have j1 : M_Ch_setAt (A1 39) (iI c) (ov 68 A1 m2 σ1) = some (iI (if 0 ≤ c ∧ c < (k : Int) then (rs d y (lst d n) (lefts d b) c.toNat : Int) else -1), ov 68 A1 m2 σ1) := by
      unfold M_Ch_setAt
      by_cases c1 : 0 ≤ c ∧ c < (k : Int)
      · obtain ⟨j, rfl⟩ := Int.eq_ofNat_of_zero_le c1.1
        have v5j := v5 j (by omega)
        rw [E_Ch_setAt_0, if_pos c1]
        simp (disch := omega) only [E_Ch_setAt_1, E_Ch_setAt_2, l_0, l_1, iI_neg, iI_lt, cK_39 H, cR_39_12 H, cK_47 H, cN_47 H, okO_ov, aR_ov, aN_ov, gd_true, aI_ov H.1, v2, gd_in, iI_cl, Int.toNat_natCast, v5j]
        rw [if_neg (by omega), if_pos (by omega), mw_ov]
      · rw [E_Ch_setAt_0, if_neg c1]
        simp (disch := omega) only [E_Ch_setAt_1, E_Ch_setAt_2, l_0, l_1, iI_neg, iI_lt, cK_39 H, okO_ov, gd_true, aI_ov H.1, v2]
        by_cases c2 : c < 0
        · rw [if_pos c2, mw_ov]
        · rw [if_neg c2, if_neg (by omega), mw_ov]
    simp (disch := omega) only [cK_0 H, cR_0_5 H, cK_39 H, okO_ov, aR_ov, gd_true, bnd_some, e2, j1]
def worstS (d : TD) (b : BD) (a : Int) : Int := if (0 ≤ a ∧ a ≤ 2) ∧ nLf d b ≠ 0 then (trW d a.toNat 60 (lefts d b) : Int) else -1
def meanS (d : TD) (b : BD) (a c : Int) : Int := if (0 ≤ a ∧ a ≤ 2) ∧ (0 ≤ c ∧ c ≤ 1) ∧ nLf d b ≠ 0 then (lowS (trS d a.toNat 60 (lefts d b)) (wLf d b) c.toNat : Int) else -1
theorem c_worst {d : TD} {b : BD} {g z u : Nat} {A : Nat → Nat} {σ : AM} {m : VM} (C : CS0 d b g z u A σ m) (hA : TA d b g m) {a : Int} (h1 : -2147483648 ≤ a) (h2 : a < 2147483648) : ∃ (A' : Nat → Nat) (σ' : AM) (m' : VM), M_Bp_worst (A 0) (iI a) (ov 68 A m σ) = some (iI (worstS d b a), ov 68 A' m' σ') ∧ CS0 d b g (z + 2) u A' σ' m' ∧ Ext A σ A' σ' ∧ Ks [0, 2, 4, 5] m m' ∧ TA d b g m' := by
  have H0 := C.1
  obtain ⟨A1, σ1, m1, e1, C1, R1, X1, K1, _⟩ := p_refresh C
  have H := R1.1
  have h5 := RQ_5 R1
  have hA1 := TA_K (K1 3 (by decide)) hA
  have hw := q_Ch_isWay (ov 68 A1 m1 σ1) h1 h2
  unfold M_Bp_worst worstS
  by_cases q : (0 ≤ a ∧ a ≤ 2) ∧ nLf d b ≠ 0
  · rw [decide_eq_true q.1] at hw
    obtain ⟨y, rfl⟩ := Int.eq_ofNat_of_zero_le q.1.1
    obtain ⟨g1, g2⟩ := CS0_10 C1
    obtain ⟨m2, e2, k2, hA2, hv⟩ := p_Ch_tryAll R1 q.2 g1 g2 hA1 (way := y) (by omega)
    refine ⟨A1, σ1, m2, ?_, CS0_K (Ks_sub k2 (by decide)) C1, X1, Ks_t (Ks_sub K1 (by decide)) (Ks_sub k2 (by decide)), hA2⟩
    rw [E_Bp_worst_0, if_pos q]
    simp only [cK_0 H0, cR_0_4 H0, cK_35 H0, okO_ov, aR_ov, gd_true, bnd_some, e1]
    rw [← X1.1]
    refine (congrArg (mw _) ?_).trans (mw_of X1.2.1 X1.2.2.1)
    have j1 : M_Ch_worstBy (A1 39) (iI (y : Int)) (ov 68 A1 m2 σ1) = some (iI (trW d y 60 (lefts d b) : Int), ov 68 A1 m2 σ1) := by
      unfold M_Ch_worstBy
      rw [E_Ch_worstBy_0]
      simp (disch := omega) only [cK_39 H, cR_39_9 H, cK_44 H, cN_44 H, okO_ov, aR_ov, aN_ov, gd_true, aI_ov H.1, gd_in, iI_cl, Int.toNat_natCast, hv.1, mw_ov]
    have q2 := q.2
    simp (disch := omega) only [hw, bnd_some, bZ_0, reduceCtorEq, ↓reduceIte, cK_0 H, cR_0_4 H, cR_0_5 H, cK_35 H, cK_39 H, okO_ov, aR_ov, gd_true, q_Rs_size H, h5.1, l_0, iI_eq, e2, j1, Int.toNat_natCast]
    rw [if_neg (by omega)]
  · refine ⟨A1, σ1, m1, ?_, C1, X1, Ks_sub K1 (by decide), hA1⟩
    rw [E_Bp_worst_0, if_neg q]
    simp only [cK_0 H0, cR_0_4 H0, cK_35 H0, okO_ov, aR_ov, gd_true, bnd_some, e1]
    rw [← X1.1]
    refine (congrArg (mw _) ?_).trans (mw_of X1.2.1 X1.2.2.1)
    by_cases q1 : 0 ≤ a ∧ a ≤ 2
    · rw [decide_eq_true q1] at hw
      have q2 : nLf d b = 0 := Classical.byContradiction fun z => q ⟨q1, z⟩
      simp (disch := omega) only [E_Bp_worst_1, hw, bnd_some, bZ_0, reduceCtorEq, ↓reduceIte, cK_0 H, cR_0_4 H, cK_35 H, okO_ov, aR_ov, gd_true, q_Rs_size H, h5.1, l_0, l_1, iI_neg, iI_eq]
      rw [if_pos (by omega)]
    · rw [decide_eq_false q1] at hw
      simp (disch := omega) only [E_Bp_worst_1, hw, bnd_some, bZ_0, ↓reduceIte, l_0, l_1, iI_neg]
theorem c_mean {d : TD} {b : BD} {g z u : Nat} {A : Nat → Nat} {σ : AM} {m : VM} (C : CS0 d b g z u A σ m) (hA : TA d b g m) {a c : Int} (h1 : -2147483648 ≤ a) (h2 : a < 2147483648) (h3 : -2147483648 ≤ c) (h4 : c < 2147483648) : ∃ (A' : Nat → Nat) (σ' : AM) (m' : VM), M_Bp_mean (A 0) (iI a) (iI c) (ov 68 A m σ) = some (iI (meanS d b a c), ov 68 A' m' σ') ∧ CS0 d b g (z + 2) u A' σ' m' ∧ Ext A σ A' σ' ∧ Ks [0, 2, 4, 5] m m' ∧ TA d b g m' := by
  have H0 := C.1
  obtain ⟨A1, σ1, m1, e1, C1, R1, X1, K1, _⟩ := p_refresh C
  have H := R1.1
  have h5 := RQ_5 R1
  have hA1 := TA_K (K1 3 (by decide)) hA
  have hw := q_Ch_isWay (ov 68 A1 m1 σ1) h1 h2
  unfold M_Bp_mean meanS
  by_cases q : (0 ≤ a ∧ a ≤ 2) ∧ (0 ≤ c ∧ c ≤ 1) ∧ nLf d b ≠ 0
  · rw [decide_eq_true q.1] at hw
    obtain ⟨y, rfl⟩ := Int.eq_ofNat_of_zero_le q.1.1
    obtain ⟨x, rfl⟩ := Int.eq_ofNat_of_zero_le q.2.1.1
    obtain ⟨g1, g2⟩ := CS0_10 C1
    obtain ⟨m2, e2, k2, hA2, hv⟩ := p_Ch_tryAll R1 q.2.2 g1 g2 hA1 (way := y) (by omega)
    have R2 := RQ_K (Ks_sub k2 (by decide)) R1
    have h6 : m2.1 35 6 = iI (wLf d b : Int) := R2.2.2.2.2.1.2.1
    have b1 := trS_le d y 60 (lefts d b)
    have b2 := wl_sh R1.2.1 (wl_lefts d b)
    have b3 := wLf_le d b
    have b4 : 0 < wLf d b := Nat.pos_of_ne_zero fun z => q.2.2 ((wLf_0 d b).mp z)
    refine ⟨A1, σ1, m2, ?_, CS0_K (Ks_sub k2 (by decide)) C1, X1, Ks_t (Ks_sub K1 (by decide)) (Ks_sub k2 (by decide)), hA2⟩
    rw [E_Bp_mean_0, if_pos q]
    simp only [cK_0 H0, cR_0_4 H0, cK_35 H0, okO_ov, aR_ov, gd_true, bnd_some, e1]
    rw [← X1.1]
    refine (congrArg (mw _) ?_).trans (mw_of X1.2.1 X1.2.2.1)
    have j1 : M_Ch_togetherBy (A1 39) (iI (y : Int)) (ov 68 A1 m2 σ1) = some (iI (trS d y 60 (lefts d b) : Int), ov 68 A1 m2 σ1) := by
      unfold M_Ch_togetherBy
      rw [E_Ch_togetherBy_0]
      simp (disch := omega) only [cK_39 H, cR_39_10 H, cK_45 H, cN_45 H, okO_ov, aR_ov, aN_ov, gd_true, aI_ov H.1, gd_in, iI_cl, Int.toNat_natCast, hv.2, mw_ov]
    have j2 := q_St_lowest (x := trS d y 60 (lefts d b)) (y := wLf d b) (what := x) (by omega) (by omega) b4 (by omega) (ov 68 A1 m2 σ1)
    have q2 := q.2.2
    simp (disch := omega) only [hw, bnd_some, bZ_0, reduceCtorEq, ↓reduceIte, cK_0 H, cR_0_4 H, cR_0_5 H, cK_35 H, cK_39 H, okO_ov, aR_ov, gd_true, q_Rs_size H, q_Rs_weights H, h5.1, h6, l_0, l_1, iI_eq, iI_lt, e2, j1, j2, Int.toNat_natCast]
    rw [if_neg (by omega), if_neg (by omega), if_neg (by omega)]
  · refine ⟨A1, σ1, m1, ?_, C1, X1, Ks_sub K1 (by decide), hA1⟩
    rw [E_Bp_mean_0, if_neg q]
    simp only [cK_0 H0, cR_0_4 H0, cK_35 H0, okO_ov, aR_ov, gd_true, bnd_some, e1]
    rw [← X1.1]
    refine (congrArg (mw _) ?_).trans (mw_of X1.2.1 X1.2.2.1)
    by_cases q1 : 0 ≤ a ∧ a ≤ 2
    · rw [decide_eq_true q1] at hw
      simp (disch := omega) only [E_Bp_mean_1, hw, bnd_some, bZ_0, reduceCtorEq, ↓reduceIte, cK_0 H, cR_0_4 H, cK_35 H, okO_ov, aR_ov, gd_true, q_Rs_size H, h5.1, l_0, l_1, iI_neg, iI_eq, iI_lt]
      by_cases c1 : c < 0
      · rw [if_pos c1]
      · rw [if_neg c1]
        by_cases c2 : 1 < c
        · rw [if_pos c2]
        · have q2 : nLf d b = 0 := Classical.byContradiction fun z => q ⟨q1, by omega, z⟩
          rw [if_neg c2, if_pos (by omega)]
    · rw [decide_eq_false q1] at hw
      simp (disch := omega) only [E_Bp_mean_1, hw, bnd_some, bZ_0, ↓reduceIte, l_0, l_1, iI_neg]
