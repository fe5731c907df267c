/-! ===== the class prices sets; it makes room ===== -/
theorem p_price {t : PD} {x : XS} {A : Nat → Nat} {σ : AM} (H : LC A σ) (hx : xOk t x) (hf : fOk x) {m : VM} (hC : CTx x m) : ∃ (σ' : AM) (m' : VM), M_Tw_priceSets (A 10) (ov 68 A m σ) = some ((), ov 68 A m' σ') ∧ LC A σ' ∧ (∀ c, c < 68 → c ≠ 15 → c ≠ 16 → m'.1 c = m.1 c) ∧ (∀ c, c < 68 → m'.2 c = m.2 c ∧ aN σ' (A c) = aN σ (A c)) ∧ (∀ s, s < 2 ^ (xsN x).length → m'.1 15 s = coX x s) ∧ aZ σ' = aZ σ + 1 ∧ aU σ' = aU σ + 6 ∧ Ext A σ A σ' := by
  have hn6 := hx.2.1.1
  obtain ⟨A', m1, τ, e0, H', hI, hk, h68, ok68, n68, back⟩ := fresh H m
  have a10 : A' 10 = A 10 := (hk 10 (by decide)).1
  have l0 : ∀ k : Nat, iI (k : Int) + (1 : Int32) = iI ((k + 1 : Nat) : Int) := fun k => by rw [l_1, iI_add, iI_s]
  have hp64 : 2 ^ (xsN x).length ≤ 64 := Nat.le_trans (Nat.pow_le_pow_right (by omega) hn6) (by decide)
  have hC1 : CTx x m1 := CTx_e (hk 10 (by decide)).2.1 (hk 12 (by decide)).2.1 (hk 13 (by decide)).2.1 (hk 14 (by decide)).2.1 hC
  -- free or not
  obtain ⟨zc, z1, z2, z3, z4⟩ := hC1.2.2.1
  have hfree : ∀ b : Bool, b = (xsC x).isNone → (if iI (zc : Int) = iI ((zc + ((xsC x).getD []).length : Nat) : Int) then L_Tw_priceSets_1 (A' 10) (A' 68) (1 : Int32) (ov 69 A' m1 τ) else L_Tw_priceSets_1 (A' 10) (A' 68) (0 : Int32) (ov 69 A' m1 τ)) = L_Tw_priceSets_1 (A' 10) (A' 68) (bZ b) (ov 69 A' m1 τ) := fun b hb => by
    cases q : xsC x with
    | none =>
      rw [q] at hb
      have hb : b = true := hb
      rw [if_pos (by rfl), hb]; rfl
    | some l =>
      rw [q] at hb
      have hb : b = false := hb
      have hpos := hC1.2.2.2 (by rw [q]; rfl)
      rw [q] at hpos z4
      have hpos : 0 < l.length := hpos
      have z4 : zc + l.length ≤ 1000 := z4
      rw [if_neg (fun y => by
        have y : iI (zc : Int) = iI ((zc + l.length : Nat) : Int) := y
        rw [iI_eq (by omega) (by omega) (by omega) (by omega)] at y; omega), hb]; rfl
  -- one set
  have one : ∀ (s : Nat) (mm : VM), s < 2 ^ (xsN x).length → (∀ c, c < 68 → c ≠ 15 → c ≠ 16 → mm.1 c = m1.1 c) → ∃ mm' : VM, L_Tw_priceSets_3 (A' 10) (A' 68) (bZ (xsC x).isNone) (iI (s : Int)) (iI 0) (ov 69 A' mm τ) = L_Tw_priceSets_2 (A' 10) (A' 68) (bZ (xsC x).isNone) (iI ((s + 1 : Nat) : Int)) (ov 69 A' mm' τ) ∧ (∀ c, c < 68 → c ≠ 15 → c ≠ 16 → mm'.1 c = m1.1 c) ∧ mm'.2 = mm.2 ∧ ∀ j, mm'.1 15 j = if j = s then coX x s else mm.1 15 j := by
    intro s mm hs hmm
    have hs64 : s < 64 := by omega
    have lp : ∃ m2 : VM, L_Tw_priceSets_3 (A' 10) (A' 68) (bZ (xsC x).isNone) (iI (s : Int)) (iI ((0 : Nat) : Int)) (ov 69 A' mm τ) = L_Tw_priceSets_3 (A' 10) (A' 68) (bZ (xsC x).isNone) (iI (s : Int)) (iI ((xsN x).length : Int)) (ov 69 A' m2 τ) ∧ (∀ c, c ≠ 68 → m2.1 c = mm.1 c) ∧ m2.2 = mm.2 ∧ ∀ j, j < (xsN x).length → m2.1 68 j = bitF s j := by
      refine up_loopI (fun k mq => L_Tw_priceSets_3 (A' 10) (A' 68) (bZ (xsC x).isNone) (iI (s : Int)) (iI (k : Int)) (ov 69 A' mq τ)) (fun k mq => (∀ c, c ≠ 68 → mq.1 c = mm.1 c) ∧ mq.2 = mm.2 ∧ ∀ j, j < k → mq.1 68 j = bitF s j) (fun X => ∃ m2 : VM, X = L_Tw_priceSets_3 (A' 10) (A' 68) (bZ (xsC x).isNone) (iI (s : Int)) (iI ((xsN x).length : Int)) (ov 69 A' m2 τ) ∧ (∀ c, c ≠ 68 → m2.1 c = mm.1 c) ∧ m2.2 = mm.2 ∧ ∀ j, j < (xsN x).length → m2.1 68 j = bitF s j) (xsN x).length (fun k mq hk2 ⟨i1, i2, i3⟩ ih => ?_) (fun mq ⟨i1, i2, i3⟩ => ⟨mq, rfl, i1, i2, i3⟩) 0 _ (Nat.zero_le _) ⟨fun _ _ => rfl, rfl, fun j hj => absurd hj (Nat.not_lt_zero j)⟩
      have e7 : mq.1 10 7 = iI ((xsN x).length : Int) := by rw [i1 10 (by decide), hmm 10 (by decide) (by decide) (by decide)]; exact hC1.1.1
      have c1 : iI (k : Int) < iI ((xsN x).length : Int) := by rw [iI_lt (by omega) (by omega) (by omega) (by omega)]; omega
      have hb : (iI (s : Int) >>> (iI (k : Int) &&& 31)) &&& (1 : Int32) = bitF s k := bitI (s := s) (k := k) hs64 (by omega)
      show ∃ m2 : VM, L_Tw_priceSets_3 _ _ _ _ _ _ = _ ∧ _
      have step : L_Tw_priceSets_3 (A' 10) (A' 68) (bZ (xsC x).isNone) (iI (s : Int)) (iI (k : Int)) (ov 69 A' mq τ) = L_Tw_priceSets_3 (A' 10) (A' 68) (bZ (xsC x).isNone) (iI (s : Int)) (iI ((k + 1 : Nat) : Int)) (ov 69 A' (sV mq 68 k (bitF s k)) τ) := by
        rw [E_Tw_priceSets_3, okO_ov, cK_10 H', gd_true, aI_ov hI _ _ (by omega), e7, if_pos c1, ok68, gd_true, aN_ov, n68, gd_in (by omega) (by omega) (by omega), hb, iI_cl (by omega) (by omega), Int.toNat_natCast, sI_ov hI _ _ (by omega), letT_eq, l0]
      rw [step]
      refine ih _ ⟨fun c hc => by rw [sV_ne _ _ _ _ hc]; exact i1 c hc, i2, fun j hj => ?_⟩
      rw [sV_eq]
      by_cases e : j = k
      · rw [if_pos e, e]
      · rw [if_neg e]; exact i3 j (by omega)
    obtain ⟨m2, e2, j1, j2, j3⟩ := lp
    replace e2 : L_Tw_priceSets_3 (A' 10) (A' 68) (bZ (xsC x).isNone) (iI (s : Int)) (iI 0) (ov 69 A' mm τ) = _ := e2
    have e7 : m2.1 10 7 = iI ((xsN x).length : Int) := by rw [j1 10 (by decide), hmm 10 (by decide) (by decide) (by decide)]; exact hC1.1.1
    have c1 : ¬ iI ((xsN x).length : Int) < iI ((xsN x).length : Int) := by rw [iI_lt (by omega) (by omega) (by omega) (by omega)]; omega
    have fin : ∀ (mq : VM) (v : Int32), L_Tw_priceSets_4 (A' 10) (A' 68) (bZ (xsC x).isNone) (iI (s : Int)) (A' 15) (iI (s : Int)) v (ov 69 A' mq τ) = L_Tw_priceSets_2 (A' 10) (A' 68) (bZ (xsC x).isNone) (iI ((s + 1 : Nat) : Int)) (ov 69 A' (sV mq 15 s v) τ) := fun mq v => by
      rw [E_Tw_priceSets_4, okO_ov, cK_15 H', gd_true, aN_ov, cN_15 H', gd_in (by omega) (by omega) (by omega), iI_cl (by omega) (by omega), Int.toNat_natCast, sI_ov hI _ _ (by omega), letT_eq, l0]
    cases q : xsC x with
    | none =>
      refine ⟨sV m2 15 s (iI 1), ?_, fun c h1 h2 h3 => ?_, j2, fun j => ?_⟩
      · rw [q] at e2 fin
        have c2 : ¬ bZ (none : Option (List Nat)).isNone = (0 : Int32) := by decide
        rw [e2, E_Tw_priceSets_3, okO_ov, cK_10 H', gd_true, aI_ov hI _ _ (by omega), e7, if_neg c1, aR_ov, cR_10_4 H', cK_15 H', gd_true, if_neg c2, fin, l_1]
      · rw [sV_ne _ _ _ _ h2, j1 c (by omega)]; exact hmm c h1 h2 h3
      · rw [sV_eq, j1 15 (by decide)]
        unfold coX; rw [q]
    | some l =>
      have hC2 : CTx x m2 := CTx_e (by rw [j1 10 (by decide)]; exact hmm 10 (by decide) (by decide) (by decide)) (by rw [j1 12 (by decide)]; exact hmm 12 (by decide) (by decide) (by decide)) (by rw [j1 13 (by decide)]; exact hmm 13 (by decide) (by decide) (by decide)) (by rw [j1 14 (by decide)]; exact hmm 14 (by decide) (by decide) (by decide)) hC1
      obtain ⟨y0, y1, y2, y3, y4⟩ := hC2.2.2.1
      rw [q] at y2 y3 y4
      obtain ⟨m3, e3, o3⟩ := Tw_val H' hI (by omega) (rc := 68) (by decide) ok68 n68 (by decide) (line := 4) (by decide) (l := l) y1 y2 y3 y4 hn6 (hf.2 l q) (iI (pc6 s : Int))
      replace e3 : M_Tw_value (A' 10) (iI 4) (A' 68) (iI (pc6 s : Int)) (ov 69 A' m2 τ) = _ := e3
      have ev : vaF (m2.1 68) (iI (pc6 s : Int)) l = vaF (bitF s) (iI (pc6 s : Int)) l := va_ext j3 _ (hf.2 l q)
      rw [ev] at e3
      refine ⟨sV m3 15 s (coV (vaF (bitF s) (iI (pc6 s : Int)) l)), ?_, fun c h1 h2 h3 => ?_, by rw [sV_2, o3.2]; exact j2, fun j => ?_⟩
      · rw [q] at e2 fin
        have c2 : bZ (some l).isNone = (0 : Int32) := by show bZ false = (0 : Int32); decide
        rw [e2, E_Tw_priceSets_3, okO_ov, cK_10 H', gd_true, aI_ov hI _ _ (by omega), e7, if_neg c1, aR_ov, cR_10_4 H', cK_15 H', gd_true, if_pos c2, q_JInt_bitCount hs64, bnd_some, okO_ov, cK_10 H', gd_true, l_4, e3, bnd_some, mxI_co, fin]
      · rw [sV_ne _ _ _ _ h2, o3.1 c h3, j1 c (by omega)]; exact hmm c h1 h2 h3
      · rw [sV_eq, o3.1 15 (by decide), j1 15 (by decide)]
        unfold coX; rw [q]
  have all : ∃ m2 : VM, L_Tw_priceSets_2 (A' 10) (A' 68) (bZ (xsC x).isNone) (iI ((0 : Nat) : Int)) (ov 69 A' m1 τ) = some ((), ov 69 A' m2 τ) ∧ (∀ c, c < 68 → c ≠ 15 → c ≠ 16 → m2.1 c = m1.1 c) ∧ m2.2 = m1.2 ∧ ∀ s, s < 2 ^ (xsN x).length → m2.1 15 s = coX x s := by
    have rs : ∀ mq : VM, mq.1 10 7 = iI ((xsN x).length : Int) → M_Tw_sets (A' 10) (ov 69 A' mq τ) = some (iI ((2 ^ (xsN x).length : Nat) : Int), ov 69 A' mq τ) := fun mq h => by
      unfold M_Tw_sets
      rw [E_Tw_sets_0, okO_ov, cK_10 H', gd_true, aI_ov hI _ _ (by omega), h, mw_ov]
      have := iI_shl1 (t := (xsN x).length) (by omega)
      replace this : (1 : Int32) <<< (iI ((xsN x).length : Int) &&& 31) = _ := this
      rw [this]
    refine up_loopI (fun k mq => L_Tw_priceSets_2 (A' 10) (A' 68) (bZ (xsC x).isNone) (iI (k : Int)) (ov 69 A' mq τ)) (fun k mq => (∀ c, c < 68 → c ≠ 15 → c ≠ 16 → mq.1 c = m1.1 c) ∧ mq.2 = m1.2 ∧ ∀ s, s < k → mq.1 15 s = coX x s) (fun X => ∃ m2 : VM, X = some ((), ov 69 A' m2 τ) ∧ (∀ c, c < 68 → c ≠ 15 → c ≠ 16 → m2.1 c = m1.1 c) ∧ m2.2 = m1.2 ∧ ∀ s, s < 2 ^ (xsN x).length → m2.1 15 s = coX x s) (2 ^ (xsN x).length) (fun k mq hk2 ⟨i1, i2, i3⟩ ih => ?_) (fun mq ⟨i1, i2, i3⟩ => ?_) 0 _ (Nat.zero_le _) ⟨fun _ _ _ _ => rfl, rfl, fun j hj => absurd hj (Nat.not_lt_zero j)⟩
    · have e7 : mq.1 10 7 = iI ((xsN x).length : Int) := by rw [i1 10 (by decide) (by decide) (by decide)]; exact hC1.1.1
      have c1 : iI (k : Int) < iI ((2 ^ (xsN x).length : Nat) : Int) := by rw [iI_lt (by omega) (by omega) (by omega) (by omega)]; omega
      obtain ⟨m3, e3, p1, p2, p3⟩ := one k mq hk2 i1
      show ∃ m2 : VM, L_Tw_priceSets_2 _ _ _ _ _ = _ ∧ _
      rw [E_Tw_priceSets_2, okO_ov, cK_10 H', gd_true, rs mq e7, bnd_some, if_pos c1, l_0, e3]
      refine ih _ ⟨p1, p2.trans i2, fun s hs => ?_⟩
      rw [p3]
      by_cases e : s = k
      · rw [if_pos e, e]
      · rw [if_neg e]; exact i3 s (by omega)
    · have e7 : mq.1 10 7 = iI ((xsN x).length : Int) := by rw [i1 10 (by decide) (by decide) (by decide)]; exact hC1.1.1
      have c1 : ¬ iI ((2 ^ (xsN x).length : Nat) : Int) < iI ((2 ^ (xsN x).length : Nat) : Int) := Int32.lt_irrefl
      refine ⟨mq, ?_, i1, i2, i3⟩
      show L_Tw_priceSets_2 _ _ _ _ _ = _
      rw [E_Tw_priceSets_2, okO_ov, cK_10 H', gd_true, rs mq e7, bnd_some, if_neg c1]
  obtain ⟨m2, e2, p1, p2, p3⟩ := all
  replace e2 : L_Tw_priceSets_2 (A' 10) (A' 68) (bZ (xsC x).isNone) (iI 0) (ov 69 A' m1 τ) = _ := e2
  obtain ⟨m3, e3, L3, k3, zz, uu, ex⟩ := back m2
  refine ⟨ov 69 A' m2 τ, m3, ?_, L3, fun c h1 h2 h3 => ?_, fun c hc => ⟨?_, (k3 c hc).2.2⟩, fun s hs => ?_, zz, uu, ex⟩
  · have z6 : (6 : Int32).toNatClampNeg = 6 := by decide
    have z4' : (4 : Int32).toNatClampNeg = 4 := by decide
    unfold M_Tw_priceSets
    rw [E_Tw_priceSets_0, letT_eq, aZ_ov, letT_eq, z6, e0, ← h68, ← a10, okO_ov, aR_ov, aN_ov, cK_10 H', gd_true, cR_10_2 H', cK_13 H', gd_true, l_4, cN_13 H', gd_in (by omega) (by omega) (by omega), cR_10_3 H', cK_14 H', gd_true, cN_14 H', gd_in (by omega) (by omega) (by omega), iI_cl (by omega) (by omega), show (4 : Int).toNat = 4 from rfl, aI_ov hI _ _ (by omega), aI_ov hI _ _ (by omega), z1, z2, hfree _ rfl, E_Tw_priceSets_1, l_0, e2, ← e3]
    exact mw_of (by show aZ σ ≤ aZ (ov 69 A' m2 τ); rw [zz]; omega) (by show aU σ ≤ aU (ov 69 A' m2 τ); rw [uu]; omega)
  · rw [(k3 c h1).1, p1 c h1 h2 h3]; exact (hk c h1).2.1
  · rw [(k3 c hc).2.1, p2]; exact (hk c hc).2.2.1
  · rw [(k3 15 (by decide)).1]; exact p3 s hs
