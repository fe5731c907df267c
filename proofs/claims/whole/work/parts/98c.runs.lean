/-! ===== runs of hidden weights ===== -/
def rl (d : TD) (way : Nat) (x : Int64) (l0 : List Nat) : Nat → List Nat
  | 0 => l0
  | n + 1 => (rl d way x l0 n).filter (fun k => bt (LL d k) (nx d way (rl d way x l0 n)).toNat == bt x (nx d way (rl d way x l0 n)).toNat)
def rs (d : TD) (way : Nat) (x : Int64) (l0 : List Nat) (n : Nat) : Nat := (nx d way (rl d way x l0 n)).toNat
def isStop (d : TD) (way : Nat) (x : Int64) (l0 : List Nat) (n : Nat) : Prop := n ≤ 60 ∧ (n = 60 ∨ (rl d way x l0 n).length ≤ 1) ∧ ∀ j, j < n → 1 < (rl d way x l0 j).length
theorem isStop_u {d : TD} {way : Nat} {x : Int64} {l0 : List Nat} {n k : Nat} (h : isStop d way x l0 n) (h' : isStop d way x l0 k) : n = k := by
  obtain ⟨a1, a2, a3⟩ := h
  obtain ⟨b1, b2, b3⟩ := h'
  rcases Nat.lt_trichotomy n k with c | c | c
  · have := b3 n c; omega
  · exact c
  · have := a3 k c; omega
def rRang (d : TD) (way : Nat) (x : Int64) (l0 : List Nat) (n : Nat) : Nat := cntN n (fun j => bt x (rs d way x l0 j))
def rCost (d : TD) (way : Nat) (x : Int64) (l0 : List Nat) : Nat → Int32
  | 0 => iI 0
  | n + 1 => rCost d way x l0 n + dCo d (rs d way x l0 n)
theorem rl_wl {d : TD} (way : Nat) (x : Int64) {l0 : List Nat} (h : wl d l0) (n : Nat) : wl d (rl d way x l0 n) := by
  induction n with
  | zero => exact h
  | succ n ih => exact wl_flt _ ih
/-- the part that a run goes on with -/
theorem sel_t {d : TD} {way : Nat} {x : Int64} {l0 l R : List Nat} {n s : Nat} (hl : l.Perm (rl d way x l0 n)) (hs : nx d way l = (s : Int)) (hx : bt x s = true) (hR : R.Perm (l.filter (fun i => bt (LL d i) s))) : R.Perm (rl d way x l0 (n + 1)) := by
  have e : (nx d way (rl d way x l0 n)).toNat = s := by rw [← nx_perm hl, hs]; rfl
  show R.Perm ((rl d way x l0 n).filter (fun k => bt (LL d k) (nx d way (rl d way x l0 n)).toNat == bt x (nx d way (rl d way x l0 n)).toNat))
  rw [e, hx]
  refine hR.trans ((hl.filter _).trans ?_)
  rw [List.filter_congr (q := fun k => bt (LL d k) s == true) (fun k _ => by cases bt (LL d k) s <;> rfl)]
theorem sel_f {d : TD} {way : Nat} {x : Int64} {l0 l R : List Nat} {n s : Nat} (hl : l.Perm (rl d way x l0 n)) (hs : nx d way l = (s : Int)) (hx : bt x s = false) (hR : R.Perm (l.filter (fun i => !bt (LL d i) s))) : R.Perm (rl d way x l0 (n + 1)) := by
  have e : (nx d way (rl d way x l0 n)).toNat = s := by rw [← nx_perm hl, hs]; rfl
  show R.Perm ((rl d way x l0 n).filter (fun k => bt (LL d k) (nx d way (rl d way x l0 n)).toNat == bt x (nx d way (rl d way x l0 n)).toNat))
  rw [e, hx]
  refine hR.trans ((hl.filter _).trans ?_)
  rw [List.filter_congr (q := fun k => bt (LL d k) s == false) (fun k _ => by cases bt (LL d k) s <;> rfl)]
theorem flt_nn (p : Nat → Bool) (l : List Nat) : l.filter (fun i => !(!p i)) = l.filter p := List.filter_congr fun k _ => Bool.not_not _
def RunV (d : TD) (b : BD) (w way : Nat) (m : VM) : Prop := ∃ n, isStop d way (lst d w) (lefts d b) n ∧ m.1 39 16 = iI (n : Int) ∧ m.1 39 17 = iI (rRang d way (lst d w) (lefts d b) n : Int) ∧ m.1 39 18 = rCost d way (lst d w) (lefts d b) n ∧ ∀ j, j < n → m.1 47 j = iI (rs d way (lst d w) (lefts d b) j : Int)
def HA (d : TD) (b : BD) (g : Nat) (m : VM) : Prop := ∃ a : Int, m.1 39 15 = iI a ∧ -1 ≤ a ∧ a ≤ g ∧ (a = g → ∃ w way : Nat, m.1 39 13 = iI (w : Int) ∧ m.1 39 14 = iI (way : Int) ∧ w < 16384 ∧ way ≤ 2 ∧ RunV d b w way m)
theorem RunV_K {d : TD} {b : BD} {w way : Nat} {m m' : VM} (h : Kg 2 m m') (k : RunV d b w way m) : RunV d b w way m' := by
  obtain ⟨n, a1, a2, a3, a4, a5⟩ := k
  refine ⟨n, a1, ?_, ?_, ?_, fun j hj => ?_⟩
  · rw [h.1 (39, 16) (by decide)]; exact a2
  · rw [h.1 (39, 17) (by decide)]; exact a3
  · rw [h.1 (39, 18) (by decide)]; exact a4
  · rw [h.2.1 47 (by decide)]; exact a5 j hj
theorem HA_K {d : TD} {b : BD} {g : Nat} {m m' : VM} (h : Kg 2 m m') (k : HA d b g m) : HA d b g m' := by
  obtain ⟨a, a1, a2, a3, a4⟩ := k
  refine ⟨a, by rw [h.1 (39, 15) (by decide)]; exact a1, a2, a3, fun e => ?_⟩
  obtain ⟨w, way, b1, b2, b3, b4, b5⟩ := a4 e
  exact ⟨w, way, by rw [h.1 (39, 13) (by decide)]; exact b1, by rw [h.1 (39, 14) (by decide)]; exact b2, b3, b4, RunV_K h b5⟩
def gsH : List Nat := [0, 1, 3, 4, 5]
/-- a run under way -/
def hdI (d : TD) (b : BD) (A : Nat → Nat) (σ : AM) (w way g : Nat) (m0 : VM) (i : Nat) (q : VM × List Nat × Nat) : Prop := Ks gsH m0 q.1 ∧ q.2.1.Perm (rl d way (lst d w) (lefts d b) i) ∧ q.2.2 + q.2.1.length ≤ aN σ (A 24) ∧ Seg (q.1.1 24) q.2.2 q.2.1 ∧ (q.1.1 39 13 = iI (w : Int) ∧ q.1.1 39 14 = iI (way : Int) ∧ q.1.1 39 15 = iI (g : Int) ∧ q.1.1 39 16 = iI (i : Int) ∧ q.1.1 39 17 = iI (rRang d way (lst d w) (lefts d b) i : Int) ∧ q.1.1 39 18 = rCost d way (lst d w) (lefts d b) i ∧ ∀ j, j < i → q.1.1 47 j = iI (rs d way (lst d w) (lefts d b) j : Int)) ∧ ∀ j, j < i → 1 < (rl d way (lst d w) (lefts d b) j).length
def hdP (d : TD) (b : BD) (A : Nat → Nat) (σ : AM) (w way g : Nat) (m0 : VM) (X : Option (Unit × AM)) : Prop := ∃ m' : VM, X = some ((), (ov 68 A (m') σ)) ∧ Ks gsH m0 m' ∧ m'.1 39 13 = iI (w : Int) ∧ m'.1 39 14 = iI (way : Int) ∧ m'.1 39 15 = iI (g : Int) ∧ RunV d b w way m'
theorem hdI_end {d : TD} {b : BD} {A : Nat → Nat} {σ : AM} {w way g : Nat} {m0 : VM} {i : Nat} {q : VM × List Nat × Nat} (h : hdI d b A σ w way g m0 i q) (h2 : i ≤ 60) (h3 : i = 60 ∨ q.2.1.length ≤ 1) : hdP d b A σ w way g m0 (some ((), (ov 68 A (q.1) σ))) := by
  obtain ⟨a1, a2, a3, a4, ⟨b1, b2, b3, b4, b5, b6, b7⟩, a6⟩ := h
  exact ⟨q.1, rfl, a1, b1, b2, b3, i, ⟨h2, h3.imp id (fun z => by rw [← a2.length_eq]; exact z), a6⟩, b4, b5, b6, b7⟩
theorem Ch_hide2 {d : TD} {b : BD} {A : Nat → Nat} {σ : AM} {m0 : VM} (H : LC A σ) (hd : wfD d) (hD : LD d A σ) (hT : CTw d m0) {w way g : Nat} (hw : way ≤ 2) (i : Nat) (q : VM × List Nat × Nat) (hi : i < 60) (hI : hdI d b A σ w way g m0 i q) (ih : ∀ q', hdI d b A σ w way g m0 (i + 1) q' → hdP d b A σ w way g m0 (L_Ch_hide_2 (A 39) (iI (way : Int)) (lst d w) (A 24) (iI (q'.2.2 : Int)) (iI ((q'.2.2 + q'.2.1.length : Nat) : Int)) (iI ((i + 1 : Nat) : Int)) (ov 68 A (q'.1) σ))) : hdP d b A σ w way g m0 (L_Ch_hide_2 (A 39) (iI (way : Int)) (lst d w) (A 24) (iI (q.2.2 : Int)) (iI ((q.2.2 + q.2.1.length : Nat) : Int)) (iI (i : Int)) (ov 68 A (q.1) σ)) := by
  have hE := hdI_end hI (by omega)
  obtain ⟨m, l, a⟩ := q
  obtain ⟨a1, a2, a3, a4, ⟨b1, b2, b3, b4, b5, b6, b7⟩, a6⟩ := hI
  simp only at a1 a2 a3 a4 b1 b2 b3 b4 b5 b6 b7 hE ⊢
  have n24 : aN σ (A 24) = aN σ (A 21) := H.2.2.2.2.2.2.1
  have hz : aN σ (A 24) ≤ 16384 := by rw [n24]; exact hD.2
  have hwl : wl d l := wl_perm a2.symm (rl_wl way _ (wl_lefts d b) i)
  have hW := hd.2.2.2.2.2.2
  have hNL := NL_le d
  have hS := sN_le hd
  have elen : ((a + l.length : Nat) : Int) - (a : Int) = (l.length : Int) := by omega
  by_cases c : 1 < l.length
  · have hT1 := CTw_K (a1 0 (by decide)) hT
    obtain ⟨s, hs, hs1, hs2⟩ := nx_ok hd way hwl c
    obtain ⟨m2, e2, k2⟩ := p_Ch_pick H hd hD hT1 hwl (c := 24) (by decide) (by decide) (H.2.2.1 (24, 101) (by decide)) a3 hz a4 hw
    rw [hs] at e2
    have hT2 := CTw_K (OnQ_Ks k2 0 (by decide)) hT1
    have c24 : m2.1 24 = m.1 24 := OnQ_c k2 (by decide)
    obtain ⟨m3, P, R, e3, k3, s1, s2, s3, s4, s5, s6⟩ := p_Ch_partRow H hd hD hT2 hwl a3 hz (by rw [c24]; exact a4) (s := s) (by omega)
    rw [flt_nn] at s4
    have hT3 := CTw_K (OnS_Ks k3 0 (by decide)) hT2
    have hh := q_St_has (lst d w) (s := s) (by omega) (ov 68 A m3 σ)
    have f39 : ∀ j, j ≠ 5 → m3.1 39 j = m.1 39 j := fun j hj => by
      rw [k3.1 39 (by decide)]; exact k2.1 39 j (fun z => hj z.2)
    have g16 : m3.1 39 16 = iI (i : Int) := by rw [f39 16 (by decide)]; exact b4
    have g17 : m3.1 39 17 = iI (rRang d way (lst d w) (lefts d b) i : Int) := by rw [f39 17 (by decide)]; exact b5
    have g18 : m3.1 39 18 = rCost d way (lst d w) (lefts d b) i := by rw [f39 18 (by decide)]; exact b6
    have g47 : m3.1 47 = m.1 47 := by rw [k3.1 47 (by decide)]; exact OnQ_c k2 (by decide)
    have ers : rs d way (lst d w) (lefts d b) i = s := by unfold rs; rw [← nx_perm a2, hs]; rfl
    have K3 : Ks gsH m0 m3 := Ks_t a1 (Ks_t (Ks_sub (OnQ_Ks k2) (by decide)) (Ks_sub (OnS_Ks k3) (by decide)))
    have hco : ∀ m', CTw d m' → M_Tw_costOf (A 10) (iI (s : Int)) (ov 68 A (m') σ) = some (dCo d s, (ov 68 A (m') σ)) := fun m' h => q_Tw_costOf H hd h hs1
    have a6' : ∀ j, j < i + 1 → 1 < (rl d way (lst d w) (lefts d b) j).length := fun j hj => by
      by_cases e : j = i
      · subst e; rw [← a2.length_eq]; exact c
      · exact a6 j (by omega)
    have b7' : ∀ (m' : VM) j, j < i + 1 → (∀ j, m'.1 47 j = if j = i then iI (s : Int) else m3.1 47 j) → m'.1 47 j = iI (rs d way (lst d w) (lefts d b) j : Int) := fun m' j hj h => by
      rw [h j]
      by_cases e : j = i
      · rw [if_pos e, e, ers]
      · rw [if_neg e, g47]; exact b7 j (by omega)
    -- the steps behind the choice
    have step : ∀ (r : Bool) (f t : Int32), bt (lst d w) s = r → (if r = true then (f = iI ((a + P.length : Nat) : Int) ∧ t = iI ((a + l.length : Nat) : Int)) else (f = iI (a : Int) ∧ t = iI ((a + P.length : Nat) : Int))) → L_Ch_hide_2 (A 39) (iI (way : Int)) (lst d w) (A 24) (iI (a : Int)) (iI ((a + l.length : Nat) : Int)) (iI (i : Int)) (ov 68 A m σ) = L_Ch_hide_2 (A 39) (iI (way : Int)) (lst d w) (A 24) f t (iI ((i + 1 : Nat) : Int)) (ov 68 A (sV (sV (sV (sV m3 47 i (iI (s : Int))) 39 16 (iI ((i + 1 : Nat) : Int))) 39 17 (iI (rRang d way (lst d w) (lefts d b) (i + 1) : Int))) 39 18 (rCost d way (lst d w) (lefts d b) (i + 1))) σ) := by
      intro r f t hr hft
      rw [hr] at hh
      have er : rRang d way (lst d w) (lefts d b) (i + 1) = rRang d way (lst d w) (lefts d b) i + (if r = true then 1 else 0) := by
        unfold rRang
        rw [cntN_s, ers, hr]
      have ec : rCost d way (lst d w) (lefts d b) (i + 1) = rCost d way (lst d w) (lefts d b) i + dCo d s := by
        show _ + dCo d (rs d way (lst d w) (lefts d b) i) = _
        rw [ers]
      have hcv := hco (sV (sV (sV m3 47 i (iI (s : Int))) 39 16 (iI ((i + 1 : Nat) : Int))) 39 17 (iI ((rRang d way (lst d w) (lefts d b) i + (if r = true then 1 else 0) : Nat) : Int))) (CTw_K (Ks_V (gs := [0]) (Ks_V (Ks_A (Ks_r _ _) _ _ (by decide)) _ (by decide)) _ (by decide) 0 (by decide)) hT3)
      have hsm : ¬ (s : Int) = -1 := by omega
      rw [er, ec]
      cases r
      · obtain ⟨rfl, rfl⟩ := hft
        rw [show rRang d way (lst d w) (lefts d b) i + (if false = true then 1 else 0) = rRang d way (lst d w) (lefts d b) i from rfl] at hcv ⊢
        rw [E_Ch_hide_2]
        simp (disch := omega) only [E_Ch_hide_3, E_Ch_hide_4, E_Ch_hide_5, l_0, l_1, l_60, iI_neg, iI_lt, iI_sub, elen, cK_39 H, cR_39_12 H, cR_39_0 H, cK_47 H, cN_47 H, cK_10 H, okO_ov, aR_ov, aN_ov, gd_true, bnd_some, e2, e3, hh, hsm, iI_eq, bZ_0, gd_in, iI_cl, Int.toNat_natCast, aI_ov H.1, sI_ov H.1, letT_eq, sV_eq, sV_ne, g16, g17, g18, iI_add, iI_s, Int.add_zero, hcv, ↓reduceIte, Nat.reduceEqDiff]
        rw [if_pos (by omega), if_pos (by omega)]
      · obtain ⟨rfl, rfl⟩ := hft
        rw [show rRang d way (lst d w) (lefts d b) i + (if true = true then 1 else 0) = rRang d way (lst d w) (lefts d b) i + 1 from rfl] at hcv ⊢
        rw [E_Ch_hide_2]
        simp (disch := omega) only [E_Ch_hide_3, E_Ch_hide_4, E_Ch_hide_5, l_0, l_1, l_60, iI_neg, iI_lt, iI_sub, elen, cK_39 H, cR_39_12 H, cR_39_0 H, cK_47 H, cN_47 H, cK_10 H, okO_ov, aR_ov, aN_ov, gd_true, bnd_some, e2, e3, hh, hsm, iI_eq, bZ_0, gd_in, iI_cl, Int.toNat_natCast, aI_ov H.1, sI_ov H.1, letT_eq, sV_eq, sV_ne, g16, g17, g18, iI_add, iI_s, Int.add_zero, hcv, ↓reduceIte, Nat.reduceEqDiff, reduceCtorEq]
        rw [if_pos (by omega), if_pos (by omega)]
    -- the new state
    have new : ∀ (l' : List Nat) (a' : Nat), l'.Perm (rl d way (lst d w) (lefts d b) (i + 1)) → a' + l'.length ≤ aN σ (A 24) → Seg (m3.1 24) a' l' → hdI d b A σ w way g m0 (i + 1) (sV (sV (sV (sV m3 47 i (iI (s : Int))) 39 16 (iI ((i + 1 : Nat) : Int))) 39 17 (iI (rRang d way (lst d w) (lefts d b) (i + 1) : Int))) 39 18 (rCost d way (lst d w) (lefts d b) (i + 1)), l', a') := by
      intro l' a' h1 h2 h3
      refine ⟨Ks_V (Ks_V (Ks_V (Ks_A K3 _ _ (by decide)) _ (by decide)) _ (by decide)) _ (by decide), h1, h2, ?_, ⟨?_, ?_, ?_, ?_, ?_, ?_, fun j hj => b7' _ j hj (fun j => ?_)⟩, a6'⟩
      · show Seg ((sV (sV (sV (sV m3 47 i _) 39 16 _) 39 17 _) 39 18 _).1 24) a' l'
        rw [sV_ne _ _ _ _ (by decide), sV_ne _ _ _ _ (by decide), sV_ne _ _ _ _ (by decide), sV_ne _ _ _ _ (by decide)]
        exact h3
      · simp (disch := decide) only [sV_eq, sW_eq, sV_ne, sW_ne, sV_2, sW_1, Nat.reduceEqDiff, ↓reduceIte]; rw [f39 13 (by decide)]; exact b1
      · simp (disch := decide) only [sV_eq, sW_eq, sV_ne, sW_ne, sV_2, sW_1, Nat.reduceEqDiff, ↓reduceIte]; rw [f39 14 (by decide)]; exact b2
      · simp (disch := decide) only [sV_eq, sW_eq, sV_ne, sW_ne, sV_2, sW_1, Nat.reduceEqDiff, ↓reduceIte]; rw [f39 15 (by decide)]; exact b3
      · simp (disch := decide) only [sV_eq, sW_eq, sV_ne, sW_ne, sV_2, sW_1, Nat.reduceEqDiff, ↓reduceIte]
      · simp (disch := decide) only [sV_eq, sW_eq, sV_ne, sW_ne, sV_2, sW_1, Nat.reduceEqDiff, ↓reduceIte]
      · simp (disch := decide) only [sV_eq, sW_eq, sV_ne, sW_ne, sV_2, sW_1, Nat.reduceEqDiff, ↓reduceIte]
      · rw [sV_ne _ _ _ _ (by decide), sV_ne _ _ _ _ (by decide), sV_ne _ _ _ _ (by decide), sV_eq]
    cases hr : bt (lst d w) s
    · rw [step false _ _ hr ⟨rfl, rfl⟩]
      exact ih (_, P, a) (new P a (sel_f a2 hs hr s3) (by omega) s1)
    · rw [step true _ _ hr ⟨rfl, rfl⟩]
      have := ih (_, R, a + P.length) (new R (a + P.length) (sel_t a2 hs hr s4) (by omega) s2)
      simp only at this
      rw [show a + P.length + R.length = a + l.length by omega] at this
      exact this
  · have hE := hE (Or.inr (by omega))
    rw [E_Ch_hide_2]
    simp (disch := omega) only [E_Ch_hide_6, l_1, l_60, iI_lt, iI_sub, elen]
    rw [if_pos (by omega), if_neg (by omega)]
    exact hE
theorem p_Ch_hide {d : TD} {b : BD} {g : Nat} {A : Nat → Nat} {σ : AM} {m : VM} (R : RQ d b A σ m) (hg : m.1 27 10 = iI (g : Int)) (hg2 : g < 100000) (hA : HA d b g m) {w way : Nat} (hw : w < dW d) (hway : way ≤ 2) : ∃ m' : VM, M_Ch_hide (A 39) (iI (w : Int)) (iI (way : Int)) (ov 68 A m σ) = some ((), (ov 68 A (m') σ)) ∧ Ks gsH m m' ∧ HA d b g m' ∧ RunV d b w way m' := by
  have R0 := R
  obtain ⟨H, hd, hD, hT, hv, hN, hz⟩ := R
  have hW := hd.2.2.2.2.2.2
  have hNL := NL_le d
  have hl := nLf_le d b
  have n24 : aN σ (A 24) = aN σ (A 21) := H.2.2.2.2.2.2.1
  have hD1 := hD.1
  have hD2 := hD.2
  obtain ⟨a, ha, ha1, ha2, ha3⟩ := hA
  have h1 : hdP d b A σ w way g m (L_Ch_hide_1 (A 39) (iI (w : Int)) (iI (way : Int)) (ov 68 A m σ)) := by
    have K1 : Ks gsH m (sV (sV (sV (sV (sV (sV m 39 15 (iI (g : Int))) 39 13 (iI (w : Int))) 39 14 (iI (way : Int))) 39 16 (iI 0)) 39 17 (iI 0)) 39 18 (iI 0)) := Ks_V (Ks_V (Ks_V (Ks_V (Ks_V (Ks_V (Ks_r _ _) _ (by decide)) _ (by decide)) _ (by decide)) _ (by decide)) _ (by decide)) _ (by decide)
    obtain ⟨m2, e2, k2⟩ := p_Ls_listOf H hd hD (CTw_K (K1 0 (by decide)) hT) hw
    have K2 : Ks gsH m m2 := Ks_t K1 (Ks_sub (OnW_Ks k2) (by decide))
    have R2 := RQ_K (Ks_sub K2 (by decide)) R0
    obtain ⟨m3, e3, k3, s3⟩ := p_Ch_copyOfRest R2
    have K3 : Ks gsH m m3 := Ks_t K2 (Ks_sub (OnS_Ks k3) (by decide))
    have h5 : m3.1 35 5 = iI (nLf d b : Int) := by rw [(K3 1 (by decide)).1 (35, 5) (by decide)]; exact hv.1
    have f : ∀ j, m3.1 39 j = (sV (sV (sV (sV (sV (sV m 39 15 (iI (g : Int))) 39 13 (iI (w : Int))) 39 14 (iI (way : Int))) 39 16 (iI 0)) 39 17 (iI 0)) 39 18 (iI 0)).1 39 j := fun j => by rw [k3.1 39 (by decide), k2.1 39 (by decide) (by decide)]
    have lp : hdP d b A σ w way g m (L_Ch_hide_2 (A 39) (iI (way : Int)) (lst d w) (A 24) (iI ((0 : Nat) : Int)) (iI ((0 + (lefts d b).length : Nat) : Int)) (iI ((0 : Nat) : Int)) (ov 68 A m3 σ)) := by
      refine up_loopI (fun i (q : VM × List Nat × Nat) => L_Ch_hide_2 (A 39) (iI (way : Int)) (lst d w) (A 24) (iI (q.2.2 : Int)) (iI ((q.2.2 + q.2.1.length : Nat) : Int)) (iI (i : Int)) (ov 68 A (q.1) σ)) (hdI d b A σ w way g m) (hdP d b A σ w way g m) 60 (fun i q hi hI ih => Ch_hide2 H hd hD hT hway i q hi hI ih) (fun q hI => ?_) 0 (m3, lefts d b, 0) (Nat.zero_le _) ⟨K3, List.Perm.refl _, ?_, s3, ⟨?_, ?_, ?_, ?_, ?_, ?_, fun j hj => absurd hj (Nat.not_lt_zero j)⟩, fun j hj => absurd hj (Nat.not_lt_zero j)⟩
      · have := hdI_end hI (Nat.le_refl _) (Or.inl rfl)
        show hdP d b A σ w way g m (L_Ch_hide_2 _ _ _ _ _ _ _ _)
        rw [E_Ch_hide_2]
        simp (disch := omega) only [E_Ch_hide_6, l_60, iI_lt]
        rw [if_neg (by omega)]
        exact this
      · show 0 + nLf d b ≤ _; omega
      · rw [f]; simp (disch := decide) only [sV_eq, sW_eq, sV_ne, sW_ne, sV_2, sW_1, Nat.reduceEqDiff, ↓reduceIte]
      · rw [f]; simp (disch := decide) only [sV_eq, sW_eq, sV_ne, sW_ne, sV_2, sW_1, Nat.reduceEqDiff, ↓reduceIte]
      · rw [f]; simp (disch := decide) only [sV_eq, sW_eq, sV_ne, sW_ne, sV_2, sW_1, Nat.reduceEqDiff, ↓reduceIte]
      · rw [f]; simp (disch := decide) only [sV_eq, sW_eq, sV_ne, sW_ne, sV_2, sW_1, Nat.reduceEqDiff, ↓reduceIte]; rfl
      · rw [f]; simp (disch := decide) only [sV_eq, sW_eq, sV_ne, sW_ne, sV_2, sW_1, Nat.reduceEqDiff, ↓reduceIte]; rfl
      · rw [f]; simp (disch := decide) only [sV_eq, sW_eq, sV_ne, sW_ne, sV_2, sW_1, Nat.reduceEqDiff, ↓reduceIte]; rfl
    rw [Nat.zero_add] at lp
    replace lp : hdP d b A σ w way g m (L_Ch_hide_2 (A 39) (iI (way : Int)) (lst d w) (A 24) (iI 0) (iI (nLf d b : Int)) (iI 0) (ov 68 A m3 σ)) := lp
    rw [E_Ch_hide_1]
    simp (disch := omega) only [cK_39 H, cR_39_2 H, cR_39_1 H, cR_39_3 H, cK_27 H, cK_17 H, cK_35 H, okO_ov, aR_ov, gd_true, bnd_some, q_Bk_age H, hg, sI_ov H.1, letT_eq, l_0, e2, e3, q_Rs_size H, h5]
    exact lp
  have fin : ∀ m', Ks gsH m m' → m'.1 39 13 = iI (w : Int) → m'.1 39 14 = iI (way : Int) → m'.1 39 15 = iI (g : Int) → RunV d b w way m' → HA d b g m' := fun m' _ q1 q2 q3 q4 => ⟨g, q3, by omega, by omega, fun _ => ⟨w, way, q1, q2, by omega, hway, q4⟩⟩
  unfold M_Ch_hide
  by_cases c : a = g
  · obtain ⟨w', way', b1, b2, b3, b4, b5⟩ := ha3 c
    by_cases c2 : w' = w ∧ way' = way
    · obtain ⟨rfl, rfl⟩ := c2
      refine ⟨m, ?_, Ks_r _ _, ⟨a, ha, ha1, ha2, ha3⟩, b5⟩
      rw [E_Ch_hide_0]
      simp (disch := omega) only [cK_39 H, cR_39_2 H, cK_27 H, okO_ov, aR_ov, gd_true, bnd_some, q_Bk_age H, hg, aI_ov H.1, ha, b1, b2, c, ↓reduceIte, mw_ov]
    · obtain ⟨m', e, k1, k2, k3, k4, k5⟩ := h1
      refine ⟨m', ?_, k1, fin m' k1 k2 k3 k4 k5, k5⟩
      rw [E_Ch_hide_0]
      simp (disch := omega) only [cK_39 H, cR_39_2 H, cK_27 H, okO_ov, aR_ov, gd_true, bnd_some, q_Bk_age H, hg, aI_ov H.1, ha, b1, b2, c, ↓reduceIte, iI_eq]
      by_cases z1 : w' = w
      · have z2 : ¬ way' = way := fun z => c2 ⟨z1, z⟩
        rw [if_pos (by omega), if_neg (by omega), e, mw_ov]
      · rw [if_neg (by omega), e, mw_ov]
  · obtain ⟨m', e, k1, k2, k3, k4, k5⟩ := h1
    refine ⟨m', ?_, k1, fin m' k1 k2 k3 k4 k5, k5⟩
    rw [E_Ch_hide_0]
    simp (disch := omega) only [cK_39 H, cR_39_2 H, cK_27 H, okO_ov, aR_ov, gd_true, bnd_some, q_Bk_age H, hg, aI_ov H.1, ha, iI_eq]
    rw [if_neg c, e, mw_ov]
