/-! ===== the class reads a formula ===== -/
def nsOk (ns : List (List Nat)) : Prop := ns.length ≤ 6 ∧ ∀ n ∈ ns, n.length ≤ 8 ∧ ∀ c ∈ n, isLt c = true
def DN (ns : List (List Nat)) (m : VM) : Prop := m.1 3 7 = iI (ns.length : Int) ∧ ∀ i, i < ns.length → m.2 4 i = cw64 (ns.getD i [])
def DC (c : List Nat) (m : VM) : Prop := m.1 3 6 = iI (c.length : Int) ∧ Row (m.1 5) c
def UO (m : VM) : Prop := ∃ u : Nat, u ≤ 1000 ∧ m.1 3 6 = iI (u : Int)
def OnPr (m m' : VM) : Prop := (∀ c, c ≠ 1 → c ≠ 3 → c ≠ 5 → m'.1 c = m.1 c) ∧ (∀ j, j ∉ [3, 4, 5, 6, 8] → m'.1 1 j = m.1 1 j) ∧ (∀ j, j ≠ 6 → m'.1 3 j = m.1 3 j) ∧ ∀ c, c ≠ 1 → m'.2 c = m.2 c
theorem OnPr_r (m : VM) : OnPr m m := ⟨fun _ _ _ _ => rfl, fun _ _ => rfl, fun _ _ => rfl, fun _ _ => rfl⟩
theorem OnPr_t {a b c : VM} (h : OnPr a b) (k : OnPr b c) : OnPr a c := ⟨fun i h1 h2 h3 => (k.1 i h1 h2 h3).trans (h.1 i h1 h2 h3), fun i hi => (k.2.1 i hi).trans (h.2.1 i hi), fun i hi => (k.2.2.1 i hi).trans (h.2.2.1 i hi), fun i hi => (k.2.2.2 i hi).trans (h.2.2.2 i hi)⟩
theorem OnPr_A {m m' : VM} (h : OnA m m') : OnPr m m' := ⟨fun c h1 _ _ => h.1 c h1, fun j hj => h.2.1 j (fun z => hj (by
  rcases List.mem_cons.mp z with z | z
  · subst z; decide
  rcases List.mem_cons.mp z with z | z
  · subst z; decide
  rcases List.mem_cons.mp z with z | z
  · subst z; decide
  rcases List.mem_cons.mp z with z | z
  · subst z; decide
  · exact absurd z List.not_mem_nil)), fun j _ => by rw [h.1 3 (by decide)], h.2.2⟩
/-- within a formula, all well -/
def PS (t : PD) (ns : List (List Nat)) (ic : Bool) (k : Nat) (c : List Nat) (m : VM) : Prop := CTp t m ∧ RdA t (plT t k) m ∧ m.1 1 8 = iI 0 ∧ m.1 1 12 = bZ ic ∧ DN ns m ∧ DC c m
def PZ (t : PD) (ns : List (List Nat)) (ic : Bool) (c : List Nat) (r : PRs) (m m' : VM) : Prop := OnPr m m' ∧ UO m' ∧ m'.1 1 8 = iI (r.1 : Int) ∧ r.1 ≤ 20000 ∧ (r.1 = 0 → PS t ns ic r.2.1 (c ++ r.2.2) m')
theorem kd_lt {t : PD} (ht : wfT t) (k : Nat) : kdT t k < 128 := by
  unfold kdT kT0
  have wk3 : ∀ n l, n ≤ 10 → wk l n < 14 := by
    intro n l
    induction n with
    | zero => intro _; exact (by decide : 3 < 14)
    | succ n ih =>
      intro h
      show (if wlT n = l then 4 + n else wk l n) < 14
      have := ih (by omega)
      split <;> omega
  have := wk3 10 (wdT t (plT t k) (eT t (plT t k))) (Nat.le_refl _)
  split
  · rename_i h
    have := tp_lt ht h
    split
    · split <;> omega
    · split
      · split <;> omega
      · split <;> omega
  · omega
theorem pl_b {t : PD} (ht : wfT t) (k : Nat) : plT t k ≤ 1000 := Nat.le_trans (pl_le t k) ht.1
/-- a name token -/
theorem kd_W {t : PD} {k : Nat} (h1 : 3 ≤ kdT t k) (h2 : kdT t k ≤ 13) (ht : wfT t) : kW t (plT t k) := by
  unfold kdT kT0 at h1 h2
  by_cases c : plT t k < t.1
  · rw [if_pos c] at h1 h2
    by_cases c1 : isLt (t.2 (plT t k)) = true
    · rw [if_pos c1] at h1 h2
      by_cases c2 : 8 < eT t (plT t k) - plT t k
      · rw [if_pos c2] at h1; omega
      · exact ⟨c, c1, by omega⟩
    · rw [if_neg c1] at h1 h2
      by_cases c2 : isDg (t.2 (plT t k)) = true
      · rw [if_pos c2] at h1 h2
        split at h1 <;> omega
      · rw [if_neg c2] at h1 h2
        by_cases c3 : isSg (t.2 (plT t k)) = true
        · rw [if_pos c3] at h1 h2
          have : ∀ c : Fin 14, isSg c.val = false := by decide
          have := this ⟨t.2 (plT t k), by omega⟩
          rw [this] at c3; cases c3
        · rw [if_neg c3] at h1; omega
  · rw [if_neg c] at h1; omega
theorem wdK_ok {t : PD} {k : Nat} (h : kW t (plT t k)) : (wdK t k).length ≤ 8 ∧ ∀ c ∈ wdK t k, isLt c = true := by
  obtain ⟨h1, h2, h3⟩ := h
  unfold wdK
  refine ⟨by rw [wd_len]; exact h3, wd_in fun j j1 j2 => ?_⟩
  have ee : eT t (plT t k) = enT t isLt (plT t k) := by unfold eT; rw [if_pos h1, if_pos h2]
  rw [ee] at j2
  exact en_in j1 j2
theorem idx_le (ns : List (List Nat)) (w : List Nat) : idxN ns w ≤ ns.length := List.findIdx_le_length
theorem q_Tw_named {A : Nat → Nat} {σ : AM} (H : LC A σ) {ns : List (List Nat)} (hn : nsOk ns) {m : VM} (hD : DN ns m) {w : List Nat} (h1 : w.length ≤ 8) (h2 : ∀ c ∈ w, isLt c = true) : M_Tw_thingNamed (A 3) (cw64 w) (ov 68 A m σ) = some (iI (if idxN ns w = ns.length then -1 else (idxN ns w : Int)), (ov 68 A m σ)) := by
  have hl := hn.1
  have lp : ∀ k i, i + k = ns.length → (∀ j, j < i → ¬ ns.getD j [] = w) → L_Tw_thingNamed_1 (A 3) (cw64 w) (iI (i : Int)) (ov 68 A m σ) = some (iI (if idxN ns w = ns.length then -1 else (idxN ns w : Int)), (ov 68 A m σ)) := by
    intro k
    induction k with
    | zero =>
      intro i hi hno
      have e : idxN ns w = ns.length := by
        unfold idxN
        rw [List.findIdx_eq_length]
        intro x hx
        obtain ⟨j, hj, rfl⟩ := List.mem_iff_getElem.mp hx
        have := hno j (by omega)
        rw [List.getD_eq_getElem?_getD, List.getElem?_eq_getElem hj] at this
        exact decide_eq_false this
      rw [if_pos e, E_Tw_thingNamed_1]
      simp (disch := omega) only [cK_3 H, okO_ov, gd_true, aI_ov H.1, hD.1, l_1, iI_neg, iI_lt]
      rw [if_neg (by omega)]
    | succ k ih =>
      intro i hi hno
      have hil : i < ns.length := by omega
      have e4 := hD.2 i hil
      have hm : ns.getD i [] ∈ ns := by
        rw [List.getD_eq_getElem?_getD, List.getElem?_eq_getElem hil]
        exact List.getElem_mem hil
      have hx := hn.2 _ hm
      have hi2 := cw_inj hx.1 h1 hx.2 h2
      rw [E_Tw_thingNamed_1]
      simp (disch := omega) only [cK_3 H, cR_3_0 H, cK_4 H, cN_4 H, okO_ov, aR_ov, aN_ov, gd_true, gd_in, iI_cl, Int.toNat_natCast, aI_ov H.1, aL_ov H.1, hD.1, e4, lgc0, l_0, l_1, iI_lt, iI_add, iI_s]
      rw [if_pos (by omega)]
      by_cases c : ns.getD i [] = w
      · rw [if_pos (hi2.mpr c)]
        have e : idxN ns w = i := by
          unfold idxN
          rw [List.findIdx_eq hil]
          rw [List.getD_eq_getElem?_getD, List.getElem?_eq_getElem hil] at c
          refine ⟨decide_eq_true c, fun j hj => ?_⟩
          have := hno j hj
          rw [List.getD_eq_getElem?_getD, List.getElem?_eq_getElem (show j < ns.length by omega)] at this
          exact decide_eq_false this
        rw [e, if_neg (by omega)]
      · rw [if_neg (fun z => c (hi2.mp z))]
        exact ih (i + 1) (by omega) (fun j hj => by
          by_cases e : j = i
          · rw [e]; exact c
          · exact hno j (by omega))
  have e := lp ns.length 0 (by omega) (fun j hj => absurd hj (Nat.not_lt_zero j))
  replace e : L_Tw_thingNamed_1 (A 3) (cw64 w) (iI 0) _ = _ := e
  unfold M_Tw_thingNamed
  rw [E_Tw_thingNamed_0]
  simp only [l_0, e, mw_ov]
theorem p_Tw_add {A : Nat → Nat} {σ : AM} (H : LC A σ) {m : VM} (hU : UO m) (v : Nat) : ∃ m' : VM, M_Tw_add (A 3) (iI (v : Int)) (ov 68 A m σ) = some ((), (ov 68 A (m') σ)) ∧ OnPr m m' ∧ m'.1 1 = m.1 1 ∧ m'.2 = m.2 ∧ UO m' ∧ ∀ c, DC c m → c.length < 1000 → DC (c ++ [v]) m' := by
  obtain ⟨u, u1, u2⟩ := hU
  unfold M_Tw_add
  by_cases q : u < 1000
  · have e6 : (sV m 5 u (iI (v : Int))).1 3 6 = iI (u : Int) := by simp (disch := decide) only [sV_eq, sW_eq, sV_ne, sW_ne, sV_2, sW_1, Nat.reduceEqDiff, ↓reduceIte]; exact u2
    refine ⟨sV (sV m 5 u (iI (v : Int))) 3 6 (iI ((u + 1 : Nat) : Int)), ?_, ⟨fun c h1 h2 h3 => by rw [sV_ne _ _ _ _ h2, sV_ne _ _ _ _ h3], fun j _ => by rw [sV_ne _ _ _ _ (by decide), sV_ne _ _ _ _ (by decide)], fun j hj => by rw [sV_eq, if_neg hj, sV_ne _ _ _ _ (by decide)], fun _ _ => rfl⟩, by rw [sV_ne _ _ _ _ (by decide), sV_ne _ _ _ _ (by decide)], rfl, ⟨u + 1, by omega, by simp (disch := decide) only [sV_eq, sW_eq, sV_ne, sW_ne, sV_2, sW_1, Nat.reduceEqDiff, ↓reduceIte]⟩, fun c hc hl => ?_⟩
    · rw [E_Tw_add_0]
      simp (disch := omega) only [E_Tw_add_1, cK_3 H, cR_3_1 H, cK_5 H, cN_5 H, okO_ov, aR_ov, aN_ov, gd_true, gd_in, iI_cl, Int.toNat_natCast, aI_ov H.1, sI_ov H.1, letT_eq, u2, e6, l_1, l_1000, iI_lt, iI_add, iI_s]
      rw [if_pos (by omega), mw_ov]
    · have e : c.length = u := by
        have := hc.1.symm.trans u2
        rw [iI_eq (by omega) (by omega) (by omega) (by omega)] at this
        omega
      refine ⟨?_, ?_⟩
      · rw [List.length_append, List.length_singleton, e]; simp (disch := decide) only [sV_eq, sW_eq, sV_ne, sW_ne, sV_2, sW_1, Nat.reduceEqDiff, ↓reduceIte]
      · rw [sV_ne _ _ _ _ (by decide)]
        exact Row_app hc.2 (fun i => by rw [e]; exact sV_eq _ _ _ _ _)
  · refine ⟨m, ?_, OnPr_r m, rfl, rfl, ⟨u, u1, u2⟩, fun c hc hl => ?_⟩
    · rw [E_Tw_add_0]
      simp (disch := omega) only [E_Tw_add_1, cK_3 H, okO_ov, gd_true, aI_ov H.1, u2, l_1000, iI_lt]
      rw [if_neg (by omega), mw_ov]
    · have := hc.1.symm.trans u2
      rw [iI_eq (by omega) (by omega) (by omega) (by omega)] at this
      omega
