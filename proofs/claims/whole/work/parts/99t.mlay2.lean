/-! ===== lists counted; the reference numbers them ===== -/
def cnk (d : TD) (w : Nat) (v : Int64) : Nat := cntN w (fun w' => dMay d w' && decide (lst d w' = v))
def CNT (d : TD) (w : Nat) (L : List Int64) (f : Nat → Int32) : Prop := ∀ k, k < L.length → f k = iI (cnk d w (L.getD k 0) : Int)
theorem cnk_s (d : TD) (w : Nat) (v : Int64) : cnk d (w + 1) v = cnk d w v + if (dMay d w && decide (lst d w = v)) = true then 1 else 0 := rfl
theorem cnk_le (d : TD) (w : Nat) (v : Int64) : cnk d w v ≤ w := cntN_le _ _
theorem CNT_no {d : TD} {w : Nat} {L : List Int64} {f : Nat → Int32} (hm : dMay d w = false) (h : CNT d w L f) : CNT d (w + 1) L f := fun k hk => by
  rw [h k hk, cnk_s, hm]; rfl
theorem CNT_old {d : TD} {w : Nat} {L : List Int64} {f g : Nat → Int32} (hm : dMay d w = true) (hn : L.Nodup) (hx : lst d w ∈ L) (h : CNT d w L f) (hg : ∀ i, g i = if i = L.idxOf (lst d w) then f (L.idxOf (lst d w)) + iI 1 else f i) : CNT d (w + 1) L g := fun k hk => by
  rw [hg k, cnk_s, hm, Bool.true_and]
  have hi : L.idxOf (lst d w) < L.length := List.idxOf_lt_length_iff.mpr hx
  have ex : L.getD (L.idxOf (lst d w)) 0 = lst d w := by
    rw [List.getD_eq_getElem?_getD, List.getElem?_eq_getElem hi]; exact List.getElem_idxOf hi
  by_cases e : k = L.idxOf (lst d w)
  · rw [if_pos e, h _ hi, e, ex, if_pos (decide_eq_true rfl), iI_add]; rfl
  · rw [if_neg e, h k hk]
    have : ¬ lst d w = L.getD k 0 := fun z => e (by rw [z]; exact (idxOf_getD hn hk).symm)
    rw [if_neg (by rw [decide_eq_false this]; decide)]; rfl
theorem CNT_new {d : TD} {w : Nat} {f g : Nat → Int32} (hm : dMay d w = true) (hx : ¬ lst d w ∈ LLs d w) (h : CNT d w (LLs d w) f) (hg : ∀ i, g i = if i = (LLs d w).length then iI 1 else f i) : CNT d (w + 1) (LLs d w ++ [lst d w]) g := fun k hk => by
  rw [List.length_append, List.length_singleton] at hk
  rw [hg k, cnk_s, hm, Bool.true_and]
  by_cases e : k = (LLs d w).length
  · subst e
    rw [if_pos rfl, getD_app2, if_pos (decide_eq_true rfl)]
    have : cnk d w (lst d w) = 0 := cntN_none fun i hi => by
      cases q : dMay d i
      · rfl
      · rw [Bool.true_and]
        exact decide_eq_false fun z => hx (by rw [← z]; exact LLs_has hi q)
    rw [this]; rfl
  · rw [if_neg e, getD_app1 _ _ _ (by omega), h k (by omega)]
    have : ¬ lst d w = (LLs d w).getD k 0 := fun z => hx (by rw [z]; exact getD_mem (by omega))
    rw [if_neg (by rw [decide_eq_false this]; decide)]; rfl
theorem LLs_old {d : TD} {w : Nat} (h : ¬ (dMay d w = true ∧ ¬ lst d w ∈ LLs d w)) : LLs d (w + 1) = LLs d w := if_neg h
theorem LLs_new {d : TD} {w : Nat} (h : dMay d w = true ∧ ¬ lst d w ∈ LLs d w) : LLs d (w + 1) = LLs d w ++ [lst d w] := if_pos h
def hsM (x : Int64) : Nat := tn (x * 7046029254386353131) / 2 ^ 49
theorem hsM_lt (x : Int64) : hsM x < 32768 := (hi_bits (x * 7046029254386353131) (c := 49) (by omega) (by omega)).2
theorem nx_M {a : Nat} (h : a < 32768) : (iI (a : Int) + iI 1) &&& iI 32767 = iI (((a + 1) % 32768 : Nat) : Int) := by
  have e := and_mask (a := a + 1) (k := 15) (by omega) (by omega)
  replace e : iI ((a + 1 : Nat) : Int) &&& iI 32767 = iI (((a + 1) % 32768 : Nat) : Int) := e
  rw [iI_add, iI_s, e]
theorem idx_new {L : List Int64} {x : Int64} (h : ¬ x ∈ L) : (L ++ [x]).idxOf x = L.length := by
  rw [List.idxOf_append, if_neg h, List.idxOf_cons_self]; omega
theorem nf_step {A : Nat → Nat} {σ : AM} (H : LM A σ) {m : VM} {j k : Nat} (hj : j < 32768) (hk : k < 16384) (k2 : m.1 17 j = iI (k : Int)) {x : Int64} (hx : ¬ m.2 14 k = x) : L_Md_numberFor_1 (A 0) x (iI (j : Int)) (ov 40 A m σ) = L_Md_numberFor_1 (A 0) x (iI (((j + 1) % 32768 : Nat) : Int)) (ov 40 A m σ) := by
  have c1 : ¬ iI (k : Int) < (0 : Int32) := by rw [l_0, iI_lt (by omega) (by omega) (by omega) (by omega)]; omega
  have c2 : ¬ lg_cmp (m.2 14 k) x = (0 : Int32) := by rw [l_0, lgc0]; exact hx
  have enx := nx_M hj
  rw [E_Md_numberFor_1, okO_ov, aR_ov, aN_ov, mK_0 H, gd_true, mR_33 H, mK_17 H, gd_true, mN_17 H, gd_in (by omega) (by omega) (by omega), iI_cl (by omega) (by omega), Int.toNat_natCast, aI_ov H.1 _ _ (by omega), k2, if_neg c1, mR_30 H, mK_14 H, gd_true, mN_14 H, gd_in (by omega) (by omega) (by omega), iI_cl (by omega) (by omega), Int.toNat_natCast, aL_ov H.1 _ _ (by omega), if_neg c2, letT_eq, l_1, l_32767, enx]
theorem nf_start {A : Nat → Nat} {σ : AM} (m : VM) (x : Int64) : L_Md_numberFor_0 (A 0) x (ov 40 A m σ) = L_Md_numberFor_1 (A 0) x (iI (hsM x : Int)) (ov 40 A m σ) := by
  have hb := (hi_bits (x * 7046029254386353131) (c := 49) (by omega) (by omega)).1
  have l49 : (49 : Int32) = iI ((49 : Nat) : Int) := by decide
  rw [E_Md_numberFor_0, letT_eq, l49, hb]
  unfold hsM
  exact Eq.refl _
theorem nf_old {A : Nat → Nat} {σ : AM} (H : LM A σ) {m : VM} {j k : Nat} (hj : j < 32768) (hk : k < 16384) (k2 : m.1 17 j = iI (k : Int)) {x : Int64} (hx : m.2 14 k = x) : L_Md_numberFor_1 (A 0) x (iI (j : Int)) (ov 40 A m σ) = some (iI (k : Int), (ov 40 A m σ)) := by
  have c1 : ¬ iI (k : Int) < (0 : Int32) := by rw [l_0, iI_lt (by omega) (by omega) (by omega) (by omega)]; omega
  have c2 : lg_cmp (m.2 14 k) x = (0 : Int32) := by rw [l_0, lgc0]; exact hx
  rw [E_Md_numberFor_1, okO_ov, aR_ov, aN_ov, mK_0 H, gd_true, mR_33 H, mK_17 H, gd_true, mN_17 H, gd_in (by omega) (by omega) (by omega), iI_cl (by omega) (by omega), Int.toNat_natCast, aI_ov H.1 _ _ (by omega), k2, if_neg c1, mR_30 H, mK_14 H, gd_true, mN_14 H, gd_in (by omega) (by omega) (by omega), iI_cl (by omega) (by omega), Int.toNat_natCast, aL_ov H.1 _ _ (by omega), if_pos c2, E_Md_numberFor_2, okO_ov, aR_ov, aN_ov, mK_0 H, gd_true, mR_33 H, mK_17 H, gd_true, mN_17 H, gd_in (by omega) (by omega) (by omega), iI_cl (by omega) (by omega), Int.toNat_natCast, aI_ov H.1 _ _ (by omega), k2, if_neg c1, E_Md_numberFor_3, okO_ov, aR_ov, aN_ov, mK_0 H, gd_true, mR_33 H, mK_17 H, gd_true, mN_17 H, gd_in (by omega) (by omega) (by omega), iI_cl (by omega) (by omega), Int.toNat_natCast, aI_ov H.1 _ _ (by omega), k2]
def nfM (m : VM) (j n : Nat) (x : Int64) : VM := sV (sV (sW (sV m 17 j (iI (n : Int))) 14 n x) 15 n (iI 0)) 0 29 (iI ((n + 1 : Nat) : Int))
theorem nf_new {A : Nat → Nat} {σ : AM} (H : LM A σ) {m : VM} {j n : Nat} (hj : j < 32768) (hn : n < 16384) (k2 : m.1 17 j = iI (-1)) (h29 : m.1 0 29 = iI (n : Int)) (x : Int64) : L_Md_numberFor_1 (A 0) x (iI (j : Int)) (ov 40 A m σ) = some (iI (n : Int), (ov 40 A (nfM m j n x) σ)) := by
  have c1 : iI (-1) < (0 : Int32) := by decide
  have s1 : (sV m 17 j (iI (n : Int))).1 0 29 = iI (n : Int) := by simp (disch := decide) only [sV_eq, sW_eq, sV_ne, sW_ne, sV_2, sW_1, Nat.reduceEqDiff, ↓reduceIte]; exact h29
  have s2 : (sW (sV m 17 j (iI (n : Int))) 14 n x).1 0 29 = iI (n : Int) := by simp (disch := decide) only [sV_eq, sW_eq, sV_ne, sW_ne, sV_2, sW_1, Nat.reduceEqDiff, ↓reduceIte]; exact h29
  have s3 : (sV (sW (sV m 17 j (iI (n : Int))) 14 n x) 15 n (iI 0)).1 0 29 = iI (n : Int) := by simp (disch := decide) only [sV_eq, sW_eq, sV_ne, sW_ne, sV_2, sW_1, Nat.reduceEqDiff, ↓reduceIte]; exact h29
  have s4 : (nfM m j n x).1 17 j = iI (n : Int) := by unfold nfM; simp (disch := decide) only [sV_eq, sW_eq, sV_ne, sW_ne, sV_2, sW_1, Nat.reduceEqDiff, ↓reduceIte]
  rw [E_Md_numberFor_1, okO_ov, aR_ov, aN_ov, mK_0 H, gd_true, mR_33 H, mK_17 H, gd_true, mN_17 H, gd_in (by omega) (by omega) (by omega), iI_cl (by omega) (by omega), Int.toNat_natCast, aI_ov H.1 _ _ (by omega), k2, if_pos c1, E_Md_numberFor_2, okO_ov, aR_ov, aN_ov, mK_0 H, gd_true, mR_33 H, mK_17 H, gd_true, mN_17 H, gd_in (by omega) (by omega) (by omega), iI_cl (by omega) (by omega), Int.toNat_natCast, aI_ov H.1 _ _ (by omega), k2, if_pos c1, aI_ov H.1 _ _ (by omega), h29, sI_ov H.1 _ _ (by omega), letT_eq, okO_ov, aR_ov, aN_ov, mR_30 H, mK_14 H, gd_true, aI_ov H.1 _ _ (by omega), s1, mN_14 H, gd_in (by omega) (by omega) (by omega), iI_cl (by omega) (by omega), Int.toNat_natCast, sL_ov H.1 _ _ (by omega), letT_eq, okO_ov, aR_ov, aN_ov, mR_31 H, mK_15 H, gd_true, aI_ov H.1 _ _ (by omega), s2, mN_15 H, gd_in (by omega) (by omega) (by omega), iI_cl (by omega) (by omega), Int.toNat_natCast, l_0, sI_ov H.1 _ _ (by omega), letT_eq, aI_ov H.1 _ _ (by omega), s3, l_1, iI_add, iI_s, sI_ov H.1 _ _ (by omega), letT_eq]
  show L_Md_numberFor_3 (A 0) (iI (j : Int)) (ov 40 A (nfM m j n x) σ) = _
  rw [E_Md_numberFor_3, okO_ov, aR_ov, aN_ov, mK_0 H, gd_true, mR_33 H, mK_17 H, gd_true, mN_17 H, gd_in (by omega) (by omega) (by omega), iI_cl (by omega) (by omega), Int.toNat_natCast, aI_ov H.1 _ _ (by omega), s4]
theorem p_numberFor {A : Nat → Nat} {σ : AM} (H : LM A σ) {m : VM} {L : List Int64} (hT : HT 32768 hsM (m.1 17) L) (h29 : m.1 0 29 = iI (L.length : Int)) (h14 : ∀ k, k < L.length → m.2 14 k = L.getD k 0) (hn : L.Nodup) (hl : L.length < 16384) (x : Int64) : ∃ m' : VM, M_Md_numberFor (A 0) x (ov 40 A m σ) = some (iI ((if x ∈ L then L.idxOf x else L.length : Nat) : Int), (ov 40 A (m') σ)) ∧ (x ∈ L → m' = m) ∧ (¬ x ∈ L → HT 32768 hsM (m'.1 17) (L ++ [x]) ∧ m'.1 0 29 = iI ((L.length + 1 : Nat) : Int) ∧ (∀ c, c ≠ 0 → c ≠ 15 → c ≠ 17 → m'.1 c = m.1 c) ∧ (∀ j, j ≠ 29 → m'.1 0 j = m.1 0 j) ∧ (∀ i, m'.1 15 i = if i = L.length then iI 0 else m.1 15 i) ∧ (∀ c, c ≠ 14 → m'.2 c = m.2 c) ∧ ∀ i, m'.2 14 i = if i = L.length then x else m.2 14 i) := by
  obtain ⟨e, he⟩ := HT_find (Nat.le_refl _) hsM_lt hT (by omega) hn x
  have hnew0 : ¬ x ∈ L → ∀ S' : Nat → Int32, (∀ i, S' i = if i = (hsM x + e) % 32768 then iI (L.length : Int) else m.1 17 i) → HT 32768 hsM S' (L ++ [x]) := fun hx S' hS => HT_new (Nat.le_refl _) hsM_lt hT (by omega) he hx hS
  obtain ⟨a1, a2, a3⟩ := he
  have hm : ∀ e', (hsM x + e') % 32768 < 32768 := fun e' => Nat.mod_lt _ (by omega)
  have walk : ∀ n i, i + n = e → L_Md_numberFor_1 (A 0) x (iI (((hsM x + i) % 32768 : Nat) : Int)) (ov 40 A m σ) = L_Md_numberFor_1 (A 0) x (iI (((hsM x + e) % 32768 : Nat) : Int)) (ov 40 A m σ) := by
    intro n
    induction n with
    | zero => intro i hi; rw [show i = e by omega]
    | succ n ih =>
      intro i hi
      obtain ⟨k, k1, k2, k3⟩ := a2 i (by omega)
      rw [← ih (i + 1) (by omega), nf_step H (hm i) (by omega) k2 (x := x) (by rw [h14 k k1]; exact k3), Nat.mod_add_mod, Nat.add_assoc]
  have start : L_Md_numberFor_0 (A 0) x (ov 40 A m σ) = L_Md_numberFor_1 (A 0) x (iI (((hsM x + e) % 32768 : Nat) : Int)) (ov 40 A m σ) := by
    rw [← walk e 0 (by omega), nf_start, Nat.add_zero, Nat.mod_eq_of_lt (hsM_lt x)]
  have hj := hm e
  unfold M_Md_numberFor
  rw [start]
  generalize (hsM x + e) % 32768 = j at *
  by_cases hx : x ∈ L
  · have k2 : m.1 17 j = iI (L.idxOf x : Int) := by
      rcases a3 with q | q
      · exact absurd hx q.2
      · exact q.1
    have hi : L.idxOf x < L.length := List.idxOf_lt_length_iff.mpr hx
    have ex : L.getD (L.idxOf x) 0 = x := by
      rw [List.getD_eq_getElem?_getD, List.getElem?_eq_getElem hi]; exact List.getElem_idxOf hi
    refine ⟨m, ?_, fun _ => rfl, fun z => absurd hx z⟩
    rw [if_pos hx, nf_old H hj (by omega) k2 (by rw [h14 _ hi]; exact ex), mw_ov]
  · have k2 : m.1 17 j = iI (-1) := by
      rcases a3 with q | q
      · exact q.1
      · exact absurd q.2 hx
    have hnew := hnew0 hx
    refine ⟨nfM m j L.length x, ?_, fun z => absurd z hx, fun _ => ⟨hnew _ (fun i => ?_), by unfold nfM; simp (disch := decide) only [sV_eq, sW_eq, sV_ne, sW_ne, sV_2, sW_1, Nat.reduceEqDiff, ↓reduceIte], fun c h0 h15 h17 => ?_, fun i hi => ?_, fun i => ?_, fun c hc => ?_, fun i => ?_⟩⟩
    · rw [if_neg hx, nf_new H hj hl k2 h29, mw_ov]
    · unfold nfM; rw [sV_ne _ _ _ _ (by decide), sV_ne _ _ _ _ (by decide), sW_1, sV_eq]
    · unfold nfM; rw [sV_ne _ _ _ _ h0, sV_ne _ _ _ _ h15, sW_1, sV_ne _ _ _ _ h17]
    · unfold nfM; rw [sV_eq, if_neg hi, sV_ne _ _ _ _ (by decide), sW_1, sV_ne _ _ _ _ (by decide)]
    · unfold nfM; rw [sV_ne _ _ _ _ (by decide), sV_eq, sW_1, sV_ne _ _ _ _ (by decide)]
    · unfold nfM; rw [sV_2, sV_2, sW_ne _ _ _ _ hc, sV_2]
    · unfold nfM; rw [sV_2, sV_2, sW_eq, sV_2]
