/-! ===== the class tells a tower ===== -/
def tB (b : BD) : BD := (0, tS b, tR b, 0, hS b, hN b)
theorem p_forget {A : Nat → Nat} {σ : AM} (H : LC A σ) {m : VM} {g : Nat} (hg : m.1 27 10 = iI (g : Int)) (hg2 : g + 1 < 100000) : ∃ m' : VM, M_Bk_forget (A 27) (ov 68 A m σ) = some ((), (ov 68 A (m') σ)) ∧ (∀ c, c ≠ 27 → c ≠ 34 → m'.1 c = m.1 c) ∧ m'.2 = m.2 ∧ m'.1 27 7 = iI 0 ∧ m'.1 27 8 = iI 0 ∧ m'.1 27 9 = m.1 27 9 ∧ m'.1 27 10 = iI ((g + 1 : Nat) : Int) ∧ ∀ j, j < 4 → m'.1 34 j = iI 0 := by
  have hf := q_fill2 H.1 (sV (sV m 27 7 (iI 0)) 27 8 (iI 0)) (c := 34) (by decide) (H.2.2.1 (34, 101) (by decide)) (by rw [cN_34 H]; omega) (iI 0)
  rw [cN_34 H] at hf
  have s10 : (fillV (sV (sV m 27 7 (iI 0)) 27 8 (iI 0)) 34 4 (iI 0)).1 27 10 = iI (g : Int) := by rw [fillV_ne _ _ _ _ (by decide)]; simp (disch := decide) only [sV_eq, sW_eq, sV_ne, sW_ne, sV_2, sW_1, Nat.reduceEqDiff, ↓reduceIte]; exact hg
  refine ⟨sV (fillV (sV (sV m 27 7 (iI 0)) 27 8 (iI 0)) 34 4 (iI 0)) 27 10 (iI ((g + 1 : Nat) : Int)), ?_, fun c h1 h2 => ?_, rfl, ?_, ?_, ?_, by simp (disch := decide) only [sV_eq, sW_eq, sV_ne, sW_ne, sV_2, sW_1, Nat.reduceEqDiff, ↓reduceIte], fun j hj => ?_⟩
  · unfold M_Bk_forget
    rw [E_Bk_forget_0, okO_ov, cK_27 H, gd_true, l_0, sI_ov H.1 _ _ (by omega), letT_eq, sI_ov H.1 _ _ (by omega), letT_eq, okO_ov, aR_ov, cR_27_6 H, cK_34 H, gd_true, hf, bnd_some, okO_ov, cK_27 H, gd_true, aI_ov H.1 _ _ (by omega), s10, l_1, iI_add, iI_s, sI_ov H.1 _ _ (by omega), letT_eq, mw_ov]
  · rw [sV_ne _ _ _ _ h1, fillV_ne _ _ _ _ h2, sV_ne _ _ _ _ h1, sV_ne _ _ _ _ h1]
  · rw [sV_eq, if_neg (by decide), fillV_ne _ _ _ _ (by decide)]; simp (disch := decide) only [sV_eq, sW_eq, sV_ne, sW_ne, sV_2, sW_1, Nat.reduceEqDiff, ↓reduceIte]
  · rw [sV_eq, if_neg (by decide), fillV_ne _ _ _ _ (by decide)]; simp (disch := decide) only [sV_eq, sW_eq, sV_ne, sW_ne, sV_2, sW_1, Nat.reduceEqDiff, ↓reduceIte]
  · rw [sV_eq, if_neg (by decide), fillV_ne _ _ _ _ (by decide)]; simp (disch := decide) only [sV_eq, sW_eq, sV_ne, sW_ne, sV_2, sW_1, Nat.reduceEqDiff, ↓reduceIte]
  · rw [sV_ne _ _ _ _ (by decide)]
    show (if 34 = 34 ∧ j < 4 then iI 0 else _) = _
    rw [if_pos ⟨rfl, hj⟩]
theorem ex_le {t : PD} {part : Nat → PRs} (hp : ∀ k, (part k).1 ≤ 20000) : ∀ n k, (exS t part n k).1 ≤ 20000 := by
  have lo : ∀ (sub : Nat → PRs) (lv : Nat), (∀ k, (sub k).1 ≤ 20000) → ∀ n k l, (loS t sub lv n k l).1 ≤ 20000 := by
    intro sub lv hs n
    induction n with
    | zero => intro k l; exact Nat.zero_le _
    | succ n ih =>
      intro k l
      by_cases c : lvO (kdT t k) = lv
      · rw [show loS t sub lv (n + 1) k l = bR (sub (k + 1)) (fun k' l' => loS t sub lv n k' (l ++ l' ++ [cdO (kdT t k)])) from if_pos c]
        by_cases z : (sub (k + 1)).1 = 0
        · rw [show bR (sub (k + 1)) (fun k' l' => loS t sub lv n k' (l ++ l' ++ [cdO (kdT t k)])) = loS t sub lv n (sub (k + 1)).2.1 (l ++ (sub (k + 1)).2.2 ++ [cdO (kdT t k)]) from if_pos z]
          exact ih _ _
        · rw [bR_no z]; exact hs _
      · rw [show loS t sub lv (n + 1) k l = (0, k, l) from if_neg c]; exact Nat.zero_le _
  intro n
  induction n with
  | zero => exact hp
  | succ n ih =>
    intro k
    show (lvS t (exS t part n) (3 - n) k).1 ≤ 20000
    by_cases z : (exS t part n k).1 = 0
    · rw [show lvS t (exS t part n) (3 - n) k = loS t (exS t part n) (3 - n) (if 3 - n = 1 then 1 else 1000) (exS t part n k).2.1 (exS t part n k).2.2 from if_pos z]
      exact lo _ _ ih _ _ _
    · rw [show lvS t (exS t part n) (3 - n) k = exS t part n k from if_neg z]; exact ih k
theorem pa_le {t : PD} (ht : wfT t) {ns : List (List Nat)} {ic : Bool} : ∀ w k, (paS t ns ic w k).1 ≤ 20000 := by
  have fa : ∀ w k, (faP t k (foP t ns ic w k)).1 ≤ 20000 := fun w k => by
    have hp := pl_b ht k
    have hfo : foP t ns ic w k ≤ 5 := by unfold foP; repeat (first | omega | split)
    show foP t ns ic w k + 16 * plT t k ≤ 20000
    omega
  intro w
  induction w with
  | zero => intro k; exact fa 0 k
  | succ w ih =>
    intro k
    by_cases c : foP t ns ic (w + 1) k = 0
    · by_cases c9 : kdT t k = 9
      · rw [show paS t ns ic (w + 1) k = bR (paS t ns ic w (k + 1)) (fun k' l => (0, k', l ++ [0])) from (if_pos c).trans (if_pos c9)]
        by_cases z : (paS t ns ic w (k + 1)).1 = 0
        · rw [show bR (paS t ns ic w (k + 1)) (fun k' l => (0, k', l ++ [0])) = (0, (paS t ns ic w (k + 1)).2.1, (paS t ns ic w (k + 1)).2.2 ++ [0]) from if_pos z]; exact Nat.zero_le _
        · rw [bR_no z]; exact ih _
      · by_cases c40 : kdT t k = 40
        · rw [show paS t ns ic (w + 1) k = bR (exS t (paS t ns ic w) 4 (k + 1)) (fun k' l => epS t 41 k' l) from (if_pos c).trans ((if_neg c9).trans (if_pos c40))]
          by_cases z : (exS t (paS t ns ic w) 4 (k + 1)).1 = 0
          · rw [show bR (exS t (paS t ns ic w) 4 (k + 1)) (fun k' l => epS t 41 k' l) = epS t 41 (exS t (paS t ns ic w) 4 (k + 1)).2.1 (exS t (paS t ns ic w) 4 (k + 1)).2.2 from if_pos z]
            unfold epS
            split
            · exact Nat.zero_le _
            · have hp := pl_b ht (exS t (paS t ns ic w) 4 (k + 1)).2.1
              show 1 + 16 * plT t _ ≤ 20000
              omega
          · rw [bR_no z]; exact ex_le ih _ _
        · rw [show paS t ns ic (w + 1) k = (0, k + 1, [cdP t ns k]) from (if_pos c).trans ((if_neg c9).trans (if_neg c40))]; exact Nat.zero_le _
    · rw [show paS t ns ic (w + 1) k = faP t k (foP t ns ic (w + 1) k) from if_neg c]; exact fa _ _
theorem ln_le {t : PD} (ht : wfT t) (x : XS) : (lnS t x).1 ≤ 20000 := by
  have fa : ∀ k c (y : XS), c ≤ 6 → (faL t k c y).1 ≤ 20000 := fun k c y hc => by
    have hp := pl_b ht k
    show c + 16 * plT t k ≤ 20000
    omega
  have ep : ∀ k (y y0 : XS), (epL t k y y0).1 ≤ 20000 := fun k y y0 => by
    unfold epL
    split
    · exact Nat.zero_le _
    · exact fa _ _ _ (by omega)
  have nu : ∀ k g f (y : XS), (nuL t k g f y).1 ≤ 20000 := fun k g f y => by
    unfold nuL
    split
    · split
      · exact fa _ _ _ (by omega)
      · exact ep _ _ _
    · exact fa _ _ _ (by omega)
  have fm : ∀ ns ic k, (fmS t ns ic k).1 ≤ 20000 := fun ns ic k => ex_le (fun k => pa_le ht 5 k) 4 k
  unfold lnS
  split
  · unfold thL
    split
    · split
      · split
        · exact ep _ _ _
        · exact fa _ _ _ (by omega)
      · exact fa _ _ _ (by omega)
    · exact fa _ _ _ (by omega)
  split
  · unfold moL
    split
    · exact fa _ _ _ (by omega)
    · exact nu _ _ _ _
  split
  · unfold baL
    split
    · exact fa _ _ _ (by omega)
    · exact nu _ _ _ _
  split
  · unfold alL
    split
    · split
      · exact ep _ _ _
      · exact fm _ _ _
    · exact fa _ _ _ (by omega)
  split
  · unfold coL
    split
    · exact fa _ _ _ (by omega)
    · split
      · exact ep _ _ _
      · exact fm _ _ _
  · exact fa _ _ _ (by omega)
theorem twS_le {t : PD} (ht : wfT t) : (twS t).1 ≤ 20000 := by
  have rd : ∀ n x, (rdS t n x).1 ≤ 20000 := by
    intro n
    induction n with
    | zero => intro x; exact Nat.zero_le _
    | succ n ih =>
      intro x
      show (if kdT t (xsK x) = 0 then (0, x) else if (lnS t x).1 = 0 then rdS t n (lnS t x).2 else lnS t x).1 ≤ 20000
      split
      · exact Nat.zero_le _
      · split
        · exact ih _
        · exact ln_le ht x
  unfold twS
  split
  · split
    · have hp := pl_b ht (xsK (rdS t 1000 x0S).2)
      show 6 + 16 * plT t _ ≤ 20000
      omega
    · exact rd _ _
  · exact rd _ _
theorem c_tower {t : PD} {d : TD} {b : BD} {g z u : Nat} {A : Nat → Nat} {σ : AM} {m : VM} (C : CS0 d b g z u A σ m) (hg : g + 1 < 100000) (ht : wfT t) (hT : CTp t m) : ∃ (A' : Nat → Nat) (σ' : AM) (m' : VM), M_Bp_tower (A 0) (ov 68 A m σ) = some (iI ((twS t).1 : Int), ov 68 A' m' σ') ∧ Ext A σ A' σ' ∧ m'.1 1 2 = iI 0 ∧ (¬ (twS t).1 = 0 → A' = A ∧ σ' = σ ∧ Ks [1, 2, 3, 4, 5, 10, 11, 12, 14, 15] m m') ∧ ((twS t).1 = 0 → CS0 (twD (twS t).2) (tB b) (g + 1) (z + 7) (u + 6) A' σ' m' ∧ m'.1 0 11 = iI 0 ∧ m'.1 27 9 = m.1 27 9 ∧ m'.1 32 = m.1 32 ∧ m'.1 33 = m.1 33 ∧ (∀ j, j < 4 → m'.1 34 j = iI 0) ∧ Ks [1, 2, 3, 4, 5] m m') := by
  obtain ⟨H, wd, hD, hM, hTw, hwb, hB, h27, hg3, a, ha, ha1, ha2, ha3⟩ := C
  obtain ⟨m1, e1, f1, f2, f3, ok⟩ := c_read H ht hT
  by_cases zf : (twS t).1 = 0
  · obtain ⟨hx, c, hX, hc⟩ := ok zf
    obtain ⟨hf, hp⟩ := fOk_tw ht zf
    obtain ⟨x, hxe⟩ : ∃ x, (twS t).2 = x := ⟨_, rfl⟩
    rw [hxe] at hx hX hf hp ⊢
    have hC2 := tk2_X hX hc hx.2.2.2.2
    have et := p_take H m1
    obtain ⟨σ2, m2, e2, H2, g1, g2, g3, z2, u2, x2⟩ := p_price H hx hf hC2
    have hM2 : RmI (z + 1) (u + 6) A σ2 := by
      obtain ⟨R1, R2, R3, R4, R5, R6, R7, R8⟩ := hM
      refine ⟨by omega, ?_, by rw [(g2 21 (by decide)).2]; exact R3, by rw [(g2 25 (by decide)).2]; exact R4, by rw [(g2 26 (by decide)).2]; exact R5, by rw [(g2 38 (by decide)).2, (g2 21 (by decide)).2]; exact R6, by rw [(g2 38 (by decide)).2, (g2 21 (by decide)).2]; exact R7, by rw [(g2 25 (by decide)).2]; exact R8⟩
      rw [(g2 21 (by decide)).2, (g2 25 (by decide)).2, (g2 26 (by decide)).2, (g2 38 (by decide)).2, u2]; omega
    have hC3 : CTx x m2 := CTx_e (g1 10 (by decide) (by decide) (by decide)) (g1 12 (by decide) (by decide) (by decide)) (g1 13 (by decide) (by decide) (by decide)) (g1 14 (by decide) (by decide) (by decide)) hC2
    obtain ⟨A3, σ3, m3, e3, H3, hD3, hM3, x3, a3, k1, k2, k3, k4, k5, k6, k7⟩ := p_build H2 hx hf hp hC3 hM2
    have x23 := Ext_t x2 x3
    -- what stays till here
    have st : ∀ q, q < 68 → q ∉ [1, 3, 5, 6, 7, 10, 12, 13, 14, 15, 16, 17, 18, 19, 20, 21, 22, 23, 24, 25, 26] → m3.1 q = m.1 q := fun q h1 h2 => by
      simp only [List.mem_cons, List.not_mem_nil, or_false, not_or] at h2
      rw [k1 q h1 (by simp only [List.mem_cons, List.not_mem_nil, or_false, not_or]; omega), g1 q h1 (by omega) (by omega), tk2_c _ (by simp only [List.mem_cons, List.not_mem_nil, or_false, not_or]; omega), f1 q (by simp only [List.mem_cons, List.not_mem_nil, or_false, not_or]; omega)]
    have sl : ∀ q, q < 68 → q ∉ [1, 4, 11, 21, 22, 23, 24, 25, 26] → m3.2 q = m.2 q := fun q h1 h2 => by
      simp only [List.mem_cons, List.not_mem_nil, or_false, not_or] at h2
      rw [k2 q h1 (by simp only [List.mem_cons, List.not_mem_nil, or_false, not_or]; omega), (g2 q h1).1, tk2_2 _ (by omega), f2 q (by simp only [List.mem_cons, List.not_mem_nil, or_false, not_or]; omega)]
    obtain ⟨m4, e4, p1, p2, p7, p8, p9, p10, p34⟩ := p_forget H3 (m := m3) (g := g) (by rw [st 27 (by decide) (by decide)]; exact h27) hg
    have b0 : A3 0 = A 0 := a3 0 (by decide)
    have b17 : A3 17 = A 17 := a3 17 (by decide)
    have b27 : A3 27 = A 27 := a3 27 (by decide)
    have fin1 : ∀ q, q < 68 → q ∉ [0, 1, 3, 5, 6, 7, 10, 12, 13, 14, 15, 16, 17, 18, 19, 20, 21, 22, 23, 24, 25, 26, 27, 34] → (sV m4 0 11 (iI 0)).1 q = m.1 q := fun q h1 h2 => by
      have h3 := h2
      simp only [List.mem_cons, List.not_mem_nil, or_false, not_or] at h3
      rw [sV_ne _ _ _ _ (by omega), p1 q (by omega) (by omega), st q h1 (by simp only [List.mem_cons, List.not_mem_nil, or_false, not_or]; omega)]
    have fin2 : ∀ q, q < 68 → q ∉ [1, 4, 11, 21, 22, 23, 24, 25, 26] → (sV m4 0 11 (iI 0)).2 q = m.2 q := fun q h1 h2 => by rw [sV_2, p2]; exact sl q h1 h2
    have fin3 : ∀ q, q ≠ 0 → q ≠ 27 → q ≠ 34 → (sV m4 0 11 (iI 0)).1 q = m3.1 q := fun q h0 h1 h2 => by rw [sV_ne _ _ _ _ h0, p1 q h1 h2]
    refine ⟨A3, σ3, sV m4 0 11 (iI 0), ?_, x23, ?_, fun y => absurd zf y, fun _ => ⟨⟨H3, wf_tw hx hp, hD3, hM3, ?_, ?_, ?_, ?_, hg, a, ?_, ha1, by omega, fun y => absurd y (by omega)⟩, by simp (disch := decide) only [sV_eq, sW_eq, sV_ne, sW_ne, sV_2, sW_1, Nat.reduceEqDiff, ↓reduceIte], ?_, fin1 32 (by decide) (by decide), fin1 33 (by decide) (by decide), fun j hj => by rw [sV_ne _ _ _ _ (by decide)]; exact p34 j hj, ?_⟩⟩
    · rw [zf] at e1 ⊢
      replace e1 : M_Rd_read (A 1) (ov 68 A m σ) = some (iI 0, (ov 68 A m1 σ)) := e1
      have ed : M_Rd_draft (A 1) (ov 68 A m1 σ) = some (A 3, (ov 68 A m1 σ)) := by
        unfold M_Rd_draft
        rw [E_Rd_draft_0, okO_ov, aR_ov, cK_1 H, gd_true, cR_1_1 H, cK_3 H, gd_true, mw_ov]
      have et2 : M_Tw_take (A 10) (A 3) (ov 68 A m1 σ) = some ((), ov 68 A m2 σ2) := by
        rw [et, e2, bnd_some]
        exact mw_of x2.2.1 x2.2.2.1
      have c0 : iI 0 = (0 : Int32) := by decide
      unfold M_Bp_tower
      rw [E_Bp_tower_0, okO_ov, aR_ov, cK_0 H, gd_true, cR_0_0 H, cK_1 H, gd_true, e1, bnd_some, if_pos c0, okO_ov, aR_ov, cK_0 H, gd_true, cR_0_1 H, cK_10 H, gd_true, cR_0_0 H, cK_1 H, gd_true, ed, bnd_some, okO_ov, cK_10 H, gd_true, et2, bnd_some, okO_ov, aR_ov, cK_0 H2, gd_true, cR_0_2 H2, cK_17 H2, gd_true, e3, bnd_some, ← b0, okO_ov, aR_ov, cK_0 H3, gd_true, cR_0_3 H3, cK_27 H3, gd_true, e4, bnd_some, okO_ov, cK_0 H3, gd_true, l_0, sI_ov H3.1 _ _ (by omega), letT_eq, E_Bp_tower_1]
      exact mw_of x23.2.1 x23.2.2.1
    · rw [fin3 1 (by decide) (by decide) (by decide), k1 1 (by decide) (by decide), g1 1 (by decide) (by decide) (by decide), tk2_c _ (by decide)]; exact f3
    · refine ⟨⟨?_, ?_, ?_, ?_, ?_, ?_⟩, fun k hk => ?_, fun k hk => ?_, fun w hw => ?_, fun s hs => ?_⟩
      · rw [fin3 10 (by decide) (by decide) (by decide), k1 10 (by decide) (by decide)]; exact hC3.1.1
      · rw [fin3 10 (by decide) (by decide) (by decide), k1 10 (by decide) (by decide)]; exact hC3.1.2.1
      · rw [fin3 10 (by decide) (by decide) (by decide), k1 10 (by decide) (by decide)]; exact hC3.1.2.2.1
      · rw [fin3 10 (by decide) (by decide) (by decide), k1 10 (by decide) (by decide)]; exact hC3.1.2.2.2
      · rw [fin3 17 (by decide) (by decide) (by decide)]; exact k3
      · rw [fin3 17 (by decide) (by decide) (by decide)]; exact k4
      · rw [sV_2, p2]; exact k5 k hk
      · rw [fin3 22 (by decide) (by decide) (by decide)]; exact k6 k hk
      · rw [fin3 23 (by decide) (by decide) (by decide)]; exact k7 w hw
      · rw [fin3 15 (by decide) (by decide) (by decide), k1 15 (by decide) (by decide)]; exact g3 s hs
    · obtain ⟨w1, w2, w3, w4, w5⟩ := hwb
      exact ⟨Nat.zero_le _, Nat.zero_le _, w3, fun j hj => absurd hj (Nat.not_lt_zero j), w5⟩
    · obtain ⟨_, q1, q2, q3, q4⟩ := hB
      refine ⟨⟨by rw [sV_ne _ _ _ _ (by decide)]; exact p7, by rw [sV_ne _ _ _ _ (by decide)]; exact p8⟩, fun j hj => ?_, fun j hj => ?_, fun j hj => ?_, fun j hj => ?_⟩
      · rw [fin1 28 (by decide) (by decide)]; exact q1 j hj
      · rw [fin1 29 (by decide) (by decide)]; exact q2 j hj
      · rw [fin1 30 (by decide) (by decide)]; exact q3 j hj
      · rw [fin1 31 (by decide) (by decide)]; exact q4 j hj
    · rw [sV_ne _ _ _ _ (by decide)]; exact p10
    · rw [fin1 35 (by decide) (by decide)]; exact ha
    · rw [sV_ne _ _ _ _ (by decide), p9, st 27 (by decide) (by decide)]
    · intro g' hg'
      have hF : ∀ g ∈ [1, 2, 3, 4, 5], ∀ q ∈ gF g, q.1 < 68 ∧ q.1 ∉ [0, 1, 3, 5, 6, 7, 10, 12, 13, 14, 15, 16, 17, 18, 19, 20, 21, 22, 23, 24, 25, 26, 27, 34] := by decide
      have hCc : ∀ g ∈ [1, 2, 3, 4, 5], ∀ q ∈ gC g, q < 68 ∧ q ∉ [0, 1, 3, 5, 6, 7, 10, 12, 13, 14, 15, 16, 17, 18, 19, 20, 21, 22, 23, 24, 25, 26, 27, 34] := by decide
      have hLl : ∀ g ∈ [1, 2, 3, 4, 5], ∀ q ∈ gL g, q.1 < 68 ∧ q.1 ∉ [1, 4, 11, 21, 22, 23, 24, 25, 26] := by decide
      have hMm : ∀ g ∈ [1, 2, 3, 4, 5], ∀ q ∈ gM g, q < 68 ∧ q ∉ [1, 4, 11, 21, 22, 23, 24, 25, 26] := by decide
      exact ⟨fun q hq => by rw [fin1 _ (hF g' hg' q hq).1 (hF g' hg' q hq).2], fun q hq => fin1 _ (hCc g' hg' q hq).1 (hCc g' hg' q hq).2, fun q hq => by rw [fin2 _ (hLl g' hg' q hq).1 (hLl g' hg' q hq).2], fun q hq => fin2 _ (hMm g' hg' q hq).1 (hMm g' hg' q hq).2⟩
  · have hb : (twS t).1 ≤ 20000 := twS_le ht
    have c0 : ¬ iI ((twS t).1 : Int) = (0 : Int32) := by rw [l_0, iI_eq (by omega) (by omega) (by omega) (by omega)]; omega
    refine ⟨A, σ, m1, ?_, Ext_r _ _, f3, fun _ => ⟨rfl, rfl, ?_⟩, fun y => absurd y zf⟩
    · unfold M_Bp_tower
      rw [E_Bp_tower_0, okO_ov, aR_ov, cK_0 H, gd_true, cR_0_0 H, cK_1 H, gd_true, e1, bnd_some, if_neg c0, E_Bp_tower_1, mw_ov]
    · intro g' hg'
      have hF : ∀ g ∈ [1, 2, 3, 4, 5, 10, 11, 12, 14, 15], ∀ q ∈ gF g, q.1 ∉ [1, 3, 5, 6, 7] := by decide
      have hCc : ∀ g ∈ [1, 2, 3, 4, 5, 10, 11, 12, 14, 15], ∀ q ∈ gC g, q ∉ [1, 3, 5, 6, 7] := by decide
      have hLl : ∀ g ∈ [1, 2, 3, 4, 5, 10, 11, 12, 14, 15], ∀ q ∈ gL g, q.1 ∉ [1, 4] := by decide
      have hMm : ∀ g ∈ [1, 2, 3, 4, 5, 10, 11, 12, 14, 15], ∀ q ∈ gM g, q ∉ [1, 4] := by decide
      exact ⟨fun q hq => by rw [f1 _ (hF g' hg' q hq)], fun q hq => f1 _ (hCc g' hg' q hq), fun q hq => by rw [f2 _ (hLl g' hg' q hq)], fun q hq => f2 _ (hMm g' hg' q hq)⟩
