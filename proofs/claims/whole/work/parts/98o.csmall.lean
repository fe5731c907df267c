/-! ===== smallest, same: the class ===== -/
def OnF (m m' : VM) : Prop := (∀ c, (c < 54 ∨ 60 < c) → m'.1 c = m.1 c) ∧ ∀ c, c ≠ 58 → m'.2 c = m.2 c
theorem OnF_r (m : VM) : OnF m m := ⟨fun _ _ => rfl, fun _ _ => rfl⟩
theorem OnF_t {a b c : VM} (h : OnF a b) (k : OnF b c) : OnF a c := ⟨fun q hq => (k.1 q hq).trans (h.1 q hq), fun q hq => (k.2 q hq).trans (h.2 q hq)⟩
theorem OnF_V {m m' : VM} (h : OnF m m') {c : Nat} (j : Nat) (v : Int32) (h1 : 54 ≤ c) (h2 : c ≤ 60) : OnF m (sV m' c j v) := ⟨fun q hq => by rw [sV_ne _ _ _ _ (by omega)]; exact h.1 q hq, h.2⟩
theorem OnF_W {m m' : VM} (h : OnF m m') (j : Nat) (v : Int64) : OnF m (sW m' 58 j v) := ⟨h.1, fun q hq => by rw [sW_ne _ _ _ _ hq]; exact h.2 q hq⟩
theorem OnF_S {c : Nat} {m m' : VM} (h : OnS c m m') (h1 : 54 ≤ c) (h2 : c ≤ 60) : OnF m m' := ⟨fun q hq => h.1 q (by omega), fun q _ => by rw [h.2]⟩
theorem OnF_Ks {m m' : VM} (h : OnF m m') : Ks gsA m m' := fun g hg => by
  refine ⟨fun q hq => ?_, fun c hc => ?_, fun q hq => ?_, fun c hc => ?_⟩
  · have := (show ∀ g ∈ gsA, ∀ q ∈ gF g, q.1 < 54 ∨ 60 < q.1 by decide) g hg q hq
    rw [h.1 _ this]
  · have := (show ∀ g ∈ gsA, ∀ c ∈ gC g, c < 54 ∨ 60 < c by decide) g hg c hc
    exact h.1 _ this
  · have := (show ∀ g ∈ gsA, ∀ q ∈ gL g, q.1 ≠ 58 by decide) g hg q hq
    rw [h.2 _ this]
  · have := (show ∀ g ∈ gsA, ∀ c ∈ gM g, c ≠ 58 by decide) g hg c hc
    rw [h.2 _ this]
theorem p_St_spread {A : Nat → Nat} {σ : AM} (H : LC A σ) {c : Nat} (hc : c < 68) (hk : aK σ (A c) = 101) (hn : aN σ (A c) = 64) (p : Nat → Bool) (m : VM) : ∃ m' : VM, M_St_spread (mkB 64 p) (A c) (ov 68 A m σ) = some (iI ((flt p 64).length : Int), (ov 68 A (m') σ)) ∧ OnS c m m' ∧ Row (m'.1 c) (flt p 64) := by
  have ho := okO_of hk
  have l1 : ∃ m' : VM, L_St_spread_1 (mkB 64 p) (A c) (iI ((flt p 0).length : Int)) (iI ((0 : Nat) : Int)) (ov 68 A m σ) = some (iI ((flt p 64).length : Int), (ov 68 A (m') σ)) ∧ OnS c m m' ∧ Row (m'.1 c) (flt p 64) := by
    refine up_loopI (fun k mm => L_St_spread_1 (mkB 64 p) (A c) (iI ((flt p k).length : Int)) (iI (k : Int)) (ov 68 A mm σ)) (fun k mm => OnS c m mm ∧ Row (mm.1 c) (flt p k)) (fun X => ∃ m' : VM, X = some (iI ((flt p 64).length : Int), (ov 68 A (m') σ)) ∧ OnS c m m' ∧ Row (m'.1 c) (flt p 64)) 64 (fun k mm hk1 ⟨i1, i2⟩ ih => ?_) (fun mm ⟨i1, i2⟩ => ?_) 0 m (Nat.zero_le _) ⟨OnS_r _ _, Row_nil _⟩
    · have hle := flt_le p k
      have hh := q_St_has (mkB 64 p) hk1 (ov 68 A mm σ)
      rw [bt_mk hk1] at hh
      show ∃ m' : VM, L_St_spread_1 _ _ _ _ _ = _ ∧ _
      cases q : p k
      · rw [q] at hh
        have ih := ih mm ⟨i1, by rw [flt_s, q, if_neg (by decide)]; exact i2⟩
        rw [flt_s, q, if_neg (by decide)] at ih
        rw [E_St_spread_1]
        simp (disch := omega) only [E_St_spread_2, okO_ov, ho, aN_ov, hn, gd_true, nI_iI, bnd_some, hh, bZ_0, l_0, l_1, l_64, iI_lt, iI_add, iI_s, ↓reduceIte]
        rw [if_pos (by omega), if_pos (by omega)]
        exact ih
      · rw [q] at hh
        have ih := ih (sV mm c (flt p k).length (iI (k : Int))) ⟨⟨fun a ha => by rw [sV_ne _ _ _ _ ha]; exact i1.1 a ha, i1.2⟩, by rw [flt_s, q, if_pos rfl]; exact Row_app i2 (fun i => sV_eq _ _ _ _ _)⟩
        rw [flt_s, q, if_pos rfl, List.length_append, List.length_singleton] at ih
        rw [E_St_spread_1]
        simp (disch := omega) only [E_St_spread_2, okO_ov, ho, aN_ov, hn, gd_true, gd_in, iI_cl, Int.toNat_natCast, sI_ov H.1, letT_eq, nI_iI, bnd_some, hh, bZ_0, l_0, l_1, l_64, iI_lt, iI_add, iI_s, reduceCtorEq, ↓reduceIte]
        rw [if_pos (by omega), if_pos (by omega)]
        exact ih
    · refine ⟨mm, ?_, i1, i2⟩
      show L_St_spread_1 _ _ _ _ _ = _
      rw [E_St_spread_1]
      simp (disch := omega) only [E_St_spread_3, l_64, iI_lt]
      rw [if_neg (by omega)]
  obtain ⟨m', e, r⟩ := l1
  refine ⟨m', ?_, r⟩
  unfold M_St_spread
  rw [E_St_spread_0]
  exact (congrArg (mw _) e).trans (mw_ov _ _ _ _ _ _)
/-- the rows of sets that are looked at -/
def ftE (yes no : Int64) (m : VM) : Prop := m.1 54 5 = iI ((flt (lsB yes) 64).length : Int) ∧ m.1 54 6 = iI ((flt (gtB no) 64).length : Int) ∧ Row (m.1 56) (flt (lsB yes) 64) ∧ Row (m.1 57) (flt (gtB no) 64)
theorem q_Ft_leastBar {A : Nat → Nat} {σ : AM} (H : LC A σ) {d : TD} (hd : wfD d) {m : VM} {yes no : Int64} (hy : low d yes) (hno : low d no) (hF : ftE yes no m) {w : Nat} (hr : rowE d w 55 m) : M_Ft_leastBarOfRow (A 54) (ov 68 A m σ) = some (iI (if gdW d yes no w = true then ((bl d no w + 1 : Nat) : Int) else -1), (ov 68 A m σ)) := by
  have hk : aK σ (A 55) = 101 := H.2.2.1 (55, 101) (by decide)
  have hn : aN σ (A 55) = 6 := H.2.2.2.1 (55, 6) (by decide)
  have hlg := flt_le (gtB no) 64
  have hll := flt_le (lsB yes) 64
  have hN := sN_le hd
  obtain ⟨f5, f6, f56, f57⟩ := hF
  have hb := blN_le hd no w (sN d)
  -- behind the heaviest
  have l2 : L_Ft_leastBarOfRow_2 (A 54) (iI (bl d no w : Int)) (iI ((0 : Nat) : Int)) (ov 68 A m σ) = some (iI (if gdW d yes no w = true then ((bl d no w + 1 : Nat) : Int) else -1), (ov 68 A m σ)) := by
    refine up_loopI (fun k (_ : Unit) => L_Ft_leastBarOfRow_2 (A 54) (iI (bl d no w : Int)) (iI (k : Int)) (ov 68 A m σ)) (fun k _ => ∀ j, j < k → bl d no w < wtS (dg d w) ((flt (lsB yes) 64).getD j 0)) (fun X => X = some (iI (if gdW d yes no w = true then ((bl d no w + 1 : Nat) : Int) else -1), (ov 68 A m σ))) (flt (lsB yes) 64).length (fun k _ hk1 hI ih => ?_) (fun _ hI => ?_) 0 () (Nat.zero_le _) (fun j hj => absurd hj (Nat.not_lt_zero j))
    · obtain ⟨p1, p2⟩ := flt_in hk1
      have hs := low_lt hy (lsB_b p1)
      have e56 := f56 k hk1
      have hsum := q_sumRow H hd (by decide) hk hn hr hs
      have hwt := wts_le hd w ((flt (lsB yes) 64).getD k 0)
      have hbl : bl d no w ≤ 60 := hb
      show L_Ft_leastBarOfRow_2 _ _ _ _ = _
      rw [E_Ft_leastBarOfRow_2]
      simp (disch := omega) only [cK_54 H, cR_54_3 H, cR_54_2 H, cK_56 H, cN_56 H, cK_55 H, okO_ov, aR_ov, aN_ov, gd_true, gd_in, iI_cl, Int.toNat_natCast, aI_ov H.1, f5, e56, hsum, bnd_some, l_1, iI_neg, iI_lt, iI_add, iI_s]
      rw [if_pos (by omega)]
      by_cases c : bl d no w < wtS (dg d w) ((flt (lsB yes) 64).getD k 0)
      · rw [if_pos (by omega)]
        refine ih () (fun j hj => ?_)
        by_cases e : j = k
        · rw [e]; exact c
        · exact hI j (by omega)
      · rw [if_neg (by omega), if_neg]
        intro z
        exact c ((gdW_iff hd yes no w).mp z _ hs (lsB_b p1))
    · have hbl : bl d no w ≤ 60 := hb
      show L_Ft_leastBarOfRow_2 _ _ _ _ = _
      rw [E_Ft_leastBarOfRow_2]
      simp (disch := omega) only [cK_54 H, okO_ov, gd_true, aI_ov H.1, f5, l_1, iI_lt, iI_add, iI_s]
      rw [if_neg (by omega), if_pos]
      rw [gdW_iff hd]
      intro s hs hbs
      obtain ⟨g, g1, g2, g3⟩ := ls_ex (by omega) hbs
      obtain ⟨i, hi, hi2⟩ := flt_has g1 g2
      have := hI i hi
      rw [hi2] at this
      have := wtS_mono (f := dg d w) g3
      omega
  have l1 : L_Ft_leastBarOfRow_1 (A 54) (iI ((0 : Nat) : Int)) (iI ((0 : Nat) : Int)) (ov 68 A m σ) = some (iI (if gdW d yes no w = true then ((bl d no w + 1 : Nat) : Int) else -1), (ov 68 A m σ)) := by
    refine up_loopI (fun k (h : Nat) => L_Ft_leastBarOfRow_1 (A 54) (iI (h : Int)) (iI (k : Int)) (ov 68 A m σ)) (fun k h => h ≤ bl d no w ∧ ∀ j, j < k → wtS (dg d w) ((flt (gtB no) 64).getD j 0) ≤ h) (fun X => X = some (iI (if gdW d yes no w = true then ((bl d no w + 1 : Nat) : Int) else -1), (ov 68 A m σ))) (flt (gtB no) 64).length (fun k h hk1 ⟨i1, i2⟩ ih => ?_) (fun h ⟨i1, i2⟩ => ?_) 0 0 (Nat.zero_le _) ⟨Nat.zero_le _, fun j hj => absurd hj (Nat.not_lt_zero j)⟩
    · obtain ⟨p1, p2⟩ := flt_in hk1
      have hs := low_lt hno (gtB_b p1)
      have e57 := f57 k hk1
      have hsum := q_sumRow H hd (by decide) hk hn hr hs
      have hwt := wts_le hd w ((flt (gtB no) 64).getD k 0)
      have hbl : bl d no w ≤ 60 := hb
      have hge : wtS (dg d w) ((flt (gtB no) 64).getD k 0) ≤ bl d no w := blN_ge hs (gtB_b p1)
      have hmx : mxI (iI (h : Int)) (iI (wtS (dg d w) ((flt (gtB no) 64).getD k 0) : Int)) = iI ((max h (wtS (dg d w) ((flt (gtB no) 64).getD k 0)) : Nat) : Int) := by
        rw [mxI_iI (by omega) (by omega) (by omega) (by omega)]
        congr 1
        split <;> omega
      have ih := ih (max h (wtS (dg d w) ((flt (gtB no) 64).getD k 0))) ⟨by omega, fun j hj => by
        by_cases e : j = k
        · rw [e]; omega
        · have := i2 j (by omega); omega⟩
      show L_Ft_leastBarOfRow_1 _ _ _ _ = _
      rw [E_Ft_leastBarOfRow_1]
      simp (disch := omega) only [cK_54 H, cR_54_4 H, cR_54_2 H, cK_57 H, cN_57 H, cK_55 H, okO_ov, aR_ov, aN_ov, gd_true, gd_in, iI_cl, Int.toNat_natCast, aI_ov H.1, f6, e57, hsum, bnd_some, letT_eq, hmx, l_1, iI_lt, iI_add, iI_s]
      rw [if_pos (by omega)]
      exact ih
    · have e : h = bl d no w := by
        rcases blN_at d no w (sN d) with z | ⟨s, hs, hbs, z⟩
        · have : bl d no w = 0 := z
          omega
        · obtain ⟨g, g1, g2, g3⟩ := gt_ex (by omega) hbs
          obtain ⟨i, hi, hi2⟩ := flt_has g1 g2
          have h1 := i2 i hi
          rw [hi2] at h1
          have h2 := wtS_mono (f := dg d w) g3
          have h3 : bl d no w = wtS (dg d w) s := z
          omega
      show L_Ft_leastBarOfRow_1 _ _ _ _ = _
      rw [E_Ft_leastBarOfRow_1]
      simp (disch := omega) only [cK_54 H, okO_ov, gd_true, aI_ov H.1, f6, l_0, iI_lt]
      rw [if_neg (by omega), e]
      exact l2
  unfold M_Ft_leastBarOfRow
  rw [E_Ft_leastBarOfRow_0]
  exact (congrArg (mw _) l1).trans (mw_ov _ _ _ _ _ _)
def smE (o : SR) (m : VM) : Prop := (o = none → m.1 54 7 = iI 0) ∧ ∀ x, o = some x → m.1 54 7 = iI 1 ∧ m.1 54 8 = iI (x.1 : Int) ∧ m.1 54 9 = iI (x.2.1 : Int) ∧ m.1 54 10 = iI (x.2.2 : Int)
/-- only what was found changes -/
def OnT (m m' : VM) : Prop := (∀ c, c ≠ 54 → m'.1 c = m.1 c) ∧ m'.2 = m.2 ∧ ∀ j, (j < 7 ∨ 10 < j) → m'.1 54 j = m.1 54 j
theorem p_Ft_tryRow {A : Nat → Nat} {σ : AM} (H : LC A σ) {d : TD} (hd : wfD d) {m : VM} {yes no : Int64} (hy : low d yes) (hno : low d no) (hF : ftE yes no m) {w : Nat} (hw : w < 16384) (hr : rowE d w 55 m) {o : SR} (hE : smE o m) (hW : smW o) (hle : ∀ y, o = some y → suW d w ≤ y.1) : ∃ m' : VM, M_Ft_tryRow (A 54) (iI (w : Int)) (iI (suW d w : Int)) (ov 68 A m σ) = some ((), (ov 68 A (m') σ)) ∧ OnT m m' ∧ smE (if gdW d yes no w = true then smT o (suW d w, bl d no w + 1, w) else o) m' := by
  have hlb := q_Ft_leastBar H hd hy hno hF hr
  have hb : bl d no w ≤ 60 := blN_le hd no w (sN d)
  have hs : suW d w ≤ 60 := wts_le hd w _
  unfold M_Ft_tryRow
  by_cases c : gdW d yes no w = true
  · rw [if_pos c] at hlb ⊢
    have wr : L_Ft_tryRow_1 (A 54) (iI (w : Int)) (iI (suW d w : Int)) (iI ((bl d no w + 1 : Nat) : Int)) (ov 68 A m σ) = some ((), (ov 68 A (sV (sV (sV (sV m 54 7 (iI 1)) 54 8 (iI (suW d w : Int))) 54 9 (iI ((bl d no w + 1 : Nat) : Int))) 54 10 (iI (w : Int))) σ)) := by
      rw [E_Ft_tryRow_1]
      simp (disch := omega) only [E_Ft_tryRow_2, cK_54 H, okO_ov, gd_true, sI_ov H.1, letT_eq, l_1]
    have wrE : smE (some (suW d w, bl d no w + 1, w)) (sV (sV (sV (sV m 54 7 (iI 1)) 54 8 (iI (suW d w : Int))) 54 9 (iI ((bl d no w + 1 : Nat) : Int))) 54 10 (iI (w : Int))) := ⟨fun z => (by cases z), fun x hx => by cases hx; exact ⟨by simp (disch := decide) only [sV_eq, sW_eq, sV_ne, sW_ne, sV_2, sW_1, Nat.reduceEqDiff, ↓reduceIte], by simp (disch := decide) only [sV_eq, sW_eq, sV_ne, sW_ne, sV_2, sW_1, Nat.reduceEqDiff, ↓reduceIte], by simp (disch := decide) only [sV_eq, sW_eq, sV_ne, sW_ne, sV_2, sW_1, Nat.reduceEqDiff, ↓reduceIte], by simp (disch := decide) only [sV_eq, sW_eq, sV_ne, sW_ne, sV_2, sW_1, Nat.reduceEqDiff, ↓reduceIte]⟩⟩
    have wrT : OnT m (sV (sV (sV (sV m 54 7 (iI 1)) 54 8 (iI (suW d w : Int))) 54 9 (iI ((bl d no w + 1 : Nat) : Int))) 54 10 (iI (w : Int))) := ⟨fun x hx => by rw [sV_ne _ _ _ _ hx, sV_ne _ _ _ _ hx, sV_ne _ _ _ _ hx, sV_ne _ _ _ _ hx], rfl, fun j hj => by rw [sV_eq, if_neg (by omega), sV_eq, if_neg (by omega), sV_eq, if_neg (by omega), sV_eq, if_neg (by omega)]⟩
    cases o with
    | none =>
      have e7 := hE.1 rfl
      refine ⟨_, ?_, wrT, wrE⟩
      rw [E_Ft_tryRow_0]
      simp (disch := omega) only [cK_54 H, okO_ov, gd_true, bnd_some, hlb, l_0, l_1, iI_neg, iI_eq, aI_ov H.1, e7, ↓reduceIte, wr]
      rw [if_neg (by omega), mw_ov]
    | some y =>
      obtain ⟨e7, e8, e9, e10⟩ := hE.2 y rfl
      obtain ⟨w1, w2, w3⟩ := hW y rfl
      have hl := hle y rfl
      by_cases c2 : suW d w < y.1 ∨ (suW d w = y.1 ∧ bl d no w + 1 < y.2.1)
      · refine ⟨_, ?_, wrT, by show smE (if suW d w < y.1 ∨ (suW d w = y.1 ∧ bl d no w + 1 < y.2.1) then some (suW d w, bl d no w + 1, w) else some y) _; rw [if_pos c2]; exact wrE⟩
        rw [E_Ft_tryRow_0]
        simp (disch := omega) only [cK_54 H, okO_ov, gd_true, bnd_some, hlb, l_0, l_1, iI_neg, iI_eq, iI_lt, aI_ov H.1, e7, e8, e9, Int.reduceEq, ↓reduceIte, wr]
        rw [if_neg (by omega)]
        by_cases c3 : suW d w < y.1
        · rw [if_pos (by omega), mw_ov]
        · rw [if_neg (by omega), if_pos (by omega), mw_ov]
      · refine ⟨m, ?_, ⟨fun _ _ => rfl, rfl, fun _ _ => rfl⟩, by show smE (if suW d w < y.1 ∨ (suW d w = y.1 ∧ bl d no w + 1 < y.2.1) then some (suW d w, bl d no w + 1, w) else some y) _; rw [if_neg c2]; exact hE⟩
        rw [E_Ft_tryRow_0]
        simp (disch := omega) only [E_Ft_tryRow_2, cK_54 H, okO_ov, gd_true, bnd_some, hlb, l_0, l_1, iI_neg, iI_eq, iI_lt, aI_ov H.1, e7, e8, e9, Int.reduceEq, ↓reduceIte]
        rw [if_neg (by omega), if_neg (by omega), if_neg (by omega), mw_ov]
  · rw [if_neg c] at hlb ⊢
    refine ⟨m, ?_, ⟨fun _ _ => rfl, rfl, fun _ _ => rfl⟩, hE⟩
    rw [E_Ft_tryRow_0]
    simp (disch := omega) only [cK_54 H, okO_ov, gd_true, bnd_some, hlb, l_1, iI_neg, ↓reduceIte, mw_ov]
def skE (d : TD) (yes no : Int64) (m0 : VM) (w : Nat) (m : VM) : Prop := OnF m0 m ∧ ftE yes no m ∧ (w < dW d → rowE d w 55 m) ∧ smE (smF d yes no w) m
theorem dg_0 (d : TD) (t : Nat) : dg d 0 t = 0 := by unfold dg; split <;> simp
theorem p_Ft_seek {A : Nat → Nat} {σ : AM} (H : LC A σ) {d : TD} (hd : wfD d) {m : VM} (hT : CTw d m) {yes no : Int64} (hy : low d yes) (hno : low d no) : ∃ m' : VM, M_Ft_seek (A 54) yes no (ov 68 A m σ) = some ((), (ov 68 A (m') σ)) ∧ OnF m m' ∧ smE (smF d yes no (dW d)) m' := by
  have hW := hd.2.2.2.2.2.2
  have hpos := dW_pos d
  have hlg := flt_le (gtB no) 64
  have hll := flt_le (lsB yes) 64
  obtain ⟨m1, e1, k1, r1⟩ := p_St_spread H (c := 56) (by decide) (H.2.2.1 (56, 101) (by decide)) (H.2.2.2.1 (56, 64) (by decide)) (lsB yes) m
  obtain ⟨m2, e2, k2, r2⟩ := p_St_spread H (c := 57) (by decide) (H.2.2.1 (57, 101) (by decide)) (H.2.2.2.1 (57, 64) (by decide)) (gtB no) (sV m1 54 5 (iI ((flt (lsB yes) 64).length : Int)))
  have hfl := q_fill2 H.1 (sV (sV m2 54 6 (iI ((flt (gtB no) 64).length : Int))) 54 7 (iI 0)) (c := 55) (by decide) (H.2.2.1 (55, 101) (by decide)) (by rw [H.2.2.2.1 (55, 6) (by decide)]; decide) (iI 0)
  rw [H.2.2.2.1 (55, 6) (by decide)] at hfl
  have O3 : OnF m (fillV (sV (sV m2 54 6 (iI ((flt (gtB no) 64).length : Int))) 54 7 (iI 0)) 55 6 (iI 0)) := by
    have o1 : OnF m (sV (sV m2 54 6 (iI ((flt (gtB no) 64).length : Int))) 54 7 (iI 0)) := OnF_V (OnF_V (OnF_t (OnF_V (OnF_S k1 (by decide) (by decide)) 5 (iI ((flt (lsB yes) 64).length : Int)) (c := 54) (by decide) (by decide)) (OnF_S k2 (by decide) (by decide))) _ _ (by decide) (by decide)) _ _ (by decide) (by decide)
    exact ⟨fun c hc => by rw [fillV_ne _ _ _ _ (by omega)]; exact o1.1 c hc, o1.2⟩
  have hT3 := CTw_K (OnF_Ks O3 0 (by decide)) hT
  have hall := q_Tw_all H hd hT3
  have F3 : ftE yes no (fillV (sV (sV m2 54 6 (iI ((flt (gtB no) 64).length : Int))) 54 7 (iI 0)) 55 6 (iI 0)) := ⟨by rw [fillV_ne _ _ _ _ (by decide)]; simp (disch := decide) only [sV_eq, sW_eq, sV_ne, sW_ne, sV_2, sW_1, Nat.reduceEqDiff, ↓reduceIte]; rw [k2.1 54 (by decide)]; simp (disch := decide) only [sV_eq, sW_eq, sV_ne, sW_ne, sV_2, sW_1, Nat.reduceEqDiff, ↓reduceIte], by rw [fillV_ne _ _ _ _ (by decide)]; simp (disch := decide) only [sV_eq, sW_eq, sV_ne, sW_ne, sV_2, sW_1, Nat.reduceEqDiff, ↓reduceIte], by rw [fillV_ne _ _ _ _ (by decide), sV_ne _ _ _ _ (by decide), sV_ne _ _ _ _ (by decide), k2.1 56 (by decide), sV_ne _ _ _ _ (by decide)]; exact r1, by rw [fillV_ne _ _ _ _ (by decide), sV_ne _ _ _ _ (by decide), sV_ne _ _ _ _ (by decide)]; exact r2⟩
  have lp : ∃ m' : VM, L_Ft_seek_1 (A 54) (iI ((suW d 0 : Nat) : Int)) (iI (dW d : Int)) (iI ((0 : Nat) : Int)) (ov 68 A (fillV (sV (sV m2 54 6 (iI ((flt (gtB no) 64).length : Int))) 54 7 (iI 0)) 55 6 (iI 0)) σ) = some ((), (ov 68 A (m') σ)) ∧ OnF m m' ∧ smE (smF d yes no (dW d)) m' := by
    have key : ∀ n w x mm, w + n = dW d → skE d yes no m w mm → (w < dW d → x = iI (suW d w : Int)) → ∃ m' : VM, L_Ft_seek_1 (A 54) x (iI (dW d : Int)) (iI (w : Int)) (ov 68 A mm σ) = some ((), (ov 68 A (m') σ)) ∧ OnF m m' ∧ smE (smF d yes no (dW d)) m' := by
      intro n
      induction n with
      | zero =>
        intro w x mm hw ⟨i1, i2, i3, i4⟩ _
        obtain rfl : w = dW d := hw
        refine ⟨mm, ?_, i1, i4⟩
        rw [E_Ft_seek_1]
        simp (disch := omega) only [iI_lt]
        rw [if_neg (by omega)]
      | succ n ih =>
        intro w x mm hwn ⟨i1, i2, i3, i4⟩ hx
        have hw : w < dW d := by omega
        have hx := hx hw
        subst hx
        have i3 := i3 hw
        have hs : suW d w ≤ 60 := wts_le hd w _
        have hTm := CTw_K (OnF_Ks i1 0 (by decide)) hT
        have hsW := smF_W hd yes no (show w ≤ dW d by omega)
        -- the step to the next row
        have stp : ∀ m5, OnF m m5 → ftE yes no m5 → rowE d w 55 m5 → smE (smF d yes no (w + 1)) m5 → ∃ m' : VM, L_Ft_seek_3 (A 54) (iI (suW d w : Int)) (iI (dW d : Int)) (iI (w : Int)) (ov 68 A m5 σ) = some ((), (ov 68 A (m') σ)) ∧ OnF m m' ∧ smE (smF d yes no (dW d)) m' := by
          intro m5 j1 j2 j3 j4
          have hT5 := CTw_K (OnF_Ks j1 0 (by decide)) hT
          obtain ⟨m6, r, e6, k6, q6⟩ := p_Tw_step H hd (c := 55) (by decide) (H.2.2.1 (55, 101) (by decide)) (H.2.2.2.1 (55, 6) (by decide)) (by decide) hT5.1.1 hT5.1.2.1 j3
          obtain ⟨m', e, q⟩ := ih (w + 1) (iI ((suW d w : Int) + r)) m6 (by omega) ⟨OnF_t j1 (OnF_S k6 (by decide) (by decide)), ⟨by rw [k6.1 54 (by decide)]; exact j2.1, by rw [k6.1 54 (by decide)]; exact j2.2.1, by rw [k6.1 56 (by decide)]; exact j2.2.2.1, by rw [k6.1 57 (by decide)]; exact j2.2.2.2⟩, fun h => (q6 h).1, ⟨fun z => by rw [k6.1 54 (by decide)]; exact j4.1 z, fun z hz => by rw [k6.1 54 (by decide)]; exact j4.2 z hz⟩⟩ (fun h => by
            rw [(q6 h).2, suW_sum d hd, suW_sum d hd]; congr 1; omega)
          refine ⟨m', ?_, q⟩
          rw [E_Ft_seek_3]
          simp (disch := omega) only [cK_54 H, cR_54_0 H, cR_54_2 H, cK_10 H, cK_55 H, okO_ov, aR_ov, gd_true, bnd_some, e6, letT_eq, l_1, iI_add, iI_s]
          exact e
        have unch : ∀ m5, OnT mm m5 → OnF m m5 ∧ ftE yes no m5 ∧ rowE d w 55 m5 := fun m5 t => ⟨OnF_t i1 ⟨fun c hc => t.1 c (by omega), fun c _ => by rw [t.2.1]⟩, ⟨by rw [t.2.2 5 (by omega)]; exact i2.1, by rw [t.2.2 6 (by omega)]; exact i2.2.1, by rw [t.1 56 (by decide)]; exact i2.2.2.1, by rw [t.1 57 (by decide)]; exact i2.2.2.2⟩, fun t' ht => by rw [t.1 55 (by decide)]; exact i3 t' ht⟩
        have try2 : (∀ y, smF d yes no w = some y → suW d w ≤ y.1) → ∃ m' : VM, L_Ft_seek_2 (A 54) (iI (suW d w : Int)) (iI (dW d : Int)) (iI (w : Int)) (ov 68 A mm σ) = some ((), (ov 68 A (m') σ)) ∧ OnF m m' ∧ smE (smF d yes no (dW d)) m' := by
          intro hle
          obtain ⟨m5, e5, t5, s5⟩ := p_Ft_tryRow H hd hy hno i2 (show w < 16384 by omega) i3 i4 hsW hle
          obtain ⟨u1, u2, u3⟩ := unch m5 t5
          obtain ⟨m', e, q⟩ := stp m5 u1 u2 u3 s5
          refine ⟨m', ?_, q⟩
          rw [E_Ft_seek_2]
          simp (disch := omega) only [cK_54 H, okO_ov, gd_true, bnd_some, e5]
          exact e
        cases ho : smF d yes no w with
        | none =>
          have e7 := i4.1 ho
          obtain ⟨m', e, q⟩ := try2 (fun y hy => by rw [ho] at hy; cases hy)
          refine ⟨m', ?_, q⟩
          rw [E_Ft_seek_1]
          simp (disch := omega) only [cK_54 H, okO_ov, gd_true, aI_ov H.1, e7, l_0, iI_lt, ↓reduceIte]
          rw [if_pos (by omega)]
          exact e
        | some y =>
          obtain ⟨e7, e8, e9, e10⟩ := i4.2 y ho
          obtain ⟨w1, w2, w3⟩ := hsW y ho
          by_cases c : y.1 < suW d w
          · have hsm : smF d yes no (w + 1) = smF d yes no w := by
              show (if gdW d yes no w = true then smT (smF d yes no w) (suW d w, bl d no w + 1, w) else smF d yes no w) = _
              rw [ho]
              split
              · show (if suW d w < y.1 ∨ (suW d w = y.1 ∧ bl d no w + 1 < y.2.1) then _ else some y) = some y
                rw [if_neg (by omega)]
              · rfl
            obtain ⟨u1, u2, u3⟩ := unch mm ⟨fun _ _ => rfl, rfl, fun _ _ => rfl⟩
            obtain ⟨m', e, q⟩ := stp mm u1 u2 u3 (by rw [hsm]; exact i4)
            refine ⟨m', ?_, q⟩
            rw [E_Ft_seek_1]
            simp (disch := omega) only [cK_54 H, okO_ov, gd_true, aI_ov H.1, e7, e8, l_0, iI_lt, iI_eq, Int.reduceEq, ↓reduceIte]
            rw [if_pos (by omega), if_pos (by omega)]
            exact e
          · obtain ⟨m', e, q⟩ := try2 (fun z hz => by rw [ho] at hz; cases hz; omega)
            refine ⟨m', ?_, q⟩
            rw [E_Ft_seek_1]
            simp (disch := omega) only [cK_54 H, okO_ov, gd_true, aI_ov H.1, e7, e8, l_0, iI_lt, iI_eq, Int.reduceEq, ↓reduceIte]
            rw [if_pos (by omega), if_neg (by omega)]
            exact e
    refine key (dW d) 0 _ _ (by omega) ⟨O3, F3, fun _ t ht => ?_, ⟨fun _ => by rw [fillV_ne _ _ _ _ (by decide)]; simp (disch := decide) only [sV_eq, sW_eq, sV_ne, sW_ne, sV_2, sW_1, Nat.reduceEqDiff, ↓reduceIte], fun x hx => (by cases hx)⟩⟩ (fun _ => rfl)
    rw [fillV_at, if_pos (by have := hd.1; omega), dg_0]; rfl
  obtain ⟨m', e, q⟩ := lp
  have e0 : suW d 0 = 0 := by
    rw [suW_sum d hd]
    exact (sumN_congr (g := fun _ => 0) fun t _ => dg_0 d t).trans (by decide)
  rw [e0] at e
  replace e : L_Ft_seek_1 (A 54) (iI 0) (iI (dW d : Int)) (iI 0) _ = _ := e
  refine ⟨m', ?_, q⟩
  unfold M_Ft_seek
  rw [E_Ft_seek_0]
  simp (disch := omega) only [q_St_leastOf, q_St_greatestOf, bnd_some, cK_54 H, cR_54_3 H, cR_54_4 H, cR_54_2 H, cR_54_0 H, cK_56 H, cK_57 H, cK_55 H, cK_10 H, okO_ov, aR_ov, gd_true, e1, e2, sI_ov H.1, letT_eq, l_0, hfl, hall, e, mw_ov]
theorem q_Ft_answer {A : Nat → Nat} {σ : AM} (H : LC A σ) {m : VM} {o : SR} (hE : smE o m) {c : Int} (h1 : 0 ≤ c) (h2 : c ≤ 2) : M_Ft_answer (A 54) (iI c) (ov 68 A m σ) = some (iI (smA o c), (ov 68 A m σ)) := by
  unfold M_Ft_answer
  cases o with
  | none =>
    have e7 := hE.1 rfl
    rw [E_Ft_answer_0]
    simp (disch := omega) only [cK_54 H, okO_ov, gd_true, aI_ov H.1, e7, l_0, l_1, iI_neg, ↓reduceIte, mw_ov]
    rfl
  | some y =>
    obtain ⟨e7, e8, e9, e10⟩ := hE.2 y rfl
    rw [E_Ft_answer_0]
    simp (disch := omega) only [cK_54 H, okO_ov, gd_true, aI_ov H.1, e7, e8, e9, e10, l_0, l_1, iI_eq, Int.reduceEq, ↓reduceIte]
    unfold smA
    dsimp only
    by_cases z : c = 0
    · rw [if_pos z, if_pos z, mw_ov]
    · rw [if_neg z, if_neg z]
      by_cases z2 : c = 1
      · rw [if_pos z2, if_pos z2, mw_ov]
      · rw [if_neg z2, if_neg z2, mw_ov]
theorem c_smallest {d : TD} {b : BD} {g z u : Nat} {A : Nat → Nat} {σ : AM} {m : VM} (C : CS0 d b g z u A σ m) {c : Int} (h1 : -2147483648 ≤ c) (h2 : c < 2147483648) : ∃ m' : VM, M_Bp_smallest (A 0) (iI c) (ov 68 A m σ) = some (iI (smallS d b c), (ov 68 A (m') σ)) ∧ OnF m m' := by
  obtain ⟨H, hd, hD, _, hT, hb, hB, _⟩ := C
  unfold M_Bp_smallest smallS
  by_cases q : 0 ≤ c ∧ c ≤ 2
  · rw [if_pos q]
    have t1 : M_Bk_setsTold (A 27) (iI 1) (iI 0) (ov 68 A m σ) = some (must b, (ov 68 A m σ)) := q_Bk_setsTold H hb hB true (lag := 0) (by omega)
    have t2 : M_Bk_setsTold (A 27) (iI 0) (iI 0) (ov 68 A m σ) = some (mustN b, (ov 68 A m σ)) := q_Bk_setsTold H hb hB false (lag := 0) (by omega)
    obtain ⟨m', e, k, s⟩ := p_Ft_seek H hd hT (tol_low hb true _ (Nat.le_refl _)) (tol_low hb false _ (Nat.le_refl _))
    have ha := q_Ft_answer H s q.1 q.2
    refine ⟨m', ?_, k⟩
    replace e : M_Ft_seek (A 54) (must b) (mustN b) _ = _ := e
    replace ha : M_Ft_answer _ _ _ = some (iI (smA (smF d (must b) (mustN b) (dW d)) c), _) := ha
    rw [E_Bp_smallest_0]
    simp (disch := omega) only [cK_0 H, cR_0_7 H, cR_0_3 H, cK_54 H, cK_27 H, okO_ov, aR_ov, gd_true, bnd_some, l_0, l_1, l_2, iI_lt, t1, t2, e, ha]
    rw [if_neg (by omega), if_neg (by omega), mw_ov]
  · rw [if_neg q]
    refine ⟨m, ?_, OnF_r m⟩
    rw [E_Bp_smallest_0]
    simp (disch := omega) only [E_Bp_smallest_1, l_0, l_1, l_2, iI_neg, iI_lt]
    by_cases z : c < 0
    · rw [if_pos z, mw_ov]
    · rw [if_neg z, if_pos (by omega), mw_ov]
theorem q_Tw_allSets {A : Nat → Nat} {σ : AM} (H : LC A σ) {m : VM} {d : TD} (hd : wfD d) (hm : CTw d m) : M_Tw_allSets (A 10) (ov 68 A m σ) = some (mkB (sN d) (fun _ => true), (ov 68 A m σ)) := by
  have hs := q_Tw_sets H hd hm
  have hT := hd.1
  unfold M_Tw_allSets
  by_cases c : dT d < 6
  · have e : (1 : Int64) <<< ((iI (sN d : Int)).toInt64 &&& 63) - 1 = mkB (sN d) (fun _ => true) := by
      have : ∀ T : Fin 6, (1 : Int64) <<< ((iI ((2 ^ T.val : Nat) : Int)).toInt64 &&& 63) - 1 = mkB (2 ^ T.val) (fun _ => true) := by decide +kernel
      exact this ⟨dT d, c⟩
    rw [E_Tw_allSets_0]
    simp (disch := omega) only [E_Tw_allSets_1, cK_10 H, okO_ov, gd_true, aI_ov H.1, hm.1.1, l_6, iI_lt, bnd_some, hs, e]
    rw [if_pos (by omega), mw_ov]
  · have e : sN d = 64 := by unfold sN; rw [show dT d = 6 by omega]
    have e2 : (-1 : Int64) = mkB 64 (fun _ => true) := by decide +kernel
    rw [E_Tw_allSets_0]
    simp (disch := omega) only [E_Tw_allSets_1, cK_10 H, okO_ov, gd_true, aI_ov H.1, hm.1.1, l_6, iI_lt]
    rw [if_neg (by omega), mw_ov, e, e2]
theorem c_same {d : TD} {b : BD} {g z u : Nat} {A : Nat → Nat} {σ : AM} {m : VM} (C : CS0 d b g z u A σ m) {a c : Int} (h1 : -2147483648 ≤ a) (h2 : a < 2147483648) (h3 : -2147483648 ≤ c) (h4 : c < 2147483648) : ∃ m' : VM, M_Bp_same (A 0) (iI a) (iI c) (ov 68 A m σ) = some (iI (sameS d a c), (ov 68 A (m') σ)) ∧ Ks gsA m m' := by
  obtain ⟨H, hd, hD, _, hT, hb, hB, _⟩ := C
  have hw := q_Tw_hasWeights H hd hT h1 h2
  unfold M_Bp_same sameS
  by_cases q : (0 ≤ a ∧ a < (dW d : Int)) ∧ (0 ≤ c ∧ c ≤ 2)
  · rw [if_pos q]
    rw [decide_eq_true q.1] at hw
    obtain ⟨n, rfl⟩ := Int.eq_ofNat_of_zero_le q.1.1
    obtain ⟨m1, e1, k1⟩ := p_Ls_listOf H hd hD hT (w := n) (by omega)
    have hT1 := CTw_K (OnW_Ks k1 0 (by decide)) hT
    have ha := q_Tw_allSets H hd hT1
    have en : mkB (sN d) (fun _ => true) &&& (lst d n ^^^ (-1)) = nnL d n := by
      apply bt_ext
      intro s hs
      unfold nnL
      rw [bt_and, bt_not _ hs, bt_mkB (sN_le hd), bt_mkB (sN_le hd)]
      by_cases c : s < sN d
      · rw [decide_eq_true c]; rfl
      · rw [decide_eq_false c]; rfl
    obtain ⟨m2, e2, k2, s2⟩ := p_Ft_seek H hd hT1 (lst_low hd n) (nnL_low hd n)
    have hans := q_Ft_answer H s2 q.2.1 q.2.2
    refine ⟨m2, ?_, Ks_t (Ks_sub (OnW_Ks k1) (by decide)) (OnF_Ks k2)⟩
    rw [E_Bp_same_0]
    simp (disch := omega) only [cK_0 H, cR_0_1 H, cR_0_2 H, cR_0_7 H, cK_10 H, cK_17 H, cK_54 H, okO_ov, aR_ov, gd_true, bnd_some, hw, bZ_0, l_0, l_2, iI_lt, reduceCtorEq, ↓reduceIte, e1, ha, en, e2, hans, Int.toNat_natCast]
    rw [if_neg (by omega), if_neg (by omega), mw_ov]
  · rw [if_neg q]
    refine ⟨m, ?_, Ks_r _ _⟩
    rw [E_Bp_same_0]
    by_cases q1 : 0 ≤ a ∧ a < (dW d : Int)
    · rw [decide_eq_true q1] at hw
      simp (disch := omega) only [E_Bp_same_1, cK_0 H, cR_0_1 H, cK_10 H, okO_ov, aR_ov, gd_true, bnd_some, hw, bZ_0, l_0, l_1, l_2, iI_neg, iI_lt, reduceCtorEq, ↓reduceIte]
      by_cases z : c < 0
      · rw [if_pos z, mw_ov]
      · rw [if_neg z, if_pos (by omega), mw_ov]
    · rw [decide_eq_false q1] at hw
      simp (disch := omega) only [E_Bp_same_1, cK_0 H, cR_0_1 H, cK_10 H, okO_ov, aR_ov, gd_true, bnd_some, hw, bZ_0, l_0, l_1, iI_neg, ↓reduceIte, mw_ov]
