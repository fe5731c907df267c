/-! ===== what to lay on next: the class's choice, and the parting of its row ===== -/
/-- only the planes, and how many of them are used, change -/
def OnQ (m m' : VM) : Prop := (∀ x j, ¬ (x = 39 ∧ j = 5) → m'.1 x j = m.1 x j) ∧ ∀ a, a ≠ 40 → m'.2 a = m.2 a
def gsA : List Nat := [0, 1, 2, 3, 4, 5, 10, 11, 12, 13, 14, 15]
theorem OnQ_Ks {m m' : VM} (h : OnQ m m') : Ks gsA m m' := fun g hg => by
  refine ⟨fun q hq => ?_, fun c hc => ?_, fun q hq => ?_, fun c hc => ?_⟩
  · have := (show ∀ g ∈ gsA, ∀ q ∈ gF g, ¬ (q.1 = 39 ∧ q.2 = 5) by decide) g hg q hq
    exact h.1 _ _ this
  · have := (show ∀ g ∈ gsA, ∀ c ∈ gC g, c ≠ 39 by decide) g hg c hc
    funext j
    exact h.1 _ _ (fun z => this z.1)
  · have := (show ∀ g ∈ gsA, ∀ q ∈ gL g, q.1 ≠ 40 by decide) g hg q hq
    rw [h.2 _ this]
  · have := (show ∀ g ∈ gsA, ∀ c ∈ gM g, c ≠ 40 by decide) g hg c hc
    rw [h.2 _ this]
theorem OnQ_c {m m' : VM} (h : OnQ m m') {c : Nat} (hc : c ≠ 39) : m'.1 c = m.1 c := by
  funext j; exact h.1 c j (fun z => hc z.1)
theorem OnP_Q {m m' : VM} (h : OnP m m') : OnQ m m' := ⟨fun _ _ _ => by rw [h.1], h.2⟩
theorem OnS_Ks {m m' : VM} (h : OnS 24 m m') : Ks gsA m m' := fun g hg => by
  refine ⟨fun q hq => ?_, fun c hc => ?_, fun q hq => by rw [h.2], fun c hc => by rw [h.2]⟩
  · have := (show ∀ g ∈ gsA, ∀ q ∈ gF g, q.1 ≠ 24 by decide) g hg q hq
    rw [h.1 _ this]
  · have := (show ∀ g ∈ gsA, ∀ c ∈ gC g, c ≠ 24 by decide) g hg c hc
    exact h.1 _ this
theorem pv_fill (m : VM) (c n s : Nat) : pvN ((fillW m c n 0).2 c) n s = 0 := by
  have : ∀ k, k ≤ n → pvN ((fillW m c n 0).2 c) k s = 0 := by
    intro k
    induction k with
    | zero => intro _; rfl
    | succ k ih =>
      intro hk
      show pvN _ k s + (if bt ((fillW m c n 0).2 c k) s = true then 2 ^ k else 0) = 0
      have e : (fillW m c n 0).2 c k = 0 := by rw [fillW_at, if_pos (by omega)]
      rw [ih (by omega), e, bt_0]; rfl
  exact this n (Nat.le_refl _)
theorem wl_take {d : TD} {l : List Nat} (h : wl d l) (k : Nat) : wl d (l.take k) := ⟨List.Nodup.sublist (List.take_sublist k l) h.1, fun x hx => h.2 x (List.mem_of_mem_take hx)⟩
theorem vW_s {d : TD} (way : Nat) {l : List Nat} {k : Nat} (hk : k < l.length) (s : Nat) : (if way = 1 then cW d (l.take (k + 1)) s else cL d (l.take (k + 1)) s) = (if way = 1 then cW d (l.take k) s else cL d (l.take k) s) + (if way = 1 then sh d (l.getD k 0) else 1) * bN (bt (LL d (l.getD k 0)) s) := by
  rw [cW_s hk, cL_s hk]
  unfold bN
  by_cases c : way = 1
  · rw [if_pos c, if_pos c, if_pos c]
    cases bt (LL d (l.getD k 0)) s <;> simp
  · rw [if_neg c, if_neg c, if_neg c]
    cases bt (LL d (l.getD k 0)) s <;> simp
theorem allW_s {d : TD} (way : Nat) {l : List Nat} {k : Nat} (hk : k < l.length) : allW d way (l.take (k + 1)) = allW d way (l.take k) + if way = 1 then sh d (l.getD k 0) else 1 := by
  unfold allW
  by_cases c : way = 1
  · rw [if_pos c, if_pos c, if_pos c, sumL_s _ hk]
  · rw [if_neg c, if_neg c, if_neg c, List.length_take, List.length_take]; omega
theorem p_Ch_pick {d : TD} {A : Nat → Nat} {σ : AM} (H : LC A σ) (hd : wfD d) (hD : LD d A σ) {m : VM} (hT : CTw d m) {l : List Nat} (hl : wl d l) {c : Nat} (hc : c < 68) (hc39 : c ≠ 39) (hk : aK σ (A c) = 101) {a : Nat} (hn : a + l.length ≤ aN σ (A c)) (hz : aN σ (A c) ≤ 16384) (hs : Seg (m.1 c) a l) {way : Nat} (hw : way ≤ 2) : ∃ m' : VM, M_Ch_pick (A 39) (A c) (iI (a : Int)) (iI ((a + l.length : Nat) : Int)) (iI (way : Int)) (ov 68 A m σ) = some (iI (nx d way l), (ov 68 A (m') σ)) ∧ OnQ m m' := by
  have hW := hd.2.2.2.2.2.2
  have hNL := NL_le d
  have hlen := wl_len hl
  have ho := okO_of hk
  have hfl := q_fill H.1 m (c := 40) (by decide) (H.2.2.1 (40, 102) (by decide)) (by rw [H.2.2.2.1 (40, 15) (by decide)]; decide) (0 : Int64)
  rw [H.2.2.2.1 (40, 15) (by decide)] at hfl
  have hP0 : OnP m (fillW m 40 15 0) := ⟨rfl, fun x hx => fillW_ne m 40 15 0 hx⟩
  have l1 : ∃ m' : VM, L_Ch_pick_1 (A 39) (A c) (iI ((a + l.length : Nat) : Int)) (iI (way : Int)) 0 (-1) (iI 0) (iI (a : Int)) (ov 68 A (fillW m 40 15 0) σ) = some (iI (nx d way l), (ov 68 A (m') σ)) ∧ OnQ m m' := by
    have e0 : iI 0 = iI ((allW d way (l.take 0) : Nat) : Int) := by unfold allW; split <;> rfl
    rw [e0]
    refine up_loopI (fun k m1 => L_Ch_pick_1 (A 39) (A c) (iI ((a + l.length : Nat) : Int)) (iI (way : Int)) (orL d (l.take k)) (andL d (l.take k)) (iI (allW d way (l.take k) : Int)) (iI ((a + k : Nat) : Int)) (ov 68 A m1 σ)) (fun k m1 => OnP m m1 ∧ plE d way (l.take k) m1) (fun X => ∃ m' : VM, X = some (iI (nx d way l), (ov 68 A (m') σ)) ∧ OnQ m m') l.length (fun k m1 hk1 ⟨i1, i2⟩ ih => ?_) (fun m1 ⟨i1, i2⟩ => ?_) 0 (fillW m 40 15 0) (Nat.zero_le _) ⟨hP0, fun s _ => by rw [pv_fill]; unfold cL cW; split <;> rfl⟩
    · have hx := hl.2 _ (gd_mem hk1)
      have hT1 := CTw_K (OnQ_Ks (OnP_Q i1) 0 (by decide)) hT
      have hrow : m1.1 c (a + k) = iI (l.getD k 0 : Int) := by rw [i1.1]; exact hs k hk1
      have hat := q_Ls_at H hd hD hT1 hx
      have hsh := q_Ls_share H hd hD hT1 hx
      have hwl := wl_take hl (k + 1)
      have hshb : sh d (l.getD k 0) ≤ 16384 := Nat.le_trans (sh_le d _) hW
      obtain ⟨m2, e2, j1, j2⟩ := p_Ch_addTimes H (LL d (l.getD k 0)) (n := if way = 1 then sh d (l.getD k 0) else 1) (by split <;> omega) m1 (fun s h => by
        rw [i2 s h, ← vW_s way hk1 s]
        have := plW_lt hd (way := way) hwl s
        omega)
      have ih := ih m2 ⟨OnP_t i1 j1, fun s h => by rw [j2 s h, i2 s h, vW_s way hk1 s]⟩
      rw [allW_s way hk1, tk_s hk1, orL_app, andL_app] at ih
      show ∃ m' : VM, L_Ch_pick_1 _ _ _ _ _ _ _ _ _ = _ ∧ _
      match way, hw with
      | 0, _ =>
        replace e2 : M_Ch_addTimes (A 39) (LL d (l.getD k 0)) (iI 1) _ = _ := e2
        rw [E_Ch_pick_1]
        simp (disch := omega) only [E_Ch_pick_2, cK_39 H, cR_39_1 H, cK_17 H, okO_ov, aR_ov, ho, aN_ov, gd_true, gd_in, iI_cl, Int.toNat_natCast, aI_ov H.1, hrow, hat, bnd_some, letT_eq, iI_eq, l_1, iI_lt, e2, iI_add, iI_s, Int.reduceEq, ↓reduceIte]
        rw [if_pos (by omega)]
        exact ih
      | 1, _ =>
        replace e2 : M_Ch_addTimes (A 39) (LL d (l.getD k 0)) (iI (sh d (l.getD k 0) : Int)) _ = _ := e2
        rw [E_Ch_pick_1]
        simp (disch := omega) only [E_Ch_pick_2, cK_39 H, cR_39_1 H, cK_17 H, okO_ov, aR_ov, ho, aN_ov, gd_true, gd_in, iI_cl, Int.toNat_natCast, aI_ov H.1, hrow, hat, hsh, bnd_some, letT_eq, iI_eq, l_1, iI_lt, e2, iI_add, iI_s, iI_na, Int.reduceEq, ↓reduceIte]
        rw [if_pos (by omega)]
        exact ih
      | 2, _ =>
        replace e2 : M_Ch_addTimes (A 39) (LL d (l.getD k 0)) (iI 1) _ = _ := e2
        rw [E_Ch_pick_1]
        simp (disch := omega) only [E_Ch_pick_2, cK_39 H, cR_39_1 H, cK_17 H, okO_ov, aR_ov, ho, aN_ov, gd_true, gd_in, iI_cl, Int.toNat_natCast, aI_ov H.1, hrow, hat, bnd_some, letT_eq, iI_eq, l_1, iI_lt, e2, iI_add, iI_s, Int.reduceEq, ↓reduceIte]
        rw [if_pos (by omega)]
        exact ih
    · rw [List.take_length] at i2
      have hT1 := CTw_K (OnQ_Ks (OnP_Q i1) 0 (by decide)) hT
      have hall := (plW_lt hd (way := way) hl 0).2
      obtain ⟨r, er, r1, r2⟩ := q_Ch_bitsOf (n := allW d way l) (by omega) (ov 68 A m1 σ)
      have hp3 : plE d way l (sV m1 39 5 (iI (r : Int))) := i2
      have hT3 : CTw d (sV m1 39 5 (iI (r : Int))) := CTw_K (Ks_V (gs := [0]) (Ks_r _ _) _ (by decide) 0 (by decide)) hT1
      have h5 : (sV m1 39 5 (iI (r : Int))).1 39 5 = iI (r : Int) := by rw [sV_eq, if_pos rfl]
      refine ⟨sV m1 39 5 (iI (r : Int)), ?_, fun x j hx => ?_, i1.2⟩
      · show L_Ch_pick_1 _ _ _ _ _ _ _ _ _ = _
        rw [List.take_length]
        match way, hw with
        | 0, _ =>
          have hev : M_Ch_evenest (A 39) _ _ (iI 0) _ = _ := q_Ch_evenest H hd hT3 hl (Or.inl rfl) hp3 r1 r2 h5
          rw [show ((l.length : Nat) : Int) = (allW d 0 l : Int) from rfl] at hev
          rw [E_Ch_pick_1]
          simp (disch := omega) only [E_Ch_pick_3, E_Ch_pick_4, er, bnd_some, cK_39 H, okO_ov, gd_true, sI_ov H.1, letT_eq, iI_lt, iI_eq, l_0, l_1, l_2, hev, Int.reduceEq, ↓reduceIte]
          rw [if_neg (by omega)]
          rfl
        | 1, _ =>
          have hev := q_Ch_stillest H hd hT3 hl hp3 r1 r2 h5
          rw [E_Ch_pick_1]
          simp (disch := omega) only [E_Ch_pick_3, E_Ch_pick_4, er, bnd_some, cK_39 H, okO_ov, gd_true, sI_ov H.1, letT_eq, iI_lt, iI_eq, l_0, l_1, l_2, hev, Int.reduceEq, ↓reduceIte]
          rw [if_neg (by omega)]
          rfl
        | 2, _ =>
          have hev : M_Ch_evenest (A 39) _ _ (iI 1) _ = _ := q_Ch_evenest H hd hT3 hl (Or.inr rfl) hp3 r1 r2 h5
          rw [show ((l.length : Nat) : Int) = (allW d 2 l : Int) from rfl] at hev
          rw [E_Ch_pick_1]
          simp (disch := omega) only [E_Ch_pick_3, E_Ch_pick_4, er, bnd_some, cK_39 H, okO_ov, gd_true, sI_ov H.1, letT_eq, iI_lt, iI_eq, l_0, l_1, l_2, hev, Int.reduceEq, ↓reduceIte]
          rw [if_neg (by omega)]
          rfl
      · rw [← i1.1]
        by_cases e : x = 39
        · subst e; rw [sV_eq, if_neg (fun z => hx ⟨rfl, z⟩)]
        · rw [sV_ne _ _ _ _ e]
  obtain ⟨m', e, r⟩ := l1
  refine ⟨m', ?_, r⟩
  unfold M_Ch_pick
  rw [E_Ch_pick_0]
  simp only [cK_39 H, cR_39_4 H, cK_40 H, okO_ov, aR_ov, gd_true, hfl, bnd_some, l_0]
  exact (congrArg (mw _) e).trans (mw_ov _ _ _ _ _ _)
theorem p_Ch_partRow {d : TD} {A : Nat → Nat} {σ : AM} (H : LC A σ) (hd : wfD d) (hD : LD d A σ) {m : VM} (hT : CTw d m) {l : List Nat} (hl : wl d l) {a : Nat} (hn : a + l.length ≤ aN σ (A 24)) (hz : aN σ (A 24) ≤ 16384) (hs : Seg (m.1 24) a l) {s : Nat} (h64 : s < 64) : ∃ (m' : VM) (P R : List Nat), M_Ch_partRow (A 39) (A 24) (iI (a : Int)) (iI ((a + l.length : Nat) : Int)) (iI (s : Int)) (ov 68 A m σ) = some (iI ((a + P.length : Nat) : Int), (ov 68 A (m') σ)) ∧ prtR (fun k => !bt (LL d k) s) 24 a l m m' P R := by
  have hW := hd.2.2.2.2.2.2
  have hNL := NL_le d
  have l1 : ∀ n k P R m1, k + n = l.length → OnS 24 m m1 → prt (fun k => !bt (LL d k) s) (m.1 24) a l k P R (m1.1 24) → ∃ (m' : VM) (P' R' : List Nat), L_Ch_partRow_1 (A 39) (A 24) (iI ((a + l.length : Nat) : Int)) (iI (s : Int)) (iI ((a + P.length : Nat) : Int)) (iI ((a + k : Nat) : Int)) (ov 68 A m1 σ) = some (iI ((a + P'.length : Nat) : Int), (ov 68 A (m') σ)) ∧ prtR (fun k => !bt (LL d k) s) 24 a l m m' P' R' := by
    intro n
    induction n with
    | zero =>
      intro k P R m1 hk i1 i2
      obtain rfl : k = l.length := hk
      have hh := prt_end i2
      refine ⟨m1, P, R, ?_, i1, hh.1, hh.2.1, hh.2.2.1, hh.2.2.2.1, hh.2.2.2.2, i2.2.2.2.2⟩
      rw [E_Ch_partRow_1]
      simp (disch := omega) only [iI_lt]
      rw [if_neg (by omega)]
    | succ n ih =>
      intro k P R m1 hn1 i1 i2
      have hk : k < l.length := by omega
      have hT1 := CTw_K (OnS_Ks i1 0 (by decide)) hT
      have hx := hl.2 _ (gd_mem hk)
      have h24 := prt_x hk i2
      have hat := q_Ls_at H hd hD hT1 hx
      have hpl := i2.2.2.2.1
      have hr := q_St_has (LL d (l.getD k 0)) h64 (ov 68 A m1 σ)
      cases q : bt (LL d (l.getD k 0)) s
      · rw [q] at hr
        obtain ⟨R2, hy⟩ := prt_y (g := (sV (sV m1 24 (a + k) (m1.1 24 (a + P.length))) 24 (a + P.length) (iI (l.getD k 0 : Int))).1 24) hk i2 (by show (!bt (LL d (l.getD k 0)) s) = true; rw [q]; rfl) (fun j => by
          rw [sV_eq, sV_eq, h24])
        obtain ⟨m', P', R', e, r⟩ := ih (k + 1) (P ++ [l.getD k 0]) R2 (sV (sV m1 24 (a + k) (m1.1 24 (a + P.length))) 24 (a + P.length) (iI (l.getD k 0 : Int))) (by omega) ⟨fun c hc => by rw [sV_ne _ _ _ _ hc, sV_ne _ _ _ _ hc]; exact i1.1 c hc, i1.2⟩ hy
        refine ⟨m', P', R', ?_, r⟩
        rw [← e]
        rw [E_Ch_partRow_1]
        simp (disch := omega) only [E_Ch_partRow_2, cK_39 H, cR_39_1 H, cK_17 H, cK_24 H, okO_ov, aR_ov, aN_ov, gd_true, gd_in, iI_cl, Int.toNat_natCast, aI_ov H.1, sI_ov H.1, h24, hat, bnd_some, letT_eq, hr, bZ_0, l_0, l_1, iI_lt, iI_add, iI_s, ↓reduceIte]
        rw [if_pos (by omega), List.length_append, List.length_singleton]
        rfl
      · rw [q] at hr
        obtain ⟨m', P', R', e, r⟩ := ih (k + 1) P (R ++ [l.getD k 0]) m1 (by omega) i1 (prt_n hk i2 (by show (!bt (LL d (l.getD k 0)) s) = false; rw [q]; rfl))
        refine ⟨m', P', R', ?_, r⟩
        rw [← e]
        rw [E_Ch_partRow_1]
        simp (disch := omega) only [E_Ch_partRow_2, cK_39 H, cR_39_1 H, cK_17 H, cK_24 H, okO_ov, aR_ov, aN_ov, gd_true, gd_in, iI_cl, Int.toNat_natCast, aI_ov H.1, sI_ov H.1, h24, hat, bnd_some, letT_eq, hr, bZ_0, l_0, l_1, iI_lt, iI_add, iI_s, ↓reduceIte, reduceCtorEq]
        rw [if_pos (by omega)]
        rfl
  obtain ⟨m', P, R, e, r⟩ := l1 l.length 0 [] [] m (by omega) ⟨fun _ _ => rfl, rfl⟩ (prt_0 _ hs)
  refine ⟨m', P, R, ?_, r⟩
  unfold M_Ch_partRow
  rw [E_Ch_partRow_0]
  exact (congrArg (mw _) e).trans (mw_ov _ _ _ _ _ _)
/-! copies -/
def cpV (m : VM) (c1 c2 n : Nat) : VM := (fun q j => if q = c2 then (if j < n then m.1 c1 j else m.1 c2 j) else m.1 q j, m.2)
theorem cpI_ov {n : Nat} {A : Nat → Nat} (hA : Inj n A) (m : VM) (σ : AM) {c1 c2 : Nat} (h1 : c1 < n) (h2 : c2 < n) (k : Nat) : cpI (ov n A m σ) (A c1) 0 (A c2) 0 k = ov n A (cpV m c1 c2 k) σ := by
  unfold cpI
  refine Prod.ext ?_ rfl
  funext q j
  show (if q = A c2 then va_cpy (aI (ov n A m σ) (A c1)) (aI (ov n A m σ) (A c2)) 0 0 k j else aI (ov n A m σ) q j) = (match fd A q n with | some x => (cpV m c1 c2 k).1 x j | none => σ.1 q j)
  by_cases e : q = A c2
  · subst e
    rw [if_pos rfl, fd_self hA h2]
    show va_cpy _ _ 0 0 k j = if c2 = c2 then (if j < k then m.1 c1 j else m.1 c2 j) else m.1 c2 j
    rw [if_pos rfl]
    unfold va_cpy
    by_cases c : j < k
    · rw [if_pos (by omega), if_pos c, aI_ov hA m σ h1, show 0 + (j - 0) = j by omega]
    · rw [if_neg (by omega), if_neg c, aI_ov hA m σ h2]
  · rw [if_neg e]
    show (match fd A q n with | some x => m.1 x j | none => σ.1 q j) = _
    cases h : fd A q n with
    | none => rfl
    | some x =>
      have hx : x ≠ c2 := fun z => by subst z; exact e (fd_lt h).2.symm
      show m.1 x j = if x = c2 then _ else m.1 x j
      rw [if_neg hx]
theorem q_Rs_row {A : Nat → Nat} {σ : AM} (H : LC A σ) (m : VM) : M_Rs_row (A 35) (ov 68 A m σ) = some (A 38, (ov 68 A m σ)) := by
  unfold M_Rs_row
  rw [E_Rs_row_0]; simp (disch := omega) only [cK_35 H, cR_35_4 H, cK_38 H, letT_eq, gd_true, bnd_some, aR_ov, aK_ov, aN_ov, okO_ov, aI_ov H.1, aL_ov H.1, sI_ov H.1, sL_ov H.1, sV_eq, sV_ne, sV_2, sW_eq, sW_ne, sW_1, iI_add, iI_sub, iI_mul, iI_neg, iI_lt, iI_eq, iI_cl, nI_iI, gd_in, bZ_0, bZ_1, bZ_eq, isB_bZ, isB_0, isB_1, nar_bZ, nar_0, nar_1, mw_ov, iI_s, iI_na, iI_nm, Int.toNat_natCast, Int.add_zero, Int.zero_add, Nat.reduceEqDiff, Nat.reduceAdd, Int.reduceAdd, Int.reduceNeg, Int.reduceSub, Int.reduceMul, Int.reduceLT, Int.reduceEq, Int.reduceToNat, reduceCtorEq, ↓reduceIte]
theorem wl_lefts (d : TD) (b : BD) : wl d (lefts d b) := by
  refine ⟨List.Pairwise.filter _ List.nodup_range, fun k hk => ?_⟩
  have := (List.mem_filter.mp hk).1
  exact List.mem_range.mp this
theorem p_Ch_copyOfRest {d : TD} {b : BD} {A : Nat → Nat} {σ : AM} {m : VM} (R : RQ d b A σ m) : ∃ m' : VM, M_Ch_copyOfRest (A 39) (ov 68 A m σ) = some (A 24, (ov 68 A (m') σ)) ∧ OnS 24 m m' ∧ Seg (m'.1 24) 0 (lefts d b) := by
  obtain ⟨H, hd, hD, hT, hv, hN, hz⟩ := R
  have h5 := hv.1
  have hl := nLf_le d b
  have hNL := NL_le d
  have n24 : aN σ (A 24) = aN σ (A 21) := H.2.2.2.2.2.2.1
  have hD1 := hD.1
  have hD2 := hD.2
  refine ⟨cpV m 38 24 (nLf d b), ?_, ⟨fun x hx => ?_, rfl⟩, (Seg_0 _ _).mpr fun i hi => ?_⟩
  · have hok : okC (ov 68 A m σ) (A 38) (A 24) (iI 0) (iI 0) (iI (nLf d b : Int)) = true := by
      unfold okC
      rw [aN_ov, iI_cl (a := (nLf d b : Int)) (by omega) (by omega), iI_cl (a := 0) (by omega) (by omega), l_0]
      have e1 : ¬ iI (nLf d b : Int) < iI 0 := by rw [iI_lt (by omega) (by omega) (by omega) (by omega)]; omega
      rw [decide_eq_true (show ¬ iI 0 < iI 0 by decide), decide_eq_true e1]
      simp only [Int.toNat_natCast, Int.toNat_zero, Nat.zero_add, Bool.true_and]
      rw [decide_eq_true (by omega), decide_eq_true (by omega)]; rfl
    have hsp := q_Ls_spare H m
    unfold M_Ch_copyOfRest
    rw [E_Ch_copyOfRest_0]
    simp (disch := omega) only [cK_39 H, cR_39_1 H, cR_39_3 H, cK_17 H, cK_35 H, cK_38 H, cK_24 H, okO_ov, aR_ov, gd_true, bnd_some, hsp, q_Rs_row H, q_Rs_size H, h5, letT_eq, l_0, hok, iI_cl, Int.toNat_natCast, Int.toNat_zero, cpI_ov H.1, mw_ov]
  · funext j; exact if_neg hx
  · show (if (24 : Nat) = 24 then (if i < nLf d b then m.1 38 i else m.1 24 i) else m.1 24 i) = _
    rw [if_pos rfl, if_pos (show i < nLf d b from hi)]
    exact hv.2.2.2.2.1 i hi
