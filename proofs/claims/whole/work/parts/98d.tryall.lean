/-! ===== all runs at once ===== -/
def trW (d : TD) (way : Nat) : Nat → List Nat → Nat
  | 0, _ => 60
  | n + 1, l => if 1 < l.length then max (trW d way n (l.filter (fun k => !bt (LL d k) (nx d way l).toNat))) (trW d way n (l.filter (fun k => bt (LL d k) (nx d way l).toNat))) else 60 - (n + 1)
def trS (d : TD) (way : Nat) : Nat → List Nat → Nat
  | 0, l => 60 * sumL (sh d) l
  | n + 1, l => if 1 < l.length then trS d way n (l.filter (fun k => !bt (LL d k) (nx d way l).toNat)) + trS d way n (l.filter (fun k => bt (LL d k) (nx d way l).toNat)) else (60 - (n + 1)) * sumL (sh d) l
theorem trW_perm (d : TD) (way : Nat) : ∀ (n : Nat) {l l' : List Nat}, l.Perm l' → trW d way n l = trW d way n l' := by
  intro n
  induction n with
  | zero => intro l l' _; rfl
  | succ n ih =>
    intro l l' h
    unfold trW
    rw [h.length_eq, nx_perm h, ih (h.filter _), ih (h.filter (fun k => bt (LL d k) (nx d way l').toNat))]
theorem trS_perm (d : TD) (way : Nat) : ∀ (n : Nat) {l l' : List Nat}, l.Perm l' → trS d way n l = trS d way n l' := by
  intro n
  induction n with
  | zero => intro l l' h; unfold trS; rw [sumL_perm _ h]
  | succ n ih =>
    intro l l' h
    unfold trS
    rw [h.length_eq, nx_perm h, ih (h.filter _), ih (h.filter (fun k => bt (LL d k) (nx d way l').toNat)), sumL_perm _ h]
theorem trW_le (d : TD) (way : Nat) : ∀ (n : Nat) (l : List Nat), trW d way n l ≤ 60 := by
  intro n
  induction n with
  | zero => intro l; exact Nat.le_refl _
  | succ n ih =>
    intro l
    unfold trW
    split
    · exact Nat.max_le.mpr ⟨ih _, ih _⟩
    · omega
theorem trS_le (d : TD) (way : Nat) : ∀ (n : Nat) (l : List Nat), trS d way n l ≤ 60 * sumL (sh d) l := by
  intro n
  induction n with
  | zero => intro l; exact Nat.le_refl _
  | succ n ih =>
    intro l
    unfold trS
    split
    · have h1 := ih (l.filter (fun k => !bt (LL d k) (nx d way l).toNat))
      have h2 := ih (l.filter (fun k => bt (LL d k) (nx d way l).toNat))
      have h3 := sumL_part (sh d) (fun k => bt (LL d k) (nx d way l).toNat) l
      omega
    · exact Nat.mul_le_mul_right _ (by omega)
/-- what a leaf gives -/
theorem tr_leaf (d : TD) (way : Nat) {dp : Nat} (hd : dp ≤ 60) {l : List Nat} (h : ¬ (1 < l.length ∧ dp < 60)) : trW d way (60 - dp) l = dp ∧ trS d way (60 - dp) l = dp * sumL (sh d) l := by
  by_cases e : dp = 60
  · subst e; exact ⟨rfl, rfl⟩
  · obtain ⟨n, hn⟩ : ∃ n, 60 - dp = n + 1 := ⟨60 - dp - 1, by omega⟩
    rw [hn]
    unfold trW trS
    rw [if_neg (by omega), if_neg (by omega), show 60 - (n + 1) = dp by omega]
    exact ⟨rfl, rfl⟩
theorem tr_knot {d : TD} {way : Nat} {dp : Nat} (hd : dp < 60) {l P R : List Nat} (h : 1 < l.length) {s : Nat} (hs : nx d way l = (s : Int)) (hP : P.Perm (l.filter (fun k => !bt (LL d k) s))) (hR : R.Perm (l.filter (fun k => bt (LL d k) s))) : trW d way (60 - dp) l = max (trW d way (60 - (dp + 1)) P) (trW d way (60 - (dp + 1)) R) ∧ trS d way (60 - dp) l = trS d way (60 - (dp + 1)) P + trS d way (60 - (dp + 1)) R := by
  obtain ⟨n, hn⟩ : ∃ n, 60 - dp = n + 1 := ⟨60 - dp - 1, by omega⟩
  rw [hn, show 60 - (dp + 1) = n by omega, trW_perm d way n hP, trW_perm d way n hR, trS_perm d way n hP, trS_perm d way n hR]
  constructor
  · show (if 1 < l.length then _ else _) = _
    rw [if_pos h, hs]; rfl
  · show (if 1 < l.length then _ else _) = _
    rw [if_pos h, hs]; rfl
/-! the stretches that wait: the last one first -/
def offS : List (List Nat × Nat) → Nat
  | [] => 0
  | q :: r => offS r + q.1.length
def knS : List (List Nat × Nat) → Nat
  | [] => 0
  | q :: r => knS r + (2 * q.1.length - 1)
def wS (d : TD) (way : Nat) : List (List Nat × Nat) → Nat
  | [] => 0
  | q :: r => max (trW d way (60 - q.2) q.1) (wS d way r)
def tS2 (d : TD) (way : Nat) : List (List Nat × Nat) → Nat
  | [] => 0
  | q :: r => trS d way (60 - q.2) q.1 + tS2 d way r
def stkE (d : TD) (m : VM) : List (List Nat × Nat) → Prop
  | [] => True
  | q :: r => (m.1 41 r.length = iI (offS r : Int) ∧ m.1 42 r.length = iI ((offS r + q.1.length : Nat) : Int) ∧ m.1 43 r.length = iI (q.2 : Int)) ∧ Seg (m.1 24) (offS r) q.1 ∧ wl d q.1 ∧ 0 < q.1.length ∧ r.length ≤ q.2 ∧ q.2 ≤ 60 ∧ stkE d m r
theorem stkE_k {d : TD} {m m' : VM} : ∀ {S : List (List Nat × Nat)}, (∀ j, j < S.length → m'.1 41 j = m.1 41 j ∧ m'.1 42 j = m.1 42 j ∧ m'.1 43 j = m.1 43 j) → (∀ j, j < offS S → m'.1 24 j = m.1 24 j) → stkE d m S → stkE d m' S := by
  intro S
  induction S with
  | nil => intro _ _ _; trivial
  | cons q r ih =>
    intro h1 h2 ⟨⟨a1, a2, a3⟩, a4, a5, a6, a7, a8, a9⟩
    have e := h1 r.length (by rw [List.length_cons]; omega)
    refine ⟨⟨by rw [e.1]; exact a1, by rw [e.2.1]; exact a2, by rw [e.2.2]; exact a3⟩, Seg_congr (fun j _ hj => h2 j (by show j < offS r + q.1.length; omega)) a4, a5, a6, a7, a8, ih (fun j hj => h1 j (by rw [List.length_cons]; omega)) (fun j hj => h2 j (by show j < offS r + q.1.length; omega)) a9⟩
theorem q_Ch_put {A : Nat → Nat} {σ : AM} (H : LC A σ) (m : VM) {t : Nat} (ht : t < 62) (f o dp : Int32) : M_Ch_put (A 39) (iI (t : Int)) f o dp (ov 68 A m σ) = some (iI ((t + 1 : Nat) : Int), (ov 68 A (sV (sV (sV m 41 t f) 42 t o) 43 t dp) σ)) := by
  unfold M_Ch_put
  rw [E_Ch_put_0]; simp (disch := omega) only [l_1, cK_39 H, cR_39_6 H, cK_41 H, cN_41 H, cR_39_7 H, cK_42 H, cN_42 H, cR_39_8 H, cK_43 H, cN_43 H, letT_eq, gd_true, bnd_some, aR_ov, aK_ov, aN_ov, okO_ov, aI_ov H.1, aL_ov H.1, sI_ov H.1, sL_ov H.1, sV_eq, sV_ne, sV_2, sW_eq, sW_ne, sW_1, iI_add, iI_sub, iI_mul, iI_neg, iI_lt, iI_eq, iI_cl, nI_iI, gd_in, bZ_0, bZ_1, bZ_eq, isB_bZ, isB_0, isB_1, nar_bZ, nar_0, nar_1, mw_ov, iI_s, iI_na, iI_nm, Int.toNat_natCast, Int.add_zero, Int.zero_add, Nat.reduceEqDiff, Nat.reduceAdd, Int.reduceAdd, Int.reduceNeg, Int.reduceSub, Int.reduceMul, Int.reduceLT, Int.reduceEq, Int.reduceToNat, reduceCtorEq, ↓reduceIte]
  rw [if_pos (by omega), mw_ov]
theorem p_Ch_endRuns {d : TD} {A : Nat → Nat} {σ : AM} (H : LC A σ) (hd : wfD d) (hD : LD d A σ) {m : VM} (hT : CTw d m) {l : List Nat} (hl : wl d l) {a : Nat} (hn : a + l.length ≤ aN σ (A 24)) (hz : aN σ (A 24) ≤ 16384) (hs : Seg (m.1 24) a l) {dp way W T : Nat} (hdp : dp ≤ 60) (hw : way ≤ 2) (hW : W ≤ 60) (h44 : m.1 44 way = iI (W : Int)) (h45 : m.1 45 way = iI (T : Int)) : ∃ m' : VM, M_Ch_endRuns (A 39) (A 24) (iI (a : Int)) (iI ((a + l.length : Nat) : Int)) (iI (dp : Int)) (iI (way : Int)) (ov 68 A m σ) = some ((), (ov 68 A (m') σ)) ∧ (∀ c, c ≠ 44 → c ≠ 45 → m'.1 c = m.1 c) ∧ m'.2 = m.2 ∧ (∀ j, j ≠ way → m'.1 44 j = m.1 44 j ∧ m'.1 45 j = m.1 45 j) ∧ m'.1 44 way = iI ((max W dp : Nat) : Int) ∧ m'.1 45 way = iI ((T + dp * sumL (sh d) l : Nat) : Int) := by
  have hW2 := hd.2.2.2.2.2.2
  have hNL := NL_le d
  have hmx : mxI (iI (W : Int)) (iI (dp : Int)) = iI ((max W dp : Nat) : Int) := by
    rw [mxI_iI (by omega) (by omega) (by omega) (by omega)]
    congr 1
    split <;> omega
  have l1 : ∃ m' : VM, L_Ch_endRuns_1 (A 39) (A 24) (iI ((a + l.length : Nat) : Int)) (iI (dp : Int)) (iI (way : Int)) (iI (a : Int)) (ov 68 A (sV m 44 way (iI ((max W dp : Nat) : Int))) σ) = some ((), (ov 68 A (m') σ)) ∧ (∀ c, c ≠ 44 → c ≠ 45 → m'.1 c = m.1 c) ∧ m'.2 = m.2 ∧ (∀ j, j ≠ way → m'.1 44 j = m.1 44 j ∧ m'.1 45 j = m.1 45 j) ∧ m'.1 44 way = iI ((max W dp : Nat) : Int) ∧ m'.1 45 way = iI ((T + dp * sumL (sh d) l : Nat) : Int) := by
    refine up_loopI (fun k m1 => L_Ch_endRuns_1 (A 39) (A 24) (iI ((a + l.length : Nat) : Int)) (iI (dp : Int)) (iI (way : Int)) (iI ((a + k : Nat) : Int)) (ov 68 A m1 σ)) (fun k m1 => (∀ c, c ≠ 44 → c ≠ 45 → m1.1 c = m.1 c) ∧ m1.2 = m.2 ∧ (∀ j, j ≠ way → m1.1 44 j = m.1 44 j ∧ m1.1 45 j = m.1 45 j) ∧ m1.1 44 way = iI ((max W dp : Nat) : Int) ∧ m1.1 45 way = iI ((T + dp * sumL (sh d) (l.take k) : Nat) : Int)) (fun X => ∃ m' : VM, X = some ((), (ov 68 A (m') σ)) ∧ (∀ c, c ≠ 44 → c ≠ 45 → m'.1 c = m.1 c) ∧ m'.2 = m.2 ∧ (∀ j, j ≠ way → m'.1 44 j = m.1 44 j ∧ m'.1 45 j = m.1 45 j) ∧ m'.1 44 way = iI ((max W dp : Nat) : Int) ∧ m'.1 45 way = iI ((T + dp * sumL (sh d) l : Nat) : Int)) l.length (fun k m1 hk ⟨i1, i2, i3, i4, i5⟩ ih => ?_) (fun m1 ⟨i1, i2, i3, i4, i5⟩ => ?_) 0 _ (Nat.zero_le _) ⟨fun c h1 _ => sV_ne _ _ _ _ h1, rfl, fun j hj => ⟨by rw [sV_eq, if_neg hj], by rw [sV_ne _ _ _ _ (by decide)]⟩, by rw [sV_eq, if_pos rfl], by rw [sV_ne _ _ _ _ (by decide), h45]; rfl⟩
    · have hx := hl.2 _ (gd_mem hk)
      have K1 : Kg 0 m m1 := ⟨fun q hq => by
          have := (show ∀ q ∈ gF 0, q.1 ≠ 44 ∧ q.1 ≠ 45 by decide) q hq
          rw [i1 _ this.1 this.2], fun c hc => by
          have := (show ∀ q ∈ gC 0, q ≠ 44 ∧ q ≠ 45 by decide) c hc
          exact i1 _ this.1 this.2, fun q hq => by rw [i2], fun c hc => by rw [i2]⟩
      have hsh := q_Ls_share H hd hD (CTw_K K1 hT) hx
      have hrow : m1.1 24 (a + k) = iI (l.getD k 0 : Int) := by rw [i1 24 (by decide) (by decide)]; exact hs k hk
      have ih := ih (sV m1 45 way (iI ((T + dp * sumL (sh d) (l.take (k + 1)) : Nat) : Int))) ⟨fun c h1 h2 => by rw [sV_ne _ _ _ _ h2]; exact i1 c h1 h2, i2, fun j hj => ⟨by rw [sV_ne _ _ _ _ (by decide)]; exact (i3 j hj).1, by rw [sV_eq, if_neg hj]; exact (i3 j hj).2⟩, by rw [sV_ne _ _ _ _ (by decide)]; exact i4, by rw [sV_eq, if_pos rfl]⟩
      rw [sumL_s _ hk, Nat.mul_add, ← Nat.add_assoc T] at ih
      show ∃ m' : VM, L_Ch_endRuns_1 _ _ _ _ _ _ _ = _ ∧ _
      rw [E_Ch_endRuns_1]
      simp (disch := omega) only [cK_39 H, cR_39_10 H, cR_39_1 H, cK_45 H, cN_45 H, cK_17 H, cK_24 H, okO_ov, aR_ov, aN_ov, gd_true, gd_in, iI_cl, Int.toNat_natCast, aI_ov H.1, sI_ov H.1, hrow, hsh, i5, bnd_some, letT_eq, l_1, iI_lt, iI_mul, iI_add, iI_s, iI_nm, iI_na]
      rw [if_pos (by omega)]
      exact ih
    · rw [List.take_length] at i5
      refine ⟨m1, ?_, i1, i2, i3, i4, i5⟩
      show L_Ch_endRuns_1 _ _ _ _ _ _ _ = _
      rw [E_Ch_endRuns_1]
      simp (disch := omega) only [iI_lt]
      rw [if_neg (by omega)]
  obtain ⟨m', e, r⟩ := l1
  refine ⟨m', ?_, r⟩
  unfold M_Ch_endRuns
  rw [E_Ch_endRuns_0]
  simp (disch := omega) only [cK_39 H, cR_39_9 H, cK_44 H, cN_44 H, okO_ov, aR_ov, aN_ov, gd_true, gd_in, iI_cl, Int.toNat_natCast, aI_ov H.1, sI_ov H.1, h44, hmx, letT_eq]
  exact (congrArg (mw _) e).trans (mw_ov _ _ _ _ _ _)
def gsT : List Nat := [0, 1, 2, 4, 5]
/-- all runs under way: W and T are what comes out -/
def taI (d : TD) (A : Nat → Nat) (σ : AM) (way g W T : Nat) (m0 : VM) (S : List (List Nat × Nat)) (m : VM) : Prop := Ks gsT m0 m ∧ (m.1 46 way = iI (g : Int) ∧ ∀ j, j ≠ way → m.1 44 j = m0.1 44 j ∧ m.1 45 j = m0.1 45 j ∧ m.1 46 j = m0.1 46 j) ∧ stkE d m S ∧ offS S ≤ aN σ (A 24) ∧ ∃ w t : Nat, m.1 44 way = iI (w : Int) ∧ m.1 45 way = iI (t : Int) ∧ w ≤ 60 ∧ max w (wS d way S) = W ∧ t + tS2 d way S = T
def taP (A : Nat → Nat) (σ : AM) (way g W T : Nat) (m0 : VM) (X : Option (Unit × AM)) : Prop := ∃ m' : VM, X = some ((), (ov 68 A (m') σ)) ∧ Ks gsT m0 m' ∧ (m'.1 46 way = iI (g : Int) ∧ ∀ j, j ≠ way → m'.1 44 j = m0.1 44 j ∧ m'.1 45 j = m0.1 45 j ∧ m'.1 46 j = m0.1 46 j) ∧ m'.1 44 way = iI (W : Int) ∧ m'.1 45 way = iI (T : Int)
theorem Ks_T {m m' : VM} {gs : List Nat} (hg : gs.all (fun g => [0, 1, 2, 4, 5].contains g) = true) (h1 : ∀ c, c ≠ 41 → c ≠ 42 → c ≠ 43 → c ≠ 44 → c ≠ 45 → c ≠ 46 → m'.1 c = m.1 c) (h2 : m'.2 = m.2) : Ks gs m m' := fun g hgm => by
  have hg' := List.contains_iff_mem.mp (List.all_eq_true.mp hg g hgm)
  refine ⟨fun q hq => ?_, fun c hc => ?_, fun q hq => by rw [h2], fun c hc => by rw [h2]⟩
  · have := (show ∀ g ∈ [0, 1, 2, 4, 5], ∀ q ∈ gF g, q.1 ≠ 41 ∧ q.1 ≠ 42 ∧ q.1 ≠ 43 ∧ q.1 ≠ 44 ∧ q.1 ≠ 45 ∧ q.1 ≠ 46 by decide) g hg' q hq
    rw [h1 _ this.1 this.2.1 this.2.2.1 this.2.2.2.1 this.2.2.2.2.1 this.2.2.2.2.2]
  · have := (show ∀ g ∈ [0, 1, 2, 4, 5], ∀ q ∈ gC g, q ≠ 41 ∧ q ≠ 42 ∧ q ≠ 43 ∧ q ≠ 44 ∧ q ≠ 45 ∧ q ≠ 46 by decide) g hg' c hc
    exact h1 _ this.1 this.2.1 this.2.2.1 this.2.2.2.1 this.2.2.2.2.1 this.2.2.2.2.2
theorem Ch_try1 {d : TD} {A : Nat → Nat} {σ : AM} {m0 : VM} (H : LC A σ) (hd : wfD d) (hD : LD d A σ) (hT : CTw d m0) {way g W T : Nat} (hw : way ≤ 2) : ∀ (N i : Nat) (S : List (List Nat × Nat)) (m : VM), knS S ≤ N → i + knS S ≤ 32767 → taI d A σ way g W T m0 S m → taP A σ way g W T m0 (L_Ch_tryAll_1 (A 39) (iI (way : Int)) (A 24) (iI (S.length : Int)) (iI (i : Int)) (ov 68 A m σ)) := by
  have n24 : aN σ (A 24) = aN σ (A 21) := H.2.2.2.2.2.2.1
  have hz : aN σ (A 24) ≤ 16384 := by rw [n24]; exact hD.2
  have hW2 := hd.2.2.2.2.2.2
  have hNL := NL_le d
  have hS := sN_le hd
  intro N
  induction N with
  | zero =>
    intro i S m h1 h2 h3
    obtain ⟨a1, a2, a3, a4, w, t, b1, b2, b3, b4, b5⟩ := h3
    match S, h1, a3, b4, b5 with
    | [], _, _, b4, b5 =>
      refine ⟨m, ?_, a1, a2, ?_, ?_⟩
      · show L_Ch_tryAll_1 _ _ _ (iI 0) _ _ = _
        rw [E_Ch_tryAll_1]
        simp (disch := omega) only [E_Ch_tryAll_4, l_0, l_40000, iI_lt]
        rw [if_pos (by omega), if_neg (by omega)]
      · have : max w 0 = W := b4
        rw [Nat.max_zero] at this
        rw [← this]; exact b1
      · have : t + 0 = T := b5
        rw [← this]; exact b2
    | q :: r, h1, a3, _, _ =>
      have : 0 < q.1.length := a3.2.2.2.1
      have h1 : knS r + (2 * q.1.length - 1) ≤ 0 := h1
      omega
  | succ N ih =>
    intro i S m h1 h2 h3
    match S, h1, h2, h3 with
    | [], h1, h2, h3 =>
      exact ih i [] m (Nat.zero_le _) h2 h3
    | (l, dp) :: r, h1, h2, h3 =>
      obtain ⟨a1, a2, ⟨⟨s1, s2, s3⟩, s4, s5, s6, s7, s8, s9⟩, a4, w, t, b1, b2, b3, b4, b5⟩ := h3
      simp only at s1 s2 s3 s4 s5 s6 s7 s8
      have h1 : knS r + (2 * l.length - 1) ≤ N + 1 := h1
      have h2 : i + (knS r + (2 * l.length - 1)) ≤ 32767 := h2
      have a4 : offS r + l.length ≤ aN σ (A 24) := a4
      have b4 : max w (max (trW d way (60 - dp) l) (wS d way r)) = W := b4
      have b5 : t + (trS d way (60 - dp) l + tS2 d way r) = T := b5
      have hT1 := CTw_K (a1 0 (by decide)) hT
      have e1 : ((r.length + 1 : Nat) : Int) + -1 = (r.length : Int) := by omega
      have e2 : ((offS r + l.length : Nat) : Int) - (offS r : Int) = (l.length : Int) := by omega
      by_cases c : 1 < l.length ∧ dp < 60
      · obtain ⟨s, hs, hs1, hs2⟩ := nx_ok hd way s5 c.1
        obtain ⟨m2, p2, k2⟩ := p_Ch_pick H hd hD hT1 s5 (c := 24) (by decide) (by decide) (H.2.2.1 (24, 101) (by decide)) a4 hz s4 hw
        rw [hs] at p2
        have hT2 := CTw_K (OnQ_Ks k2 0 (by decide)) hT1
        have c24 : m2.1 24 = m.1 24 := OnQ_c k2 (by decide)
        obtain ⟨m3, P, R, p3, k3, t1, t2, t3, t4, t5, t6⟩ := p_Ch_partRow H hd hD hT2 s5 a4 hz (by rw [c24]; exact s4) (s := s) (by omega)
        rw [flt_nn] at t4
        have hK := tr_knot c.2 c.1 hs t3 t4
        have hcl := of_decide_eq_true hs2
        have hR : R.length = cL d l s := by rw [t4.length_eq, ← List.countP_eq_length_filter]; rfl
        have q1 := q_Ch_put H m3 (t := r.length) (by omega) (iI (offS r : Int)) (iI ((offS r + P.length : Nat) : Int)) (iI ((dp + 1 : Nat) : Int))
        have q2 := q_Ch_put H (sV (sV (sV m3 41 r.length (iI (offS r : Int))) 42 r.length (iI ((offS r + P.length : Nat) : Int))) 43 r.length (iI ((dp + 1 : Nat) : Int))) (t := r.length + 1) (by omega) (iI ((offS r + P.length : Nat) : Int)) (iI ((offS r + l.length : Nat) : Int)) (iI ((dp + 1 : Nat) : Int))
        have hsm : ¬ (s : Int) = -1 := by omega
        have keep : ∀ c, c ≠ 24 → c ≠ 39 → m3.1 c = m.1 c := fun c h1 h2 => by rw [k3.1 c h1]; exact OnQ_c k2 h2
        have ih := ih (i + 1) ((R, dp + 1) :: (P, dp + 1) :: r) (sV (sV (sV (sV (sV (sV m3 41 r.length (iI (offS r : Int))) 42 r.length (iI ((offS r + P.length : Nat) : Int))) 43 r.length (iI ((dp + 1 : Nat) : Int))) 41 (r.length + 1) (iI ((offS r + P.length : Nat) : Int))) 42 (r.length + 1) (iI ((offS r + l.length : Nat) : Int))) 43 (r.length + 1) (iI ((dp + 1 : Nat) : Int))) (by show knS r + (2 * P.length - 1) + (2 * R.length - 1) ≤ N; omega) (by show i + 1 + (knS r + (2 * P.length - 1) + (2 * R.length - 1)) ≤ 32767; omega) ⟨Ks_t a1 (Ks_t (Ks_t (Ks_sub (OnQ_Ks k2) (by decide)) (Ks_sub (OnS_Ks k3) (by decide))) (Ks_A (Ks_A (Ks_A (Ks_A (Ks_A (Ks_A (Ks_r _ _) _ _ (by decide)) _ _ (by decide)) _ _ (by decide)) _ _ (by decide)) _ _ (by decide)) _ _ (by decide))), ⟨?_, fun j hj => ⟨?_, ?_, ?_⟩⟩, ⟨⟨?_, ?_, ?_⟩, ?_, wl_perm t4.symm (wl_flt _ s5), by show 0 < R.length; omega, by show r.length + 1 ≤ dp + 1; omega, by show dp + 1 ≤ 60; omega, ⟨?_, ?_, ?_⟩, ?_, wl_perm t3.symm (wl_flt _ s5), by show 0 < P.length; omega, by show r.length ≤ dp + 1; omega, by show dp + 1 ≤ 60; omega, stkE_k (fun j hj => ⟨?_, ?_, ?_⟩) (fun j hj => ?_) s9⟩, by show offS r + P.length + R.length ≤ _; omega, w, t, ?_, ?_, b3, ?_, ?_⟩
        · show taP A σ way g W T m0 (L_Ch_tryAll_1 _ _ _ (iI ((r.length + 1 : Nat) : Int)) _ _)
          replace ih : taP A σ way g W T m0 (L_Ch_tryAll_1 _ _ _ (iI ((r.length + 1 + 1 : Nat) : Int)) _ _) := ih
          rw [E_Ch_tryAll_1]
          simp (disch := omega) only [E_Ch_tryAll_2, E_Ch_tryAll_3, l_0, l_1, l_60, l_40000, iI_neg, iI_lt, iI_eq, iI_add, iI_sub, e1, e2, cK_39 H, cR_39_6 H, cR_39_7 H, cR_39_8 H, cK_41 H, cN_41 H, cK_42 H, cN_42 H, cK_43 H, cN_43 H, okO_ov, aR_ov, aN_ov, gd_true, gd_in, iI_cl, Int.toNat_natCast, aI_ov H.1, s1, s2, s3, letT_eq, bnd_some, p2, hsm, p3, iI_s, q1, q2, ↓reduceIte]
          rw [if_pos (by omega), if_pos (by omega), if_pos (by omega), if_pos (by omega)]
          exact ih
        · simp (disch := decide) only [sV_eq, sW_eq, sV_ne, sW_ne, sV_2, sW_1, Nat.reduceEqDiff, ↓reduceIte]; rw [keep 46 (by decide) (by decide)]; exact a2.1
        · simp (disch := decide) only [sV_eq, sW_eq, sV_ne, sW_ne, sV_2, sW_1, Nat.reduceEqDiff, ↓reduceIte]; rw [keep 44 (by decide) (by decide)]; exact (a2.2 j hj).1
        · simp (disch := decide) only [sV_eq, sW_eq, sV_ne, sW_ne, sV_2, sW_1, Nat.reduceEqDiff, ↓reduceIte]; rw [keep 45 (by decide) (by decide)]; exact (a2.2 j hj).2.1
        · simp (disch := decide) only [sV_eq, sW_eq, sV_ne, sW_ne, sV_2, sW_1, Nat.reduceEqDiff, ↓reduceIte]; rw [keep 46 (by decide) (by decide)]; exact (a2.2 j hj).2.2
        · show (sV (sV (sV _ 41 (r.length + 1) _) 42 _ _) 43 _ _).1 41 (r.length + 1) = iI ((offS r + P.length : Nat) : Int)
          rw [sV_ne _ _ _ _ (by decide), sV_ne _ _ _ _ (by decide), sV_eq, if_pos rfl]
        · show (sV (sV _ 42 (r.length + 1) _) 43 _ _).1 42 (r.length + 1) = iI ((offS r + P.length + R.length : Nat) : Int)
          rw [sV_ne _ _ _ _ (by decide), sV_eq, if_pos rfl, show offS r + P.length + R.length = offS r + l.length by omega]
        · show (sV _ 43 (r.length + 1) _).1 43 (r.length + 1) = iI ((dp + 1 : Nat) : Int)
          rw [sV_eq, if_pos rfl]
        · show Seg ((sV (sV (sV (sV (sV (sV m3 41 _ _) 42 _ _) 43 _ _) 41 _ _) 42 _ _) 43 _ _).1 24) (offS r + P.length) R
          simp (disch := decide) only [sV_ne]
          exact t2
        · rw [sV_ne _ _ _ _ (by decide), sV_ne _ _ _ _ (by decide), sV_eq, if_neg (by omega), sV_ne _ _ _ _ (by decide), sV_ne _ _ _ _ (by decide), sV_eq, if_pos rfl]
        · rw [sV_ne _ _ _ _ (by decide), sV_eq, if_neg (by omega), sV_ne _ _ _ _ (by decide), sV_ne _ _ _ _ (by decide), sV_eq, if_pos rfl]
        · rw [sV_eq, if_neg (by omega), sV_ne _ _ _ _ (by decide), sV_ne _ _ _ _ (by decide), sV_eq, if_pos rfl]
        · simp (disch := decide) only [sV_ne]
          exact t1
        · rw [sV_ne _ _ _ _ (by decide), sV_ne _ _ _ _ (by decide), sV_eq, if_neg (by omega), sV_ne _ _ _ _ (by decide), sV_ne _ _ _ _ (by decide), sV_eq, if_neg (by omega), keep 41 (by decide) (by decide)]
        · rw [sV_ne _ _ _ _ (by decide), sV_eq, if_neg (by omega), sV_ne _ _ _ _ (by decide), sV_ne _ _ _ _ (by decide), sV_eq, if_neg (by omega), sV_ne _ _ _ _ (by decide), keep 42 (by decide) (by decide)]
        · rw [sV_eq, if_neg (by omega), sV_ne _ _ _ _ (by decide), sV_ne _ _ _ _ (by decide), sV_eq, if_neg (by omega), sV_ne _ _ _ _ (by decide), sV_ne _ _ _ _ (by decide), keep 43 (by decide) (by decide)]
        · simp (disch := decide) only [sV_ne]
          rw [t6 j (Or.inl hj), c24]
        · simp (disch := decide) only [sV_eq, sW_eq, sV_ne, sW_ne, sV_2, sW_1, Nat.reduceEqDiff, ↓reduceIte]; rw [keep 44 (by decide) (by decide)]; exact b1
        · simp (disch := decide) only [sV_eq, sW_eq, sV_ne, sW_ne, sV_2, sW_1, Nat.reduceEqDiff, ↓reduceIte]; rw [keep 45 (by decide) (by decide)]; exact b2
        · show max w (max (trW d way (60 - (dp + 1)) R) (max (trW d way (60 - (dp + 1)) P) (wS d way r))) = W
          rw [← b4, hK.1]
          simp only [Nat.max_def]
          repeat (first | omega | split)
        · show t + (trS d way (60 - (dp + 1)) R + (trS d way (60 - (dp + 1)) P + tS2 d way r)) = T
          rw [← b5, hK.2]; omega
      · have hl := tr_leaf d way s8 c
        obtain ⟨m2, p2, k1, k2, k3, k4, k5⟩ := p_Ch_endRuns H hd hD hT1 s5 a4 hz s4 s8 hw b3 b1 b2
        have ih := ih (i + 1) r m2 (by omega) (by omega) ⟨Ks_t a1 (Ks_T (by decide) (fun c _ _ _ h4 h5 _ => k1 c h4 h5) k2), ⟨by rw [k1 46 (by decide) (by decide)]; exact a2.1, fun j hj => ⟨by rw [(k3 j hj).1]; exact (a2.2 j hj).1, by rw [(k3 j hj).2]; exact (a2.2 j hj).2.1, by rw [k1 46 (by decide) (by decide)]; exact (a2.2 j hj).2.2⟩⟩, stkE_k (fun j _ => ⟨by rw [k1 41 (by decide) (by decide)], by rw [k1 42 (by decide) (by decide)], by rw [k1 43 (by decide) (by decide)]⟩) (fun j _ => by rw [k1 24 (by decide) (by decide)]) s9, by omega, max w dp, t + dp * sumL (sh d) l, k4, k5, Nat.max_le.mpr ⟨b3, s8⟩, ?_, ?_⟩
        · show taP A σ way g W T m0 (L_Ch_tryAll_1 _ _ _ (iI ((r.length + 1 : Nat) : Int)) _ _)
          by_cases c1 : 1 < l.length
          · have c2 : ¬ dp < 60 := fun z => c ⟨c1, z⟩
            rw [E_Ch_tryAll_1]
            simp (disch := omega) only [E_Ch_tryAll_2, E_Ch_tryAll_3, l_0, l_1, l_60, l_40000, iI_neg, iI_lt, iI_eq, iI_add, iI_sub, e1, e2, cK_39 H, cR_39_6 H, cR_39_7 H, cR_39_8 H, cK_41 H, cN_41 H, cK_42 H, cN_42 H, cK_43 H, cN_43 H, okO_ov, aR_ov, aN_ov, gd_true, gd_in, iI_cl, Int.toNat_natCast, aI_ov H.1, s1, s2, s3, letT_eq, bnd_some, p2, iI_s, ↓reduceIte]
            rw [if_pos (by omega), if_pos (by omega), if_pos (by omega), if_neg (by omega)]
            exact ih
          · rw [E_Ch_tryAll_1]
            simp (disch := omega) only [E_Ch_tryAll_2, E_Ch_tryAll_3, l_0, l_1, l_60, l_40000, iI_neg, iI_lt, iI_eq, iI_add, iI_sub, e1, e2, cK_39 H, cR_39_6 H, cR_39_7 H, cR_39_8 H, cK_41 H, cN_41 H, cK_42 H, cN_42 H, cK_43 H, cN_43 H, okO_ov, aR_ov, aN_ov, gd_true, gd_in, iI_cl, Int.toNat_natCast, aI_ov H.1, s1, s2, s3, letT_eq, bnd_some, p2, iI_s, ↓reduceIte]
            rw [if_pos (by omega), if_pos (by omega), if_neg (by omega)]
            exact ih
        · rw [← b4, hl.1]
          simp only [Nat.max_def]
          repeat (first | omega | split)
        · rw [← b5, hl.2]; omega
def TV (d : TD) (b : BD) (way : Nat) (m : VM) : Prop := m.1 44 way = iI (trW d way 60 (lefts d b) : Int) ∧ m.1 45 way = iI (trS d way 60 (lefts d b) : Int)
def TA (d : TD) (b : BD) (g : Nat) (m : VM) : Prop := ∀ way, way ≤ 2 → ∃ a : Int, m.1 46 way = iI a ∧ -1 ≤ a ∧ a ≤ g ∧ (a = g → TV d b way m)
theorem TA_K {d : TD} {b : BD} {g : Nat} {m m' : VM} (h : Kg 3 m m') (k : TA d b g m) : TA d b g m' := fun way hw => by
  obtain ⟨a, a1, a2, a3, a4⟩ := k way hw
  refine ⟨a, by rw [h.2.1 46 (by decide)]; exact a1, a2, a3, fun e => ⟨by rw [h.2.1 44 (by decide)]; exact (a4 e).1, by rw [h.2.1 45 (by decide)]; exact (a4 e).2⟩⟩
theorem p_Ch_tryAll {d : TD} {b : BD} {g : Nat} {A : Nat → Nat} {σ : AM} {m : VM} (R : RQ d b A σ m) (h0 : nLf d b ≠ 0) (hg : m.1 27 10 = iI (g : Int)) (hg2 : g < 100000) (hA : TA d b g m) {way : Nat} (hway : way ≤ 2) : ∃ m' : VM, M_Ch_tryAll (A 39) (iI (way : Int)) (ov 68 A m σ) = some ((), (ov 68 A (m') σ)) ∧ Ks gsT m m' ∧ TA d b g m' ∧ TV d b way m' := by
  have R0 := R
  obtain ⟨H, hd, hD, hT, hv, hN, hz⟩ := R
  have hW := hd.2.2.2.2.2.2
  have hNL := NL_le d
  have hl := nLf_le d b
  have n24 : aN σ (A 24) = aN σ (A 21) := H.2.2.2.2.2.2.1
  have hD1 := hD.1
  have hD2 := hD.2
  obtain ⟨a, ha, ha1, ha2, ha3⟩ := hA way hway
  unfold M_Ch_tryAll
  by_cases c : a = g
  · refine ⟨m, ?_, Ks_r _ _, hA, ha3 c⟩
    rw [E_Ch_tryAll_0]
    simp (disch := omega) only [cK_39 H, cR_39_11 H, cR_39_2 H, cK_46 H, cN_46 H, cK_27 H, okO_ov, aR_ov, aN_ov, gd_true, gd_in, iI_cl, Int.toNat_natCast, aI_ov H.1, ha, bnd_some, q_Bk_age H, hg, c, ↓reduceIte, mw_ov]
  · have K1 : Ks gsT m (sV (sV (sV m 46 way (iI (g : Int))) 44 way (iI 0)) 45 way (iI 0)) := Ks_A (Ks_A (Ks_A (Ks_r _ _) _ _ (by decide)) _ _ (by decide)) _ _ (by decide)
    have R1 := RQ_K (Ks_sub K1 (by decide)) R0
    obtain ⟨m2, e2, k2, s2⟩ := p_Ch_copyOfRest R1
    have K2 : Ks gsT m m2 := Ks_t K1 (Ks_sub (OnS_Ks k2) (by decide))
    have h5 : m2.1 35 5 = iI (nLf d b : Int) := by rw [(K2 1 (by decide)).1 (35, 5) (by decide)]; exact hv.1
    have q1 := q_Ch_put H m2 (t := 0) (by omega) (iI 0) (iI (nLf d b : Int)) (iI 0)
    have keep : ∀ c, c ≠ 24 → m2.1 c = (sV (sV (sV m 46 way (iI (g : Int))) 44 way (iI 0)) 45 way (iI 0)).1 c := fun c h => k2.1 c h
    have lp := Ch_try1 H hd hD hT (way := way) (g := g) (W := trW d way 60 (lefts d b)) (T := trS d way 60 (lefts d b)) hway 32767 0 [(lefts d b, 0)] (sV (sV (sV m2 41 0 (iI 0)) 42 0 (iI (nLf d b : Int))) 43 0 (iI 0)) (by show 0 + (2 * nLf d b - 1) ≤ 32767; omega) (by show 0 + (0 + (2 * nLf d b - 1)) ≤ 32767; omega) ⟨Ks_A (Ks_A (Ks_A K2 _ _ (by decide)) _ _ (by decide)) _ _ (by decide), ⟨?_, fun j hj => ⟨?_, ?_, ?_⟩⟩, ⟨⟨?_, ?_, ?_⟩, ?_, wl_lefts d b, by show 0 < nLf d b; omega, Nat.zero_le _, Nat.zero_le _, trivial⟩, by show 0 + nLf d b ≤ _; omega, 0, 0, ?_, ?_, by omega, ?_, ?_⟩
    · obtain ⟨m', e, k1, ⟨k2, k3⟩, k4, k5⟩ := lp
      refine ⟨m', ?_, k1, fun w' hw' => ?_, k4, k5⟩
      · replace e : L_Ch_tryAll_1 (A 39) (iI (way : Int)) (A 24) (iI 1) (iI 0) _ = _ := e
        rw [E_Ch_tryAll_0]
        replace q1 : M_Ch_put (A 39) (iI 0) _ _ _ _ = some (iI 1, _) := q1
        simp (disch := omega) only [cK_39 H, cR_39_11 H, cR_39_9 H, cR_39_10 H, cR_39_3 H, cR_39_2 H, cK_46 H, cN_46 H, cK_44 H, cN_44 H, cK_45 H, cN_45 H, cK_27 H, cK_35 H, okO_ov, aR_ov, aN_ov, gd_true, gd_in, iI_cl, Int.toNat_natCast, aI_ov H.1, sI_ov H.1, ha, bnd_some, q_Bk_age H, hg, iI_eq, l_0, letT_eq, e2, q_Rs_size H, h5, q1]
        rw [if_neg c, e, mw_ov]
      · by_cases z : w' = way
        · subst z
          exact ⟨g, k2, by omega, by omega, fun _ => ⟨k4, k5⟩⟩
        · obtain ⟨z1, z2, z3⟩ := k3 w' z
          obtain ⟨a', y1, y2, y3, y4⟩ := hA w' hw'
          exact ⟨a', by rw [z3]; exact y1, y2, y3, fun y => ⟨by rw [z1]; exact (y4 y).1, by rw [z2]; exact (y4 y).2⟩⟩
    · simp (disch := decide) only [sV_eq, sW_eq, sV_ne, sW_ne, sV_2, sW_1, Nat.reduceEqDiff, ↓reduceIte]; rw [keep 46 (by decide)]; simp (disch := decide) only [sV_eq, sW_eq, sV_ne, sW_ne, sV_2, sW_1, Nat.reduceEqDiff, ↓reduceIte]
    · simp (disch := decide) only [sV_eq, sW_eq, sV_ne, sW_ne, sV_2, sW_1, Nat.reduceEqDiff, ↓reduceIte]; rw [keep 44 (by decide), sV_ne _ _ _ _ (by decide), sV_eq, if_neg hj, sV_ne _ _ _ _ (by decide)]
    · simp (disch := decide) only [sV_eq, sW_eq, sV_ne, sW_ne, sV_2, sW_1, Nat.reduceEqDiff, ↓reduceIte]; rw [keep 45 (by decide), sV_eq, if_neg hj, sV_ne _ _ _ _ (by decide), sV_ne _ _ _ _ (by decide)]
    · simp (disch := decide) only [sV_eq, sW_eq, sV_ne, sW_ne, sV_2, sW_1, Nat.reduceEqDiff, ↓reduceIte]; rw [keep 46 (by decide), sV_ne _ _ _ _ (by decide), sV_ne _ _ _ _ (by decide), sV_eq, if_neg hj]
    · show (sV (sV (sV m2 41 0 _) 42 0 _) 43 0 _).1 41 0 = iI ((0 : Nat) : Int)
      simp (disch := decide) only [sV_eq, sW_eq, sV_ne, sW_ne, sV_2, sW_1, Nat.reduceEqDiff, ↓reduceIte]; rfl
    · show (sV (sV (sV m2 41 0 _) 42 0 _) 43 0 _).1 42 0 = iI ((0 + nLf d b : Nat) : Int)
      simp (disch := decide) only [sV_eq, sW_eq, sV_ne, sW_ne, sV_2, sW_1, Nat.reduceEqDiff, ↓reduceIte]; rw [Nat.zero_add]
    · show (sV (sV (sV m2 41 0 _) 42 0 _) 43 0 _).1 43 0 = iI ((0 : Nat) : Int)
      simp (disch := decide) only [sV_eq, sW_eq, sV_ne, sW_ne, sV_2, sW_1, Nat.reduceEqDiff, ↓reduceIte]; rfl
    · show Seg ((sV (sV (sV m2 41 0 _) 42 0 _) 43 0 _).1 24) 0 (lefts d b)
      simp (disch := decide) only [sV_ne]
      exact s2
    · simp (disch := decide) only [sV_eq, sW_eq, sV_ne, sW_ne, sV_2, sW_1, Nat.reduceEqDiff, ↓reduceIte]; rw [keep 44 (by decide)]; simp (disch := decide) only [sV_eq, sW_eq, sV_ne, sW_ne, sV_2, sW_1, Nat.reduceEqDiff, ↓reduceIte]; rfl
    · simp (disch := decide) only [sV_eq, sW_eq, sV_ne, sW_ne, sV_2, sW_1, Nat.reduceEqDiff, ↓reduceIte]; rw [keep 45 (by decide)]; simp (disch := decide) only [sV_eq, sW_eq, sV_ne, sW_ne, sV_2, sW_1, Nat.reduceEqDiff, ↓reduceIte]; rfl
    · show max 0 (max (trW d way 60 (lefts d b)) 0) = _
      rw [Nat.max_zero, Nat.zero_max]
    · show 0 + (trS d way 60 (lefts d b) + 0) = _
      omega
