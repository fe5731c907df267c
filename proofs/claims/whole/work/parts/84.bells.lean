/-! ===== two bells ===== -/
theorem sub1 {x y : Int64} : (y &&& (x ^^^ (-1)) = 0) ↔ ∀ s, s < 64 → bt y s = true → bt x s = true := by
  rw [bt_z]
  constructor
  · intro h s hs hy
    have := h s hs
    rw [bt_and, bt_not x hs, hy] at this
    cases q : bt x s
    · rw [q] at this; cases this
    · rfl
  · intro h s hs
    rw [bt_and, bt_not x hs]
    cases q : bt y s
    · rfl
    · rw [h s hs q]; rfl
theorem sub2 {x y z : Int64} : ((y &&& (x ^^^ (-1))) &&& (z ^^^ (-1)) = 0) ↔ ∀ s, s < 64 → bt y s = true → bt x s = true ∨ bt z s = true := by
  rw [bt_z]
  constructor
  · intro h s hs hy
    have := h s hs
    rw [bt_and, bt_and, bt_not x hs, bt_not z hs, hy] at this
    cases q : bt x s
    · cases q2 : bt z s
      · rw [q, q2] at this; cases this
      · exact Or.inr rfl
    · exact Or.inl rfl
  · intro h s hs
    rw [bt_and, bt_and, bt_not x hs, bt_not z hs]
    cases q : bt y s
    · rfl
    · rcases h s hs q with z1 | z1 <;> rw [z1] <;> simp
theorem sub3 {x y z : Int64} : ((x &&& y) ||| (z &&& y) = y) ↔ ∀ s, s < 64 → bt y s = true → bt x s = true ∨ bt z s = true := by
  constructor
  · intro h s hs hy
    have := congrArg (fun w => bt w s) h
    simp only [bt_or, bt_and, hy] at this
    cases q : bt x s
    · cases q2 : bt z s
      · rw [q, q2] at this; cases this
      · exact Or.inr rfl
    · exact Or.inl rfl
  · intro h
    apply bt_ext
    intro s hs
    rw [bt_or, bt_and, bt_and]
    cases q : bt y s
    · simp
    · rcases h s hs q with z1 | z1 <;> rw [z1] <;> simp
def cvB (d : TD) (b : BD) (k : Nat) : Bool := decide (LL d k &&& mustN b = 0)
def onB (d : TD) (b : BD) (k : Nat) : Bool := cvB d b k && decide (must b &&& (LL d k ^^^ (-1)) = 0)
def prP (d : TD) (b : BD) : Prop := ∃ i j, i < NL d ∧ j < NL d ∧ cvB d b i = true ∧ cvB d b j = true ∧ ∀ s, s < 64 → bt (must b) s = true → bt (LL d i) s = true ∨ bt (LL d j) s = true
def belR (d : TD) (b : BD) (r : Int) : Prop := (must b = 0 → r = 0) ∧ (must b ≠ 0 → (anyN (NL d) (onB d b) = true → r = 1) ∧ (anyN (NL d) (onB d b) = false → (prP d b → r = 2) ∧ (¬ prP d b → r = -1)))
theorem belR_u {d : TD} {b : BD} {r r' : Int} (h : belR d b r) (h' : belR d b r') : r = r' := by
  by_cases c : must b = 0
  · rw [h.1 c, h'.1 c]
  · have k := h.2 c
    have k' := h'.2 c
    cases q : anyN (NL d) (onB d b)
    · by_cases p : prP d b
      · rw [(k.2 q).1 p, (k'.2 q).1 p]
      · rw [(k.2 q).2 p, (k'.2 q).2 p]
    · rw [k.1 q, k'.1 q]
theorem q_Ls_spare {A : Nat → Nat} {σ : AM} (H : LC A σ) (m : VM) : M_Ls_spare (A 17) (ov 68 A m σ) = some (A 24, (ov 68 A m σ)) := by
  unfold M_Ls_spare
  rw [E_Ls_spare_0]; simp (disch := omega) only [cK_17 H, cR_17_7 H, cK_24 H, cN_24 H, letT_eq, gd_true, bnd_some, aR_ov, aK_ov, aN_ov, okO_ov, aI_ov H.1, aL_ov H.1, sI_ov H.1, sL_ov H.1, sV_eq, sV_ne, sV_2, sW_eq, sW_ne, sW_1, iI_add, iI_sub, iI_mul, iI_neg, iI_lt, iI_eq, iI_cl, nI_iI, gd_in, bZ_0, bZ_1, bZ_eq, isB_bZ, isB_0, isB_1, nar_bZ, nar_0, nar_1, mw_ov, iI_s, iI_na, iI_nm, Int.toNat_natCast, Int.add_zero, Int.zero_add, Nat.reduceEqDiff, Nat.reduceAdd, Int.reduceAdd, Int.reduceNeg, Int.reduceSub, Int.reduceMul, Int.reduceLT, Int.reduceEq, Int.reduceToNat, reduceCtorEq, ↓reduceIte]
theorem q_Db_isCovered {A : Nat → Nat} {σ : AM} (H : LC A σ) {m : VM} {d : TD} (hd : wfD d) (hD : LD d A σ) (hT : CTw d m) {K : List Nat} (hK : Row (m.1 24) K) (hk : ∀ i, i < K.length → K.getD i 0 < NL d) (hl : K.length ≤ NL d) (x : Int64) : ∃ r : Bool, M_Db_isCovered (A 61) x (A 24) (iI (K.length : Int)) (ov 68 A m σ) = some (bZ r, (ov 68 A m σ)) ∧ (r = true ↔ ∃ i, i < K.length ∧ x &&& (LL d (K.getD i 0) ^^^ (-1)) = 0) := by
  have hN := NL_le d
  have hD1 := hD.1
  have hD2 := hD.2
  have h24 := H.2.2.2.2.2.2.1
  have h := up_loopI (fun k (_ : Unit) => L_Db_isCovered_1 (A 61) x (A 24) (iI (K.length : Int)) (iI (k : Int)) (ov 68 A m σ)) (fun k _ => ∀ i, i < k → ¬ x &&& (LL d (K.getD i 0) ^^^ (-1)) = 0) (fun y => ∃ r : Bool, y = some (bZ r, (ov 68 A m σ)) ∧ (r = true ↔ ∃ i, i < K.length ∧ x &&& (LL d (K.getD i 0) ^^^ (-1)) = 0)) K.length (fun k _ hk1 hI ih => by
    have e1 := hK k hk1
    have e2 := hk k hk1
    have e3 := q_Ls_at H hd hD hT e2
    show ∃ r : Bool, L_Db_isCovered_1 _ _ _ _ _ _ = _ ∧ _
    rw [E_Db_isCovered_1]
    simp (disch := omega) only [iI_lt, cK_61 H, cR_61_1 H, cK_17 H, cK_24 H, okO_ov, aR_ov, aN_ov, gd_true, gd_in, iI_cl, Int.toNat_natCast, aI_ov H.1, e1, e3, bnd_some, lgc0, l_0, l_1, iI_add]
    rw [if_pos (by omega)]
    by_cases c : x &&& (LL d (K.getD k 0) ^^^ (-1)) = 0
    · rw [if_pos c]
      exact ⟨true, rfl, fun _ => ⟨k, hk1, c⟩, fun _ => rfl⟩
    · rw [if_neg c]
      exact ih () fun i hi => by
        by_cases e : i = k
        · rw [e]; exact c
        · exact hI i (by omega)) (fun _ hI => by
    show ∃ r : Bool, L_Db_isCovered_1 _ _ _ _ _ _ = _ ∧ _
    refine ⟨false, ?_, fun z => (by cases z), fun ⟨i, hi, z⟩ => absurd z (hI i hi)⟩
    rw [E_Db_isCovered_1]
    simp (disch := omega) only [iI_lt, l_0]
    rw [if_neg (by omega)]
    rfl) 0 () (Nat.zero_le _) (fun i hi => absurd hi (Nat.not_lt_zero i))
  obtain ⟨r, e, q⟩ := h
  refine ⟨r, ?_, q⟩
  replace e : L_Db_isCovered_1 (A 61) x (A 24) (iI (K.length : Int)) (iI 0) (ov 68 A m σ) = _ := e
  unfold M_Db_isCovered
  rw [E_Db_isCovered_0]
  simp only [l_0]
  exact (congrArg (mw _) e).trans (mw_ov _ _ _ _ _ _)
theorem q_Db_hasPair {A : Nat → Nat} {σ : AM} (H : LC A σ) {m : VM} {d : TD} (hd : wfD d) (hD : LD d A σ) (hT : CTw d m) {K : List Nat} (hK : Row (m.1 24) K) (hk : ∀ i, i < K.length → K.getD i 0 < NL d) (hl : K.length ≤ NL d) (x : Int64) : ∃ r : Bool, M_Db_hasPair (A 61) x (A 24) (iI (K.length : Int)) (ov 68 A m σ) = some (bZ r, (ov 68 A m σ)) ∧ (r = true ↔ ∃ i j, i < j ∧ j < K.length ∧ (x &&& (LL d (K.getD i 0) ^^^ (-1))) &&& (LL d (K.getD j 0) ^^^ (-1)) = 0) := by
  have hN := NL_le d
  have hD1 := hD.1
  have hD2 := hD.2
  have h24 := H.2.2.2.2.2.2.1
  have h := up_loopI (fun k (_ : Unit) => L_Db_hasPair_1 (A 61) x (A 24) (iI (K.length : Int)) (iI (k : Int)) (ov 68 A m σ)) (fun k _ => ∀ i j, i < k → i < j → j < K.length → ¬ (x &&& (LL d (K.getD i 0) ^^^ (-1))) &&& (LL d (K.getD j 0) ^^^ (-1)) = 0) (fun y => ∃ r : Bool, y = some (bZ r, (ov 68 A m σ)) ∧ (r = true ↔ ∃ i j, i < j ∧ j < K.length ∧ (x &&& (LL d (K.getD i 0) ^^^ (-1))) &&& (LL d (K.getD j 0) ^^^ (-1)) = 0)) K.length (fun k _ hk1 hI ih => by
    have e1 := hK k hk1
    have e2 := hk k hk1
    have e3 := q_Ls_at H hd hD hT e2
    have inn := up_loopI (fun j (_ : Unit) => L_Db_hasPair_2 (A 61) x (A 24) (iI (K.length : Int)) (iI (k : Int)) (x &&& (LL d (K.getD k 0) ^^^ (-1))) (iI (j : Int)) (ov 68 A m σ)) (fun j _ => k < j ∧ ∀ i, k < i → i < j → ¬ (x &&& (LL d (K.getD k 0) ^^^ (-1))) &&& (LL d (K.getD i 0) ^^^ (-1)) = 0) (fun y => ∃ r : Bool, y = some (bZ r, (ov 68 A m σ)) ∧ (r = true ↔ ∃ i j, i < j ∧ j < K.length ∧ (x &&& (LL d (K.getD i 0) ^^^ (-1))) &&& (LL d (K.getD j 0) ^^^ (-1)) = 0)) K.length (fun j _ hj hJ ih2 => by
      have f1 := hK j hj
      have f2 := hk j hj
      have f3 := q_Ls_at H hd hD hT f2
      show ∃ r : Bool, L_Db_hasPair_2 _ _ _ _ _ _ _ _ = _ ∧ _
      rw [E_Db_hasPair_2]
      simp (disch := omega) only [iI_lt, cK_61 H, cR_61_1 H, cK_17 H, cK_24 H, okO_ov, aR_ov, aN_ov, gd_true, gd_in, iI_cl, Int.toNat_natCast, aI_ov H.1, f1, f3, bnd_some, lgc0, l_0, l_1, iI_add]
      rw [if_pos (by omega)]
      by_cases c : (x &&& (LL d (K.getD k 0) ^^^ (-1))) &&& (LL d (K.getD j 0) ^^^ (-1)) = 0
      · rw [if_pos c]
        exact ⟨true, rfl, fun _ => ⟨k, j, hJ.1, hj, c⟩, fun _ => rfl⟩
      · rw [if_neg c]
        exact ih2 () ⟨by omega, fun i h1 h2 => by
          by_cases e : i = j
          · rw [e]; exact c
          · exact hJ.2 i h1 (by omega)⟩) (fun _ hJ => by
      show ∃ r : Bool, L_Db_hasPair_2 _ _ _ _ _ _ _ _ = _ ∧ _
      rw [E_Db_hasPair_2]
      simp (disch := omega) only [iI_lt, l_1, iI_add]
      rw [if_neg (by omega)]
      exact ih () fun i j h1 h2 h3 => by
        by_cases e : i = k
        · subst e; exact hJ.2 j h2 h3
        · exact hI i j (by omega) h2 h3) (k + 1) () (by omega) ⟨by omega, fun i h1 h2 => by omega⟩
    show ∃ r : Bool, L_Db_hasPair_1 _ _ _ _ _ _ = _ ∧ _
    rw [E_Db_hasPair_1]
    simp (disch := omega) only [iI_lt, cK_61 H, cR_61_1 H, cK_17 H, cK_24 H, okO_ov, aR_ov, aN_ov, gd_true, gd_in, iI_cl, Int.toNat_natCast, aI_ov H.1, e1, e3, bnd_some, letT_eq, l_1, iI_add]
    rw [if_pos (by omega)]
    exact inn) (fun _ hI => by
    show ∃ r : Bool, L_Db_hasPair_1 _ _ _ _ _ _ = _ ∧ _
    refine ⟨false, ?_, fun z => (by cases z), fun ⟨i, j, h1, h2, z⟩ => absurd z (hI i j (by omega) h1 h2)⟩
    rw [E_Db_hasPair_1]
    simp (disch := omega) only [iI_lt, l_0]
    rw [if_neg (by omega)]
    rfl) 0 () (Nat.zero_le _) (fun i j hi => absurd hi (Nat.not_lt_zero i))
  obtain ⟨r, e, q⟩ := h
  refine ⟨r, ?_, q⟩
  replace e : L_Db_hasPair_1 (A 61) x (A 24) (iI (K.length : Int)) (iI 0) (ov 68 A m σ) = _ := e
  unfold M_Db_hasPair
  rw [E_Db_hasPair_0]
  simp only [l_0]
  exact (congrArg (mw _) e).trans (mw_ov _ _ _ _ _ _)
def belI (d : TD) (b : BD) (m0 : VM) (k : Nat) (K : List Nat) (m : VM) : Prop := Ks [0, 1, 2, 3, 4, 5] m0 m ∧ Row (m.1 24) K ∧ (∀ i, i < K.length → K.getD i 0 < NL d ∧ cvB d b (K.getD i 0) = true) ∧ K.length + k ≤ NL d ∧ (∀ i, k ≤ i → i < NL d → cvB d b i = true → ∃ j, j < K.length ∧ (LL d i &&& must b) &&& (LL d (K.getD j 0) ^^^ (-1)) = 0) ∧ ∀ i, k ≤ i → i < NL d → onB d b i = false
theorem Db_bells1 {A : Nat → Nat} {σ : AM} (H : LC A σ) {m0 : VM} {d : TD} {b : BD} (hd : wfD d) (hD : LD d A σ) (hT : CTw d m0) (h0 : must b ≠ 0) : ∀ k, k ≤ NL d → ∀ K m, belI d b m0 k K m → ∃ (r : Int) (m' : VM), L_Db_bellsNeeded_1 (A 61) (must b) (mustN b) (A 24) (iI (K.length : Int)) (iI ((k : Int) - 1)) (ov 68 A m σ) = some (iI r, (ov 68 A (m') σ)) ∧ belR d b r ∧ Ks [0, 1, 2, 3, 4, 5] m0 m' := by
  have hN := NL_le d
  have hD1 := hD.1
  have hD2 := hD.2
  have h24 := H.2.2.2.2.2.2.1
  intro k
  induction k with
  | zero =>
    intro _ K m hI
    obtain ⟨i1, i2, i3, i4, i5, i6⟩ := hI
    have hTm := CTw_K (i1 0 (by decide)) hT
    obtain ⟨r, e, q⟩ := q_Db_hasPair H hd hD hTm i2 (fun i hi => (i3 i hi).1) (by omega) (must b)
    have hno : anyN (NL d) (onB d b) = false := by
      cases z : anyN (NL d) (onB d b)
      · rfl
      · obtain ⟨i, hi, hz⟩ := anyN_iff.mp z
        rw [i6 i (Nat.zero_le _) hi] at hz; cases hz
    have hpr : r = true ↔ prP d b := by
      rw [q]
      constructor
      · rintro ⟨i, j, h1, h2, h3⟩
        exact ⟨_, _, (i3 i (by omega)).1, (i3 j h2).1, (i3 i (by omega)).2, (i3 j h2).2, sub2.mp h3⟩
      · rintro ⟨i, j, hi, hj, ci, cj, hs⟩
        obtain ⟨a, ha, ea⟩ := i5 i (Nat.zero_le _) hi ci
        obtain ⟨c, hc, ec⟩ := i5 j (Nat.zero_le _) hj cj
        have key : ∀ s, s < 64 → bt (must b) s = true → bt (LL d (K.getD a 0)) s = true ∨ bt (LL d (K.getD c 0)) s = true := by
          intro s hs1 hy
          rcases hs s hs1 hy with z | z
          · exact Or.inl (sub1.mp ea s hs1 (by rw [bt_and, z, hy]; rfl))
          · exact Or.inr (sub1.mp ec s hs1 (by rw [bt_and, z, hy]; rfl))
        have hne : a ≠ c := by
          intro e
          subst e
          have h1 : onB d b (K.getD a 0) = true := by
            unfold onB
            rw [(i3 a ha).2, decide_eq_true (sub1.mpr fun s h1 h2 => (key s h1 h2).elim id id)]; rfl
          rw [i6 _ (Nat.zero_le _) (i3 a ha).1] at h1; cases h1
        by_cases lt : a < c
        · exact ⟨a, c, lt, hc, sub2.mpr key⟩
        · exact ⟨c, a, by omega, ha, sub2.mpr fun s h1 h2 => (key s h1 h2).symm⟩
    refine ⟨if r = true then 2 else -1, m, ?_, ⟨fun z => absurd z h0, fun _ => ⟨fun z => (by rw [hno] at z; cases z), fun _ => ⟨fun p => if_pos (hpr.mpr p), fun p => if_neg (fun z => p (hpr.mp z))⟩⟩⟩, i1⟩
    rw [E_Db_bellsNeeded_1]
    cases r
    · simp (disch := omega) only [E_Db_bellsNeeded_3, l_0, l_1, l_2, iI_neg, iI_lt, cK_61 H, okO_ov, gd_true, e, bnd_some, bZ_0, Int.reduceSub, Int.reduceLT, ↓reduceIte]
      rfl
    · simp (disch := omega) only [E_Db_bellsNeeded_3, l_0, l_1, l_2, iI_neg, iI_lt, cK_61 H, okO_ov, gd_true, e, bnd_some, bZ_0, Int.reduceSub, Int.reduceLT, ↓reduceIte, reduceCtorEq]
      rfl
  | succ k ih =>
    intro hk K m hI
    obtain ⟨i1, i2, i3, i4, i5, i6⟩ := hI
    have hTm := CTw_K (i1 0 (by decide)) hT
    have e0 : ((k + 1 : Nat) : Int) - 1 = (k : Int) := by omega
    have e1 : (k : Int) + -1 = (k : Int) - 1 := by omega
    have hat := q_Ls_at H hd hD hTm (k := k) (by omega)
    rw [e0, E_Db_bellsNeeded_1]
    simp (disch := omega) only [E_Db_bellsNeeded_2, l_0, l_1, iI_neg, iI_lt, cK_61 H, cR_61_1 H, cK_17 H, okO_ov, aR_ov, gd_true, hat, bnd_some, lgc0, iI_add, e1]
    rw [if_neg (show ¬ (k : Int) < 0 by omega)]
    by_cases c1 : LL d k &&& mustN b = 0
    · rw [if_pos c1]
      have hcv : cvB d b k = true := decide_eq_true c1
      by_cases c2 : must b &&& (LL d k ^^^ (-1)) = 0
      · rw [if_pos c2]
        have hon : onB d b k = true := by unfold onB; rw [hcv, decide_eq_true c2]; rfl
        have hany : anyN (NL d) (onB d b) = true := anyN_iff.mpr ⟨k, by omega, hon⟩
        exact ⟨1, m, rfl, ⟨fun z => absurd z h0, fun _ => ⟨fun _ => rfl, fun z => by rw [hany] at z; cases z⟩⟩, i1⟩
      · rw [if_neg c2]
        have hnon : onB d b k = false := by unfold onB; rw [decide_eq_false c2, Bool.and_false]
        obtain ⟨r, e, q⟩ := q_Db_isCovered H hd hD hTm i2 (fun i hi => (i3 i hi).1) (by omega) (LL d k &&& must b)
        have nxt6 : ∀ i, k ≤ i → i < NL d → onB d b i = false := fun i h1 h2 => by
          by_cases z : i = k
          · rw [z]; exact hnon
          · exact i6 i (by omega) h2
        rw [e]
        cases r
        · simp (disch := omega) only [bnd_some, bZ_0, ↓reduceIte, cK_24 H, okO_ov, aN_ov, gd_true, gd_in, iI_cl, Int.toNat_natCast, sI_ov H.1, letT_eq, iI_add]
          have hnew : belI d b m0 k (K ++ [k]) (sV m 24 K.length (iI (k : Int))) := by
            refine ⟨Ks_A i1 _ _ (by decide), Row_app i2 (fun i => by rw [sV_eq]), fun i hi => ?_, ?_, fun i h1 h2 h3 => ?_, nxt6⟩
            · rw [List.length_append, List.length_singleton] at hi
              by_cases z : i = K.length
              · rw [z, getD_app2]; exact ⟨by omega, hcv⟩
              · rw [getD_app1 _ _ _ (by omega)]; exact i3 i (by omega)
            · rw [List.length_append, List.length_singleton]; omega
            · by_cases z : i = k
              · refine ⟨K.length, by rw [List.length_append, List.length_singleton]; omega, ?_⟩
                rw [getD_app2, z]
                exact sub1.mpr fun s h1 h2 => by
                  rw [bt_and, Bool.and_eq_true] at h2
                  exact h2.1
              · obtain ⟨j, hj, ej⟩ := i5 i (by omega) h2 h3
                exact ⟨j, by rw [List.length_append, List.length_singleton]; omega, by rw [getD_app1 _ _ _ hj]; exact ej⟩
          have := ih (by omega) _ _ hnew
          rw [List.length_append, List.length_singleton] at this
          exact this
        · simp (disch := omega) only [bnd_some, bZ_0, reduceCtorEq, ↓reduceIte]
          refine ih (by omega) K m ⟨i1, i2, i3, by omega, fun i h1 h2 h3 => ?_, nxt6⟩
          by_cases z : i = k
          · rw [z]; exact q.mp rfl
          · exact i5 i (by omega) h2 h3
    · rw [if_neg c1]
      have hcv : cvB d b k = false := decide_eq_false c1
      refine ih (by omega) K m ⟨i1, i2, i3, by omega, fun i h1 h2 h3 => ?_, fun i h1 h2 => ?_⟩
      · by_cases z : i = k
        · rw [z, hcv] at h3; cases h3
        · exact i5 i (by omega) h2 h3
      · by_cases z : i = k
        · rw [z]; unfold onB; rw [hcv]; rfl
        · exact i6 i (by omega) h2
theorem c_bells {d : TD} {b : BD} {g z u : Nat} {A : Nat → Nat} {σ : AM} {m : VM} (C : CS0 d b g z u A σ m) : ∃ (r : Int) (m' : VM), M_Bp_bells (A 0) (ov 68 A m σ) = some (iI r, (ov 68 A (m') σ)) ∧ belR d b r ∧ Ks [0, 1, 2, 3, 4, 5] m m' := by
  obtain ⟨H, hd, hD, _, hT, hb, hB, _⟩ := C
  have hN := NL_le d
  have hW := hd.2.2.2.2.2.2
  have t1 : M_Bk_setsTold (A 27) (iI 1) (iI 0) (ov 68 A m σ) = some (must b, (ov 68 A m σ)) := q_Bk_setsTold H hb hB true (lag := 0) (by omega)
  have t2 : M_Bk_setsTold (A 27) (iI 0) (iI 0) (ov 68 A m σ) = some (mustN b, (ov 68 A m σ)) := q_Bk_setsTold H hb hB false (lag := 0) (by omega)
  have hbn : ∃ (r : Int) (m' : VM), M_Db_bellsNeeded (A 61) (ov 68 A m σ) = some (iI r, (ov 68 A (m') σ)) ∧ belR d b r ∧ Ks [0, 1, 2, 3, 4, 5] m m' := by
    unfold M_Db_bellsNeeded
    by_cases h0 : must b = 0
    · refine ⟨0, m, ?_, ⟨fun _ => rfl, fun z => absurd h0 z⟩, Ks_r _ _⟩
      rw [E_Db_bellsNeeded_0]; simp (disch := omega) only [l_0, l_1, cK_61 H, cR_61_1 H, cK_17 H, cR_61_2 H, cK_27 H, q_Ls_size H, letT_eq, gd_true, bnd_some, aR_ov, aK_ov, aN_ov, okO_ov, aI_ov H.1, aL_ov H.1, sI_ov H.1, sL_ov H.1, sV_eq, sV_ne, sV_2, sW_eq, sW_ne, sW_1, iI_add, iI_sub, iI_mul, iI_neg, iI_lt, iI_eq, iI_cl, nI_iI, gd_in, bZ_0, bZ_1, bZ_eq, isB_bZ, isB_0, isB_1, nar_bZ, nar_0, nar_1, mw_ov, iI_s, iI_na, iI_nm, Int.toNat_natCast, Int.add_zero, Int.zero_add, Nat.reduceEqDiff, Nat.reduceAdd, Int.reduceAdd, Int.reduceNeg, Int.reduceSub, Int.reduceMul, Int.reduceLT, Int.reduceEq, Int.reduceToNat, reduceCtorEq, ↓reduceIte, t1, t2, lgc0]
      rw [if_pos h0, mw_ov]
    · obtain ⟨r, m', e, q, k⟩ := Db_bells1 H hd hD hT h0 (NL d) (Nat.le_refl _) [] m ⟨Ks_r _ _, Row_nil _, fun i hi => absurd hi (Nat.not_lt_zero i), by show 0 + NL d ≤ NL d; omega, fun i h1 h2 => by omega, fun i h1 h2 => by omega⟩
      refine ⟨r, m', ?_, q, k⟩
      replace e : L_Db_bellsNeeded_1 (A 61) (must b) (mustN b) (A 24) (iI 0) (iI ((NL d : Int) - 1)) (ov 68 A m σ) = _ := e
      rw [E_Db_bellsNeeded_0]; simp (disch := omega) only [l_0, l_1, cK_61 H, cR_61_1 H, cK_17 H, cR_61_2 H, cK_27 H, q_Ls_size H, letT_eq, gd_true, bnd_some, aR_ov, aK_ov, aN_ov, okO_ov, aI_ov H.1, aL_ov H.1, sI_ov H.1, sL_ov H.1, sV_eq, sV_ne, sV_2, sW_eq, sW_ne, sW_1, iI_add, iI_sub, iI_mul, iI_neg, iI_lt, iI_eq, iI_cl, nI_iI, gd_in, bZ_0, bZ_1, bZ_eq, isB_bZ, isB_0, isB_1, nar_bZ, nar_0, nar_1, mw_ov, iI_s, iI_na, iI_nm, Int.toNat_natCast, Int.add_zero, Int.zero_add, Nat.reduceEqDiff, Nat.reduceAdd, Int.reduceAdd, Int.reduceNeg, Int.reduceSub, Int.reduceMul, Int.reduceLT, Int.reduceEq, Int.reduceToNat, reduceCtorEq, ↓reduceIte, t1, t2, lgc0, q_Ls_spare H, hT.1.2.2.2.2.1]
      rw [if_neg h0]
      exact (congrArg (mw _) e).trans (mw_ov _ _ _ _ _ _)
  obtain ⟨r, m', e, q, k⟩ := hbn
  refine ⟨r, m', ?_, q, k⟩
  unfold M_Bp_bells
  rw [E_Bp_bells_0]; simp (disch := omega) only [cK_0 H, cR_0_8 H, cK_61 H, letT_eq, gd_true, bnd_some, aR_ov, aK_ov, aN_ov, okO_ov, aI_ov H.1, aL_ov H.1, sI_ov H.1, sL_ov H.1, sV_eq, sV_ne, sV_2, sW_eq, sW_ne, sW_1, iI_add, iI_sub, iI_mul, iI_neg, iI_lt, iI_eq, iI_cl, nI_iI, gd_in, bZ_0, bZ_1, bZ_eq, isB_bZ, isB_0, isB_1, nar_bZ, nar_0, nar_1, mw_ov, iI_s, iI_na, iI_nm, Int.toNat_natCast, Int.add_zero, Int.zero_add, Nat.reduceEqDiff, Nat.reduceAdd, Int.reduceAdd, Int.reduceNeg, Int.reduceSub, Int.reduceMul, Int.reduceLT, Int.reduceEq, Int.reduceToNat, reduceCtorEq, ↓reduceIte, e]
