/-! ===== what to lay on next: the reference ===== -/
def OnN (m m' : VM) : Prop := (∀ c, c ≠ 27 → c ≠ 28 → m'.1 c = m.1 c) ∧ m'.2 = m.2
theorem OnN_r (m : VM) : OnN m m := ⟨fun _ _ _ => rfl, rfl⟩
theorem OnN_V {m m' : VM} (h : OnN m m') {c : Nat} (j : Nat) (v : Int32) (hc : c = 27 ∨ c = 28) : OnN m (sV m' c j v) := ⟨fun q h1 h2 => by rw [sV_ne _ _ _ _ (by omega)]; exact h.1 q h1 h2, h.2⟩
theorem OnN_KM {m m' : VM} (h : OnN m m') : KM m m' := ⟨fun j _ => by rw [h.1 0 (by decide) (by decide)], fun c hc => h.1 c (fun e => by subst e; revert hc; decide) (fun e => by subst e; revert hc; decide), fun c _ => by rw [h.2]⟩
theorem bitJ (x : Int64) {s : Nat} (h : s < 64) : ((x >>> ((iI (s : Int)).toInt64 &&& 63)) &&& 1).toInt32 = iI ((if bt x s = true then 1 else 0 : Nat) : Int) := by
  have e := and1 (x >>> ((iI (s : Int)).toInt64 &&& 63))
  rw [bt_sshr0 x h] at e
  rw [e]
  by_cases q : bt x s = true
  · rw [if_pos q, if_pos q]; rfl
  · rw [if_neg q, if_neg q]; rfl
/-- the counts of a list in the rows -/
def cnE (d : TD) (l : List Nat) (m : VM) : Prop := ∀ j, j < sN d → m.1 27 j = iI (cL d l j : Int) ∧ m.1 28 j = iI (cW d l j : Int)
def cnS (d : TD) (l : List Nat) (k s : Nat) (m : VM) : Prop := ∀ j, j < sN d → m.1 27 j = iI (cL d (l.take (if j < s then k + 1 else k)) j : Int) ∧ m.1 28 j = iI (cW d (l.take (if j < s then k + 1 else k)) j : Int)
theorem Md_nx3 {d : TD} {A : Nat → Nat} {σ : AM} (H : LM A σ) (hd : wfD d) {m0 : VM} (hT : MT d m0) {l : List Nat} (hl : wl d l) {a : Nat} (ha : a + l.length ≤ 16384) (hs : Seg (m0.1 26) a l) (way fr to : Int32) (k : Nat) (hk : k < l.length) (m : VM) (hI : OnN m0 m ∧ cnE d (l.take k) m) : ∃ m' : VM, (OnN m0 m' ∧ cnE d (l.take (k + 1)) m') ∧ L_Md_nextOf_3 (A 0) way fr to (iI ((a + k : Nat) : Int)) (LL d (l.getD k 0)) (iI 0) (ov 40 A m σ) = L_Md_nextOf_2 (A 0) way fr to (iI ((a + k + 1 : Nat) : Int)) (ov 40 A (m') σ) := by
  have hS := sN_le hd
  have hW := hd.2.2.2.2.2.2
  have hNL := NL_le d
  have hx := hl.2 _ (gd_mem hk)
  refine up_loopI (fun s m1 => L_Md_nextOf_3 (A 0) way fr to (iI ((a + k : Nat) : Int)) (LL d (l.getD k 0)) (iI (s : Int)) (ov 40 A m1 σ)) (fun s m1 => OnN m0 m1 ∧ cnS d l k s m1) (fun X => ∃ m' : VM, (OnN m0 m' ∧ cnE d (l.take (k + 1)) m') ∧ X = L_Md_nextOf_2 (A 0) way fr to (iI ((a + k + 1 : Nat) : Int)) (ov 40 A (m') σ)) (sN d) (fun s m1 hs1 ⟨i1, i2⟩ ih => ?_) (fun m1 ⟨i1, i2⟩ => ?_) 0 m (Nat.zero_le _) ⟨hI.1, fun j hj => by rw [if_neg (Nat.not_lt_zero j)]; exact hI.2 j hj⟩
  · have hT1 := MT_K (OnN_KM i1) hT
    have h26 : m1.1 26 (a + k) = iI (l.getD k 0 : Int) := by rw [i1.1 26 (by decide) (by decide)]; exact hs k hk
    have h15 : m1.1 15 (l.getD k 0) = iI (sh d (l.getD k 0) : Int) := hT1.2.2.2.2.1 _ hx
    have h2 := i2 s hs1
    rw [if_neg (Nat.lt_irrefl s)] at h2
    obtain ⟨h27, h28⟩ := h2
    have eb := bitJ (LL d (l.getD k 0)) (s := s) (by omega)
    have er := q_Md_doesRing (LL d (l.getD k 0)) (s := s) (by omega)
    have hset : ∀ m', M_Md_sets (A 0) (ov 40 A (m') σ) = some (iI ((sN d : Nat) : Int), (ov 40 A (m') σ)) → True := fun _ _ => trivial
    show ∃ m' : VM, (OnN m0 m' ∧ cnE d (l.take (k + 1)) m') ∧ L_Md_nextOf_3 _ _ _ _ _ _ _ _ = _
    have key : L_Md_nextOf_3 (A 0) way fr to (iI ((a + k : Nat) : Int)) (LL d (l.getD k 0)) (iI (s : Int)) (ov 40 A m1 σ) = L_Md_nextOf_3 (A 0) way fr to (iI ((a + k : Nat) : Int)) (LL d (l.getD k 0)) (iI ((s + 1 : Nat) : Int)) (ov 40 A (sV (sV m1 27 s (iI (cL d (l.take (k + 1)) s : Int))) 28 s (iI (cW d (l.take (k + 1)) s : Int))) σ) := by
      rw [cL_s hk, cW_s hk]
      cases q : bt (LL d (l.getD k 0)) s
      · rw [q] at eb er
        replace eb : _ = iI 0 := eb
        rw [if_neg (by simp), if_neg (by simp)]
        rw [E_Md_nextOf_3]; simp (disch := omega) only [E_Md_nextOf_4, l_0, l_1, mK_0 H, mR_31 H, mK_15 H, mN_15 H, mR_48 H, mK_26 H, mN_26 H, mR_52 H, mK_27 H, mN_27 H, mR_53 H, mK_28 H, mN_28 H, letT_eq, gd_true, bnd_some, aR_ov, aK_ov, aN_ov, okO_ov, aI_ov H.1, aL_ov H.1, sI_ov H.1, sL_ov H.1, sV_eq, sV_ne, sV_2, sW_eq, sW_ne, sW_1, iI_add, iI_sub, iI_mul, iI_neg, iI_lt, iI_eq, iI_cl, nI_iI, gd_in, bZ_0, bZ_1, bZ_eq, isB_bZ, isB_0, isB_1, nar_bZ, nar_0, nar_1, mw_ov, iI_s, iI_na, iI_nm, Int.toNat_natCast, Int.add_zero, Int.zero_add, Nat.reduceEqDiff, Nat.reduceAdd, Int.reduceAdd, Int.reduceNeg, Int.reduceSub, Int.reduceMul, Int.reduceLT, Int.reduceEq, Int.reduceToNat, reduceCtorEq, ↓reduceIte, q_Md_sets H hd hT1, h27, h28, eb, er]
        rw [if_pos (by omega)]
        rfl
      · rw [q] at eb er
        replace eb : _ = iI 1 := eb
        rw [if_pos rfl, if_pos rfl]
        rw [E_Md_nextOf_3]; simp (disch := omega) only [E_Md_nextOf_4, l_0, l_1, mK_0 H, mR_31 H, mK_15 H, mN_15 H, mR_48 H, mK_26 H, mN_26 H, mR_52 H, mK_27 H, mN_27 H, mR_53 H, mK_28 H, mN_28 H, letT_eq, gd_true, bnd_some, aR_ov, aK_ov, aN_ov, okO_ov, aI_ov H.1, aL_ov H.1, sI_ov H.1, sL_ov H.1, sV_eq, sV_ne, sV_2, sW_eq, sW_ne, sW_1, iI_add, iI_sub, iI_mul, iI_neg, iI_lt, iI_eq, iI_cl, nI_iI, gd_in, bZ_0, bZ_1, bZ_eq, isB_bZ, isB_0, isB_1, nar_bZ, nar_0, nar_1, mw_ov, iI_s, iI_na, iI_nm, Int.toNat_natCast, Int.add_zero, Int.zero_add, Nat.reduceEqDiff, Nat.reduceAdd, Int.reduceAdd, Int.reduceNeg, Int.reduceSub, Int.reduceMul, Int.reduceLT, Int.reduceEq, Int.reduceToNat, reduceCtorEq, ↓reduceIte, q_Md_sets H hd hT1, h27, h28, eb, er, h26, h15]
        rw [if_pos (by omega)]
    rw [key]
    refine ih _ ⟨OnN_V (OnN_V i1 _ _ (Or.inl rfl)) _ _ (Or.inr rfl), fun j hj => ?_⟩
    have i2j := i2 j hj
    by_cases e : j = s
    · subst e
      rw [if_pos (Nat.lt_succ_self j)]
      constructor
      · rw [sV_ne _ _ _ _ (by decide), sV_eq, if_pos rfl]
      · rw [sV_eq, if_pos rfl]
    · have e2 : (if j < s + 1 then k + 1 else k) = (if j < s then k + 1 else k) := by
        by_cases c : j < s
        · rw [if_pos c, if_pos (by omega)]
        · rw [if_neg c, if_neg (by omega)]
      rw [e2]
      constructor
      · rw [sV_ne _ _ _ _ (by decide), sV_eq, if_neg e]; exact i2j.1
      · rw [sV_eq, if_neg e, sV_ne _ _ _ _ (by decide)]; exact i2j.2
  · have hT1 := MT_K (OnN_KM i1) hT
    refine ⟨m1, ⟨i1, fun j hj => ?_⟩, ?_⟩
    · have := i2 j hj
      rw [if_pos hj] at this
      exact this
    · show L_Md_nextOf_3 _ _ _ _ _ _ _ _ = _
      rw [E_Md_nextOf_3]
      simp (disch := omega) only [mK_0 H, okO_ov, gd_true, bnd_some, q_Md_sets H hd hT1, iI_lt, l_1, iI_add]
      rw [if_neg (by omega)]
      rfl
theorem Md_ib5 {a c : Nat} (h1 : a < 2147483648) (h2 : c < 2147483648) (σ : AM) : L_Md_isBetter_5 (iI (a : Int)) (iI (c : Int)) σ = some (bZ (decide (a < c)), σ) := by
  rw [E_Md_isBetter_5]; simp (disch := omega) only [E_Md_isBetter_6, l_0, l_1, letT_eq, gd_true, bnd_some, iI_add, iI_sub, iI_mul, iI_neg, iI_lt, iI_eq, iI_cl, nI_iI, gd_in, bZ_0, bZ_1, bZ_eq, isB_bZ, isB_0, isB_1, nar_bZ, nar_0, nar_1, iI_s, iI_na, iI_nm, Int.toNat_natCast, Int.add_zero, Int.zero_add, Nat.reduceEqDiff, Nat.reduceAdd, Int.reduceAdd, Int.reduceNeg, Int.reduceSub, Int.reduceMul, Int.reduceLT, Int.reduceEq, Int.reduceToNat, reduceCtorEq, ↓reduceIte]
  by_cases q : a < c
  · rw [if_pos (by omega), decide_eq_true q]; rfl
  · rw [if_neg (by omega), decide_eq_false q]; rfl
theorem Md_ib2 {d : TD} {A : Nat → Nat} {σ : AM} (H : LM A σ) (hd : wfD d) {m : VM} (hT : MT d m) {l : List Nat} (hl : wl d l) (hc : cnE d l m) {way : Nat} (hw : way ≤ 2) {s t : Nat} (hs : s < sN d) (ht : t < sN d) : L_Md_isBetter_2 (A 0) (iI (way : Int)) (iI (s : Int)) (iI (t : Int)) (iI (hlf d l s : Int)) (iI (hlf d l t : Int)) (ov 40 A m σ) = some (bZ (btr d way l s t), (ov 40 A m σ)) := by
  have hS := sN_le hd
  have hW := hd.2.2.2.2.2.2
  have hNL := NL_le d
  have hll := wl_len hl
  have b1 := cW_le hd hl s
  have b2 := cW_le hd hl t
  have c1 := cL_le d l s
  have c2 := cL_le d l t
  have e1 : hlf d l s ≤ 16384 := by unfold hlf; split <;> omega
  have e2 : hlf d l t ≤ 16384 := by unfold hlf; split <;> omega
  obtain ⟨s27, s28⟩ := hc s hs
  obtain ⟨t27, t28⟩ := hc t ht
  have s20 := hT.2.2.2.2.2 s hs
  have t20 := hT.2.2.2.2.2 t ht
  have h5 := Md_ib5 (a := hlf d l s) (c := hlf d l t) (by omega) (by omega) (ov 40 A m σ)
  unfold btr
  by_cases w1 : way = 1
  · rw [if_pos w1]
    rw [E_Md_isBetter_2]; simp (disch := omega) only [l_0, l_1, l_2, mK_0 H, mR_36 H, mK_20 H, mN_20 H, mR_53 H, mK_28 H, mN_28 H, letT_eq, gd_true, bnd_some, aR_ov, aK_ov, aN_ov, okO_ov, aI_ov H.1, aL_ov H.1, sI_ov H.1, sL_ov H.1, sV_eq, sV_ne, sV_2, sW_eq, sW_ne, sW_1, iI_add, iI_sub, iI_mul, iI_neg, iI_lt, iI_eq, iI_cl, nI_iI, gd_in, bZ_0, bZ_1, bZ_eq, isB_bZ, isB_0, isB_1, nar_bZ, nar_0, nar_1, mw_ov, iI_s, iI_na, iI_nm, Int.toNat_natCast, Int.add_zero, Int.zero_add, Nat.reduceEqDiff, Nat.reduceAdd, Int.reduceAdd, Int.reduceNeg, Int.reduceSub, Int.reduceMul, Int.reduceLT, Int.reduceEq, Int.reduceToNat, reduceCtorEq, ↓reduceIte, s28, t28, E_Md_isBetter_3]
    rw [if_pos (by omega)]
    by_cases q : cW d l s < cW d l t
    · rw [if_pos (by omega), decide_eq_true q]; rfl
    · rw [if_neg (by omega), decide_eq_false q]; rfl
  · rw [if_neg w1]
    by_cases w2 : way = 2
    · rw [E_Md_isBetter_2]; simp (disch := omega) only [l_0, l_1, l_2, mK_0 H, mR_36 H, mK_20 H, mN_20 H, mR_53 H, mK_28 H, mN_28 H, letT_eq, gd_true, bnd_some, aR_ov, aK_ov, aN_ov, okO_ov, aI_ov H.1, aL_ov H.1, sI_ov H.1, sL_ov H.1, sV_eq, sV_ne, sV_2, sW_eq, sW_ne, sW_1, iI_add, iI_sub, iI_mul, iI_neg, iI_lt, iI_eq, iI_cl, nI_iI, gd_in, bZ_0, bZ_1, bZ_eq, isB_bZ, isB_0, isB_1, nar_bZ, nar_0, nar_1, mw_ov, iI_s, iI_na, iI_nm, Int.toNat_natCast, Int.add_zero, Int.zero_add, Nat.reduceEqDiff, Nat.reduceAdd, Int.reduceAdd, Int.reduceNeg, Int.reduceSub, Int.reduceMul, Int.reduceLT, Int.reduceEq, Int.reduceToNat, reduceCtorEq, ↓reduceIte, s20, t20, E_Md_isBetter_4, h5]
      rw [if_neg (by omega), if_pos (by omega)]
      by_cases q : dCo d s = dCo d t
      · rw [if_pos q, if_neg (fun z => z.2 q)]
      · rw [if_neg q, if_pos (show way = 2 ∧ dCo d s ≠ dCo d t from ⟨w2, q⟩)]
        by_cases q2 : dCo d s < dCo d t
        · rw [if_pos q2, decide_eq_true q2]; rfl
        · rw [if_neg q2, decide_eq_false q2]; rfl
    · rw [E_Md_isBetter_2]; simp (disch := omega) only [l_0, l_1, l_2, mK_0 H, mR_36 H, mK_20 H, mN_20 H, mR_53 H, mK_28 H, mN_28 H, letT_eq, gd_true, bnd_some, aR_ov, aK_ov, aN_ov, okO_ov, aI_ov H.1, aL_ov H.1, sI_ov H.1, sL_ov H.1, sV_eq, sV_ne, sV_2, sW_eq, sW_ne, sW_1, iI_add, iI_sub, iI_mul, iI_neg, iI_lt, iI_eq, iI_cl, nI_iI, gd_in, bZ_0, bZ_1, bZ_eq, isB_bZ, isB_0, isB_1, nar_bZ, nar_0, nar_1, mw_ov, iI_s, iI_na, iI_nm, Int.toNat_natCast, Int.add_zero, Int.zero_add, Nat.reduceEqDiff, Nat.reduceAdd, Int.reduceAdd, Int.reduceNeg, Int.reduceSub, Int.reduceMul, Int.reduceLT, Int.reduceEq, Int.reduceToNat, reduceCtorEq, ↓reduceIte, h5]
      rw [if_neg (by omega), if_neg (by omega), if_neg (fun z => w2 z.1)]
theorem q_Md_isBetter {d : TD} {A : Nat → Nat} {σ : AM} (H : LM A σ) (hd : wfD d) {m : VM} (hT : MT d m) {l : List Nat} (hl : wl d l) (hc : cnE d l m) {way : Nat} (hw : way ≤ 2) {s : Nat} (hs : s < sN d) {t : Int} (ht : -1 ≤ t) (ht2 : t < (sN d : Int)) : M_Md_isBetter (A 0) (iI (way : Int)) (iI (s : Int)) (iI t) (iI (l.length : Int)) (ov 40 A m σ) = some (bZ (decide (t < 0 ∨ btr d way l s t.toNat = true)), (ov 40 A m σ)) := by
  have hS := sN_le hd
  have hW := hd.2.2.2.2.2.2
  have hNL := NL_le d
  have hll := wl_len hl
  unfold M_Md_isBetter
  by_cases q : t < 0
  · rw [E_Md_isBetter_0]
    simp (disch := omega) only [l_0, l_1, iI_lt]
    rw [if_pos q, mw_ov, decide_eq_true (Or.inl q)]; rfl
  · obtain ⟨n, rfl⟩ := Int.eq_ofNat_of_zero_le (by omega : 0 ≤ t)
    have hn : n < sN d := by omega
    obtain ⟨s27, s28⟩ := hc s hs
    obtain ⟨t27, t28⟩ := hc n hn
    have c1 := cL_le d l s
    have c2 := cL_le d l n
    have e1 : (l.length : Int) - (cL d l s : Int) = ((l.length - cL d l s : Nat) : Int) := by omega
    have e2 : (l.length : Int) - (cL d l n : Int) = ((l.length - cL d l n : Nat) : Int) := by omega
    have k2 := Md_ib2 H hd hT hl hc hw hs hn
    have k1 : L_Md_isBetter_1 (A 0) (iI (way : Int)) (iI (s : Int)) (iI (n : Int)) (iI (l.length : Int)) (iI (hlf d l s : Int)) (ov 40 A m σ) = some (bZ (btr d way l s n), (ov 40 A m σ)) := by
      rw [E_Md_isBetter_1]; simp (disch := omega) only [mK_0 H, mR_52 H, mK_27 H, mN_27 H, letT_eq, gd_true, bnd_some, aR_ov, aK_ov, aN_ov, okO_ov, aI_ov H.1, aL_ov H.1, sI_ov H.1, sL_ov H.1, sV_eq, sV_ne, sV_2, sW_eq, sW_ne, sW_1, iI_add, iI_sub, iI_mul, iI_neg, iI_lt, iI_eq, iI_cl, nI_iI, gd_in, bZ_0, bZ_1, bZ_eq, isB_bZ, isB_0, isB_1, nar_bZ, nar_0, nar_1, mw_ov, iI_s, iI_na, iI_nm, Int.toNat_natCast, Int.add_zero, Int.zero_add, Nat.reduceEqDiff, Nat.reduceAdd, Int.reduceAdd, Int.reduceNeg, Int.reduceSub, Int.reduceMul, Int.reduceLT, Int.reduceEq, Int.reduceToNat, reduceCtorEq, ↓reduceIte, t27, e2]
      by_cases z : l.length - cL d l n < cL d l n
      · rw [if_pos (by omega)]
        have : hlf d l n = cL d l n := if_pos z
        rw [this] at k2; exact k2
      · rw [if_neg (by omega)]
        have : hlf d l n = l.length - cL d l n := if_neg z
        rw [this] at k2; exact k2
    have k0 : L_Md_isBetter_0 (A 0) (iI (way : Int)) (iI (s : Int)) (iI (n : Int)) (iI (l.length : Int)) (ov 40 A m σ) = some (bZ (btr d way l s n), (ov 40 A m σ)) := by
      rw [E_Md_isBetter_0]; simp (disch := omega) only [l_0, l_1, mK_0 H, mR_52 H, mK_27 H, mN_27 H, letT_eq, gd_true, bnd_some, aR_ov, aK_ov, aN_ov, okO_ov, aI_ov H.1, aL_ov H.1, sI_ov H.1, sL_ov H.1, sV_eq, sV_ne, sV_2, sW_eq, sW_ne, sW_1, iI_add, iI_sub, iI_mul, iI_neg, iI_lt, iI_eq, iI_cl, nI_iI, gd_in, bZ_0, bZ_1, bZ_eq, isB_bZ, isB_0, isB_1, nar_bZ, nar_0, nar_1, mw_ov, iI_s, iI_na, iI_nm, Int.toNat_natCast, Int.add_zero, Int.zero_add, Nat.reduceEqDiff, Nat.reduceAdd, Int.reduceAdd, Int.reduceNeg, Int.reduceSub, Int.reduceMul, Int.reduceLT, Int.reduceEq, Int.reduceToNat, reduceCtorEq, ↓reduceIte, s27, e1]
      rw [if_neg (by omega)]
      by_cases z : l.length - cL d l s < cL d l s
      · rw [if_pos (by omega)]
        have : hlf d l s = cL d l s := if_pos z
        rw [this] at k1; exact k1
      · rw [if_neg (by omega)]
        have : hlf d l s = l.length - cL d l s := if_neg z
        rw [this] at k1; exact k1
    rw [k0, mw_ov]
    have : decide ((n : Int) < 0 ∨ btr d way l s n = true) = btr d way l s n := by
      cases z : btr d way l s n
      · exact decide_eq_false (fun y => y.elim (fun w => by omega) (fun w => by cases w))
      · exact decide_eq_true (Or.inr rfl)
    show some (bZ (btr d way l s n), _) = some (bZ (decide ((n : Int) < 0 ∨ btr d way l s n = true)), _)
    rw [this]
theorem Md_nx5 {d : TD} {A : Nat → Nat} {σ : AM} (H : LM A σ) (hd : wfD d) {m : VM} (hT : MT d m) {l : List Nat} (hl : wl d l) (hc : cnE d l m) {way : Nat} (hw : way ≤ 2) {a : Nat} (ha : a + l.length ≤ 16384) : L_Md_nextOf_5 (A 0) (iI (way : Int)) (iI (a : Int)) (iI ((a + l.length : Nat) : Int)) (iI (-1)) (iI 0) (ov 40 A m σ) = some (iI (nx d way l), (ov 40 A m σ)) := by
  have hS := sN_le hd
  refine up_loop (fun k => L_Md_nextOf_5 (A 0) (iI (way : Int)) (iI (a : Int)) (iI ((a + l.length : Nat) : Int)) (iI (nxN d way l k)) (iI (k : Int)) (ov 40 A m σ)) (sN d) (some (iI (nx d way l), (ov 40 A m σ))) (fun k hk ih => ?_) ?_ 0 (Nat.zero_le _)
  · have ih : L_Md_nextOf_5 _ _ _ _ (iI (nxN d way l (k + 1))) _ _ = _ := ih
    rw [nxN_s] at ih
    obtain ⟨s27, s28⟩ := hc k hk
    have c1 := cL_le d l k
    have lo := nxN_lo d way l k
    have e1 : ((a + l.length : Nat) : Int) - (a : Int) = (l.length : Int) := by omega
    have hb := q_Md_isBetter H hd hT hl hc hw hk (t := nxN d way l k) (by omega) (by omega)
    show L_Md_nextOf_5 _ _ _ _ _ _ _ = _
    by_cases q1 : 0 < cL d l k
    · by_cases q2 : cL d l k < l.length
      · have hp : ptB d l k = true := decide_eq_true ⟨q1, q2⟩
        by_cases q3 : nxN d way l k < 0 ∨ btr d way l k (nxN d way l k).toNat = true
        · rw [if_pos ⟨hp, q3⟩] at ih
          rw [decide_eq_true q3] at hb
          rw [E_Md_nextOf_5]; simp (disch := omega) only [E_Md_nextOf_6, E_Md_nextOf_7, E_Md_nextOf_8, E_Md_nextOf_9, l_0, l_1, mK_0 H, mR_52 H, mK_27 H, mN_27 H, letT_eq, gd_true, bnd_some, aR_ov, aK_ov, aN_ov, okO_ov, aI_ov H.1, aL_ov H.1, sI_ov H.1, sL_ov H.1, sV_eq, sV_ne, sV_2, sW_eq, sW_ne, sW_1, iI_add, iI_sub, iI_mul, iI_neg, iI_lt, iI_eq, iI_cl, nI_iI, gd_in, bZ_0, bZ_1, bZ_eq, isB_bZ, isB_0, isB_1, nar_bZ, nar_0, nar_1, mw_ov, iI_s, iI_na, iI_nm, Int.toNat_natCast, Int.add_zero, Int.zero_add, Nat.reduceEqDiff, Nat.reduceAdd, Int.reduceAdd, Int.reduceNeg, Int.reduceSub, Int.reduceMul, Int.reduceLT, Int.reduceEq, Int.reduceToNat, reduceCtorEq, ↓reduceIte, q_Md_sets H hd hT, s27, e1, hb]
          rw [if_pos (by omega), if_pos (by omega), if_pos (by omega)]
          exact ih
        · rw [if_neg (fun z => q3 z.2)] at ih
          rw [decide_eq_false q3] at hb
          rw [E_Md_nextOf_5]; simp (disch := omega) only [E_Md_nextOf_6, E_Md_nextOf_7, E_Md_nextOf_8, E_Md_nextOf_9, l_0, l_1, mK_0 H, mR_52 H, mK_27 H, mN_27 H, letT_eq, gd_true, bnd_some, aR_ov, aK_ov, aN_ov, okO_ov, aI_ov H.1, aL_ov H.1, sI_ov H.1, sL_ov H.1, sV_eq, sV_ne, sV_2, sW_eq, sW_ne, sW_1, iI_add, iI_sub, iI_mul, iI_neg, iI_lt, iI_eq, iI_cl, nI_iI, gd_in, bZ_0, bZ_1, bZ_eq, isB_bZ, isB_0, isB_1, nar_bZ, nar_0, nar_1, mw_ov, iI_s, iI_na, iI_nm, Int.toNat_natCast, Int.add_zero, Int.zero_add, Nat.reduceEqDiff, Nat.reduceAdd, Int.reduceAdd, Int.reduceNeg, Int.reduceSub, Int.reduceMul, Int.reduceLT, Int.reduceEq, Int.reduceToNat, reduceCtorEq, ↓reduceIte, q_Md_sets H hd hT, s27, e1, hb]
          rw [if_pos (by omega), if_pos (by omega), if_pos (by omega)]
          exact ih
      · have hp : ¬ ptB d l k = true := fun z => q2 (of_decide_eq_true z).2
        rw [if_neg (fun z => hp z.1)] at ih
        rw [E_Md_nextOf_5]; simp (disch := omega) only [E_Md_nextOf_6, E_Md_nextOf_7, E_Md_nextOf_8, E_Md_nextOf_9, l_0, l_1, mK_0 H, mR_52 H, mK_27 H, mN_27 H, letT_eq, gd_true, bnd_some, aR_ov, aK_ov, aN_ov, okO_ov, aI_ov H.1, aL_ov H.1, sI_ov H.1, sL_ov H.1, sV_eq, sV_ne, sV_2, sW_eq, sW_ne, sW_1, iI_add, iI_sub, iI_mul, iI_neg, iI_lt, iI_eq, iI_cl, nI_iI, gd_in, bZ_0, bZ_1, bZ_eq, isB_bZ, isB_0, isB_1, nar_bZ, nar_0, nar_1, mw_ov, iI_s, iI_na, iI_nm, Int.toNat_natCast, Int.add_zero, Int.zero_add, Nat.reduceEqDiff, Nat.reduceAdd, Int.reduceAdd, Int.reduceNeg, Int.reduceSub, Int.reduceMul, Int.reduceLT, Int.reduceEq, Int.reduceToNat, reduceCtorEq, ↓reduceIte, q_Md_sets H hd hT, s27, e1]
        rw [if_pos (by omega), if_pos (by omega), if_neg (by omega)]
        exact ih
    · have hp : ¬ ptB d l k = true := fun z => q1 (of_decide_eq_true z).1
      rw [if_neg (fun z => hp z.1)] at ih
      rw [E_Md_nextOf_5]; simp (disch := omega) only [E_Md_nextOf_6, E_Md_nextOf_7, E_Md_nextOf_8, E_Md_nextOf_9, l_0, l_1, mK_0 H, mR_52 H, mK_27 H, mN_27 H, letT_eq, gd_true, bnd_some, aR_ov, aK_ov, aN_ov, okO_ov, aI_ov H.1, aL_ov H.1, sI_ov H.1, sL_ov H.1, sV_eq, sV_ne, sV_2, sW_eq, sW_ne, sW_1, iI_add, iI_sub, iI_mul, iI_neg, iI_lt, iI_eq, iI_cl, nI_iI, gd_in, bZ_0, bZ_1, bZ_eq, isB_bZ, isB_0, isB_1, nar_bZ, nar_0, nar_1, mw_ov, iI_s, iI_na, iI_nm, Int.toNat_natCast, Int.add_zero, Int.zero_add, Nat.reduceEqDiff, Nat.reduceAdd, Int.reduceAdd, Int.reduceNeg, Int.reduceSub, Int.reduceMul, Int.reduceLT, Int.reduceEq, Int.reduceToNat, reduceCtorEq, ↓reduceIte, q_Md_sets H hd hT, s27, e1]
      rw [if_pos (by omega), if_neg (by omega)]
      exact ih
  · show L_Md_nextOf_5 _ _ _ _ _ _ _ = _
    rw [E_Md_nextOf_5]
    simp (disch := omega) only [mK_0 H, okO_ov, gd_true, bnd_some, q_Md_sets H hd hT, iI_lt]
    rw [if_neg (by omega)]
    rfl
theorem p_Md_nextOf {d : TD} {A : Nat → Nat} {σ : AM} (H : LM A σ) (hd : wfD d) {m : VM} (hT : MT d m) {l : List Nat} (hl : wl d l) {a : Nat} (ha : a + l.length ≤ 16384) (hs : Seg (m.1 26) a l) {way : Nat} (hw : way ≤ 2) : ∃ m' : VM, M_Md_nextOf (A 0) (iI (way : Int)) (iI (a : Int)) (iI ((a + l.length : Nat) : Int)) (ov 40 A m σ) = some (iI (nx d way l), (ov 40 A (m') σ)) ∧ OnN m m' := by
  have hS := sN_le hd
  have hW := hd.2.2.2.2.2.2
  have hNL := NL_le d
  have l2 : ∀ m2, OnN m m2 → cnE d (l.take 0) m2 → ∃ m' : VM, L_Md_nextOf_2 (A 0) (iI (way : Int)) (iI (a : Int)) (iI ((a + l.length : Nat) : Int)) (iI (a : Int)) (ov 40 A m2 σ) = some (iI (nx d way l), (ov 40 A (m') σ)) ∧ OnN m m' := by
    intro m2 j1 j2
    refine up_loopI (fun k m1 => L_Md_nextOf_2 (A 0) (iI (way : Int)) (iI (a : Int)) (iI ((a + l.length : Nat) : Int)) (iI ((a + k : Nat) : Int)) (ov 40 A m1 σ)) (fun k m1 => OnN m m1 ∧ cnE d (l.take k) m1) (fun X => ∃ m' : VM, X = some (iI (nx d way l), (ov 40 A (m') σ)) ∧ OnN m m') l.length (fun k m1 hk ⟨i1, i2⟩ ih => ?_) (fun m1 ⟨i1, i2⟩ => ?_) 0 m2 (Nat.zero_le _) ⟨j1, j2⟩
    · have hT1 := MT_K (OnN_KM i1) hT
      have hx := hl.2 _ (gd_mem hk)
      have h26 : m1.1 26 (a + k) = iI (l.getD k 0 : Int) := by rw [i1.1 26 (by decide) (by decide)]; exact hs k hk
      have h14 : m1.2 14 (l.getD k 0) = LL d (l.getD k 0) := hT1.2.2.2.1 _ hx
      obtain ⟨m3, r1, r2⟩ := Md_nx3 H hd hT hl ha hs (iI (way : Int)) (iI (a : Int)) (iI ((a + l.length : Nat) : Int)) k hk m1 ⟨i1, i2⟩
      have ih := ih m3 r1
      show ∃ m' : VM, L_Md_nextOf_2 _ _ _ _ _ _ = _ ∧ _
      rw [E_Md_nextOf_2]; simp (disch := omega) only [l_0, l_1, mK_0 H, mR_30 H, mK_14 H, mN_14 H, mR_48 H, mK_26 H, mN_26 H, letT_eq, gd_true, bnd_some, aR_ov, aK_ov, aN_ov, okO_ov, aI_ov H.1, aL_ov H.1, sI_ov H.1, sL_ov H.1, sV_eq, sV_ne, sV_2, sW_eq, sW_ne, sW_1, iI_add, iI_sub, iI_mul, iI_neg, iI_lt, iI_eq, iI_cl, nI_iI, gd_in, bZ_0, bZ_1, bZ_eq, isB_bZ, isB_0, isB_1, nar_bZ, nar_0, nar_1, mw_ov, iI_s, iI_na, iI_nm, Int.toNat_natCast, Int.add_zero, Int.zero_add, Nat.reduceEqDiff, Nat.reduceAdd, Int.reduceAdd, Int.reduceNeg, Int.reduceSub, Int.reduceMul, Int.reduceLT, Int.reduceEq, Int.reduceToNat, reduceCtorEq, ↓reduceIte, h26, h14, r2]
      rw [if_pos (by omega)]
      exact ih
    · rw [List.take_length] at i2
      refine ⟨m1, ?_, i1⟩
      have := Md_nx5 H hd (MT_K (OnN_KM i1) hT) hl i2 hw ha
      show L_Md_nextOf_2 _ _ _ _ _ _ = _
      rw [E_Md_nextOf_2]
      simp (disch := omega) only [iI_lt, l_0, l_1, iI_neg, this]
      rw [if_neg (by omega)]
  have l1 : ∃ m' : VM, L_Md_nextOf_1 (A 0) (iI (way : Int)) (iI (a : Int)) (iI ((a + l.length : Nat) : Int)) (iI 0) (ov 40 A m σ) = some (iI (nx d way l), (ov 40 A (m') σ)) ∧ OnN m m' := by
    refine up_loopI (fun k m1 => L_Md_nextOf_1 (A 0) (iI (way : Int)) (iI (a : Int)) (iI ((a + l.length : Nat) : Int)) (iI (k : Int)) (ov 40 A m1 σ)) (fun k m1 => OnN m m1 ∧ ∀ j, j < k → m1.1 27 j = iI 0 ∧ m1.1 28 j = iI 0) (fun X => ∃ m' : VM, X = some (iI (nx d way l), (ov 40 A (m') σ)) ∧ OnN m m') (sN d) (fun k m1 hk ⟨i1, i2⟩ ih => ?_) (fun m1 ⟨i1, i2⟩ => ?_) 0 m (Nat.zero_le _) ⟨OnN_r m, fun j hj => absurd hj (Nat.not_lt_zero j)⟩
    · have hT1 := MT_K (OnN_KM i1) hT
      show ∃ m' : VM, L_Md_nextOf_1 _ _ _ _ _ _ = _ ∧ _
      rw [E_Md_nextOf_1]; simp (disch := omega) only [l_0, l_1, mK_0 H, mR_52 H, mK_27 H, mN_27 H, mR_53 H, mK_28 H, mN_28 H, letT_eq, gd_true, bnd_some, aR_ov, aK_ov, aN_ov, okO_ov, aI_ov H.1, aL_ov H.1, sI_ov H.1, sL_ov H.1, sV_eq, sV_ne, sV_2, sW_eq, sW_ne, sW_1, iI_add, iI_sub, iI_mul, iI_neg, iI_lt, iI_eq, iI_cl, nI_iI, gd_in, bZ_0, bZ_1, bZ_eq, isB_bZ, isB_0, isB_1, nar_bZ, nar_0, nar_1, mw_ov, iI_s, iI_na, iI_nm, Int.toNat_natCast, Int.add_zero, Int.zero_add, Nat.reduceEqDiff, Nat.reduceAdd, Int.reduceAdd, Int.reduceNeg, Int.reduceSub, Int.reduceMul, Int.reduceLT, Int.reduceEq, Int.reduceToNat, reduceCtorEq, ↓reduceIte, q_Md_sets H hd hT1]
      rw [if_pos (by omega)]
      refine ih _ ⟨OnN_V (OnN_V i1 _ _ (Or.inl rfl)) _ _ (Or.inr rfl), fun j hj => ?_⟩
      by_cases e : j = k
      · subst e
        constructor
        · rw [sV_ne _ _ _ _ (by decide), sV_eq, if_pos rfl]
        · rw [sV_eq, if_pos rfl]
      · have := i2 j (by omega)
        constructor
        · rw [sV_ne _ _ _ _ (by decide), sV_eq, if_neg e]; exact this.1
        · rw [sV_eq, if_neg e, sV_ne _ _ _ _ (by decide)]; exact this.2
    · have hT1 := MT_K (OnN_KM i1) hT
      show ∃ m' : VM, L_Md_nextOf_1 _ _ _ _ _ _ = _ ∧ _
      rw [E_Md_nextOf_1]
      simp (disch := omega) only [mK_0 H, okO_ov, gd_true, bnd_some, q_Md_sets H hd hT1, iI_lt]
      rw [if_neg (by omega)]
      exact l2 m1 i1 (fun j hj => i2 j hj)
  obtain ⟨m', e, k⟩ := l1
  refine ⟨m', ?_, k⟩
  unfold M_Md_nextOf
  rw [E_Md_nextOf_0]
  simp only [l_0]
  exact (congrArg (mw _) e).trans (mw_ov _ _ _ _ _ _)
/-! a stretch is parted -/
def OnS (c : Nat) (m m' : VM) : Prop := (∀ a, a ≠ c → m'.1 a = m.1 a) ∧ m'.2 = m.2
theorem OnS_KM {c : Nat} (hc : c = 26) {m m' : VM} (h : OnS c m m') : KM m m' := ⟨fun j _ => by rw [h.1 0 (by omega)], fun a ha => h.1 a (fun e => by subst e; subst hc; revert ha; decide), fun a _ => by rw [h.2]⟩
/-- what comes of parting: first those of which p holds -/
def prtR (p : Nat → Bool) (c a : Nat) (l : List Nat) (m m' : VM) (P R : List Nat) : Prop := OnS c m m' ∧ Seg (m'.1 c) a P ∧ Seg (m'.1 c) (a + P.length) R ∧ P.Perm (l.filter p) ∧ R.Perm (l.filter (fun i => !p i)) ∧ P.length + R.length = l.length ∧ ∀ j, (j < a ∨ a + l.length ≤ j) → m'.1 c j = m.1 c j
theorem p_Md_divides {d : TD} {A : Nat → Nat} {σ : AM} (H : LM A σ) (hd : wfD d) {m : VM} (hT : MT d m) {l : List Nat} (hl : wl d l) {a : Nat} (ha : a + l.length ≤ 16384) (hs : Seg (m.1 26) a l) {s : Nat} (h64 : s < 64) : ∃ (m' : VM) (P R : List Nat), M_Md_divides (A 0) (iI (s : Int)) (iI (a : Int)) (iI ((a + l.length : Nat) : Int)) (ov 40 A m σ) = some (iI ((a + P.length : Nat) : Int), (ov 40 A (m') σ)) ∧ prtR (fun k => bt (LL d k) s) 26 a l m m' P R := by
  have hW := hd.2.2.2.2.2.2
  have hNL := NL_le d
  have l1 : ∀ n k P R m1, k + n = l.length → OnS 26 m m1 → prt (fun k => bt (LL d k) s) (m.1 26) a l k P R (m1.1 26) → ∃ (m' : VM) (P' R' : List Nat), L_Md_divides_1 (A 0) (iI (s : Int)) (iI ((a + l.length : Nat) : Int)) (iI ((a + P.length : Nat) : Int)) (iI ((a + k : Nat) : Int)) (ov 40 A m1 σ) = some (iI ((a + P'.length : Nat) : Int), (ov 40 A (m') σ)) ∧ prtR (fun k => bt (LL d k) s) 26 a l m m' P' R' := by
    intro n
    induction n with
    | zero =>
      intro k P R m1 hk i1 i2
      obtain rfl : k = l.length := hk
      have hh := prt_end i2
      refine ⟨m1, P, R, ?_, i1, hh.1, hh.2.1, hh.2.2.1, hh.2.2.2.1, hh.2.2.2.2, i2.2.2.2.2⟩
      rw [E_Md_divides_1]
      simp (disch := omega) only [iI_lt]
      rw [if_neg (by omega)]
    | succ n ih =>
      intro k P R m1 hn i1 i2
      have hk : k < l.length := by omega
      have hT1 := MT_K (OnS_KM rfl i1) hT
      have hx := hl.2 _ (gd_mem hk)
      have h26 := prt_x hk i2
      have h14 : m1.2 14 (l.getD k 0) = LL d (l.getD k 0) := hT1.2.2.2.1 _ hx
      have hpl := i2.2.2.2.1
      have hr := q_Md_doesRing (LL d (l.getD k 0)) h64
      cases q : bt (LL d (l.getD k 0)) s
      · rw [q] at hr
        obtain ⟨m', P', R', e, r⟩ := ih (k + 1) P (R ++ [l.getD k 0]) m1 (by omega) i1 (prt_n hk i2 q)
        refine ⟨m', P', R', ?_, r⟩
        rw [← e]
        rw [E_Md_divides_1]; simp (disch := omega) only [E_Md_divides_2, l_0, l_1, mK_0 H, mR_30 H, mK_14 H, mN_14 H, mR_48 H, mK_26 H, mN_26 H, letT_eq, gd_true, bnd_some, aR_ov, aK_ov, aN_ov, okO_ov, aI_ov H.1, aL_ov H.1, sI_ov H.1, sL_ov H.1, sV_eq, sV_ne, sV_2, sW_eq, sW_ne, sW_1, iI_add, iI_sub, iI_mul, iI_neg, iI_lt, iI_eq, iI_cl, nI_iI, gd_in, bZ_0, bZ_1, bZ_eq, isB_bZ, isB_0, isB_1, nar_bZ, nar_0, nar_1, mw_ov, iI_s, iI_na, iI_nm, Int.toNat_natCast, Int.add_zero, Int.zero_add, Nat.reduceEqDiff, Nat.reduceAdd, Int.reduceAdd, Int.reduceNeg, Int.reduceSub, Int.reduceMul, Int.reduceLT, Int.reduceEq, Int.reduceToNat, reduceCtorEq, ↓reduceIte, h26, h14, hr]
        rw [if_pos (by omega)]
        rfl
      · rw [q] at hr
        obtain ⟨R2, hy⟩ := prt_y (g := (sV (sV m1 26 (a + k) (m1.1 26 (a + P.length))) 26 (a + P.length) (iI (l.getD k 0 : Int))).1 26) hk i2 q (fun j => by
          rw [sV_eq, sV_eq, h26])
        obtain ⟨m', P', R', e, r⟩ := ih (k + 1) (P ++ [l.getD k 0]) R2 (sV (sV m1 26 (a + k) (m1.1 26 (a + P.length))) 26 (a + P.length) (iI (l.getD k 0 : Int))) (by omega) ⟨fun c hc => by rw [sV_ne _ _ _ _ hc, sV_ne _ _ _ _ hc]; exact i1.1 c hc, i1.2⟩ hy
        refine ⟨m', P', R', ?_, r⟩
        rw [← e]
        rw [E_Md_divides_1]; simp (disch := omega) only [E_Md_divides_2, l_0, l_1, mK_0 H, mR_30 H, mK_14 H, mN_14 H, mR_48 H, mK_26 H, mN_26 H, letT_eq, gd_true, bnd_some, aR_ov, aK_ov, aN_ov, okO_ov, aI_ov H.1, aL_ov H.1, sI_ov H.1, sL_ov H.1, sV_eq, sV_ne, sV_2, sW_eq, sW_ne, sW_1, iI_add, iI_sub, iI_mul, iI_neg, iI_lt, iI_eq, iI_cl, nI_iI, gd_in, bZ_0, bZ_1, bZ_eq, isB_bZ, isB_0, isB_1, nar_bZ, nar_0, nar_1, mw_ov, iI_s, iI_na, iI_nm, Int.toNat_natCast, Int.add_zero, Int.zero_add, Nat.reduceEqDiff, Nat.reduceAdd, Int.reduceAdd, Int.reduceNeg, Int.reduceSub, Int.reduceMul, Int.reduceLT, Int.reduceEq, Int.reduceToNat, reduceCtorEq, ↓reduceIte, h26, h14, hr]
        rw [if_pos (by omega), List.length_append, List.length_singleton]
        rfl
  obtain ⟨m', P, R, e, r⟩ := l1 l.length 0 [] [] m (by omega) ⟨fun _ _ => rfl, rfl⟩ (prt_0 _ hs)
  refine ⟨m', P, R, ?_, r⟩
  unfold M_Md_divides
  rw [E_Md_divides_0]
  exact (congrArg (mw _) e).trans (mw_ov _ _ _ _ _ _)
