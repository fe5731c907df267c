/-! ===== the reference reads lines ===== -/
theorem lgJ_lt {a b : Int} (h1 : -2147483648 ≤ a) (h2 : a < 2147483648) (h3 : -2147483648 ≤ b) (h4 : b < 2147483648) : (lg_cmp (jI a) (jI b) < iI 0) = (a < b) := by
  have e : (lg_cmp (jI a) (jI b) < iI 0) ↔ jI a < jI b := lg_cmp_lt _ _
  rw [e, Int64.lt_iff_toInt_lt, jI_toInt (by omega) (by omega), jI_toInt (by omega) (by omega)]
theorem lgJ_gt {a b : Int} (h1 : -2147483648 ≤ a) (h2 : a < 2147483648) (h3 : -2147483648 ≤ b) (h4 : b < 2147483648) : (iI 0 < lg_cmp (jI a) (jI b)) = (b < a) := by
  have e : (iI 0 < lg_cmp (jI a) (jI b)) ↔ jI b < jI a := lg_cmp_gt _ _
  rw [e, Int64.lt_iff_toInt_lt, jI_toInt (by omega) (by omega), jI_toInt (by omega) (by omega)]
def OnLw (m m' : VM) : Prop := (∀ c, c ≠ 0 → c ≠ 8 → c ≠ 9 → m'.1 c = m.1 c) ∧ (∀ j, j ∉ [7, 8, 22, 23] → m'.1 0 j = m.1 0 j) ∧ m'.2 = m.2
theorem OnLw_Q {m m' : VM} (h : OnPq m m') : OnLw m m' := ⟨h.1, fun j hj => h.2.1 j (fun z => hj (by
  simp only [List.mem_cons, List.not_mem_nil, or_false] at z ⊢
  omega)), h.2.2⟩
theorem OnLw_t {a b c : VM} (h : OnLw a b) (k : OnLw b c) : OnLw a c := ⟨fun i h1 h2 h3 => (k.1 i h1 h2 h3).trans (h.1 i h1 h2 h3), fun i hi => (k.2.1 i hi).trans (h.2.1 i hi), k.2.2.trans h.2.2⟩
theorem OnLw_0 (m : VM) {j : Nat} (v : Int32) (hj : j ∈ [7, 8, 22, 23]) : OnLw m (sV m 0 j v) := ⟨fun c h1 _ _ => by rw [sV_ne _ _ _ _ h1], fun i hi => by rw [sV_eq, if_neg (fun z => hi (by rw [z]; exact hj))], rfl⟩
/-- what lines may change -/
def OnL (m m' : VM) : Prop := (∀ c, c ∉ [0, 6, 8, 9] → m'.1 c = m.1 c) ∧ (∀ j, j ∉ [7, 8, 15, 16, 17, 18, 22, 23] → m'.1 0 j = m.1 0 j) ∧ (∀ c, c ≠ 7 → m'.2 c = m.2 c)
theorem OnL_r (m : VM) : OnL m m := ⟨fun _ _ => rfl, fun _ _ => rfl, fun _ _ => rfl⟩
theorem OnL_t {a b c : VM} (h : OnL a b) (k : OnL b c) : OnL a c := ⟨fun i hi => (k.1 i hi).trans (h.1 i hi), fun i hi => (k.2.1 i hi).trans (h.2.1 i hi), fun i hi => (k.2.2 i hi).trans (h.2.2 i hi)⟩
theorem OnL_W {m m' : VM} (h : OnLw m m') : OnL m m' := ⟨fun c hc => h.1 c (fun z => hc (by rw [z]; decide)) (fun z => hc (by rw [z]; decide)) (fun z => hc (by rw [z]; decide)), fun j hj => h.2.1 j (fun z => hj (by
  simp only [List.mem_cons, List.not_mem_nil, or_false] at z ⊢
  omega)), fun c _ => by rw [h.2.2]⟩
theorem OnL_0 (m : VM) {j : Nat} (v : Int32) (hj : j ∈ [7, 8, 15, 16, 17, 18, 22, 23]) : OnL m (sV m 0 j v) := ⟨fun c hc => by rw [sV_ne _ _ _ _ (fun z => hc (by rw [z]; decide))], fun i hi => by rw [sV_eq, if_neg (fun z => hi (by rw [z]; exact hj))], fun _ _ => rfl⟩
theorem OnL_6 (m : VM) (j : Nat) (v : Int32) : OnL m (sV m 6 j v) := ⟨fun c hc => by rw [sV_ne _ _ _ _ (fun z => hc (by rw [z]; decide))], fun i hi => by rw [sV_ne _ _ _ _ (by decide)], fun _ _ => rfl⟩
theorem OnL_7 (m : VM) (j : Nat) (v : Int64) : OnL m (sW m 7 j v) := ⟨fun _ _ => rfl, fun _ _ => rfl, fun c hc => by rw [sW_ne _ _ _ _ hc]⟩
theorem cuT_L {t : PD} {m m' : VM} (h : OnL m m') (k : cuT t m) : cuT t m' := fun i hi => by
  obtain ⟨g1, g2, g3⟩ := k i hi
  refine ⟨by rw [h.1 2 (by decide)]; exact g1, by rw [h.1 3 (by decide)]; exact g2, fun z => by rw [h.2.2 4 (by decide)]; exact g3 z⟩
theorem QK_L {t : PD} {k k' : Nat} {m m' : VM} (h : OnL m m') (q : QK t k m) (h7 : m'.1 0 7 = iI (k' : Int)) (h8 : m'.1 0 8 = iI 0) : QK t k' m' := ⟨cuT_L h q.1, fun i hi => by rw [h.2.2 5 (by decide)]; exact q.2.1 i hi, h7, h8⟩
theorem QK_at {t : PD} {k : Nat} {m : VM} (q : QK t k m) (k' : Nat) : QK t k' (atS m k') := QK_L (OnL_W (OnLw_Q (OnPq_at m k'))) q (by unfold atS; simp (disch := decide) only [sV_eq, sW_eq, sV_ne, sW_ne, sV_2, sW_1, Nat.reduceEqDiff, ↓reduceIte]) (by unfold atS; simp (disch := decide) only [sV_eq, sW_eq, sV_ne, sW_ne, sV_2, sW_1, Nat.reduceEqDiff, ↓reduceIte]; exact q.2.2.2)
def oI : Option Nat → Int32
  | none => iI (-1)
  | some v => iI (v : Int)
theorem oI_lt {o : Option Nat} (h : ∀ v, o = some v → v < 100) : (oI o < iI 0) = (o.isSome = false) := by
  cases o with
  | none => show (iI (-1) < iI 0) = _; simp only [Option.isSome_none, eq_iff_iff, iff_true]; decide
  | some v =>
    have := h v rfl
    show (iI (v : Int) < iI 0) = _
    rw [iI_lt (by omega) (by omega) (by omega) (by omega)]
    simp only [Option.isSome_some, reduceCtorEq, eq_iff_iff, iff_false]; omega
def RT0 (x : XS) (c : List Nat) (m : VM) : Prop := (m.1 0 16 = oI (xsM x) ∧ m.1 0 17 = oI (xsB x) ∧ m.1 0 18 = iI ((xsA x).length : Int)) ∧ RN (xsN x) m ∧ (∀ i, i < (xsA x).length → ∃ s : Nat, m.1 6 (5 + i) = iI (s : Int) ∧ slc c s ((xsA x).getD i [] ++ [9])) ∧ (xsC x = none → m.1 6 9 = iI (-1)) ∧ ∀ l, xsC x = some l → ∃ s : Nat, m.1 6 9 = iI (s : Int) ∧ slc c s (l ++ [9])
def RTs (x : XS) (c : List Nat) (m : VM) : Prop := RT0 x c m ∧ RC c m
theorem RT0_W {x : XS} {c : List Nat} {m m' : VM} (h : OnLw m m') (q : RT0 x c m) : RT0 x c m' := by
  obtain ⟨⟨a1, a2, a3⟩, a4, a5, a6, a7⟩ := q
  refine ⟨⟨by rw [h.2.1 16 (by decide)]; exact a1, by rw [h.2.1 17 (by decide)]; exact a2, by rw [h.2.1 18 (by decide)]; exact a3⟩, ⟨by rw [h.2.1 15 (by decide)]; exact a4.1, fun i hi => by rw [h.2.2]; exact a4.2 i hi⟩, ?_, ?_, ?_⟩
  · rw [h.1 6 (by decide) (by decide) (by decide)]; exact a5
  · rw [h.1 6 (by decide) (by decide) (by decide)]; exact a6
  · rw [h.1 6 (by decide) (by decide) (by decide)]; exact a7
theorem RT0_c {x : XS} {c : List Nat} {m : VM} (q : RT0 x c m) (r : List Nat) : RT0 x (c ++ r) m := by
  obtain ⟨a1, a4, a5, a6, a7⟩ := q
  refine ⟨a1, a4, fun i hi => ?_, a6, fun l hl => ?_⟩
  · obtain ⟨s, s1, s2⟩ := a5 i hi; exact ⟨s, s1, slc_app s2 r⟩
  · obtain ⟨s, s1, s2⟩ := a7 l hl; exact ⟨s, s1, slc_app s2 r⟩
def cF (x : XS) : Nat := (xsA x).length + (if (xsC x).isSome = true then 1 else 0)
def QL (t : PD) (x : XS) (c : List Nat) (m : VM) : Prop := QK t (xsK x) m ∧ RTs x c m ∧ c.length ≤ xsK x + cF x
def RF (m : VM) : Prop := ∃ n : Nat, n ≤ 6 ∧ m.1 0 15 = iI (n : Int)
def QLZ (t : PD) (r : XR) (m m' : VM) : Prop := OnL m m' ∧ m'.1 0 8 = iI (r.1 : Int) ∧ r.1 ≤ 20000 ∧ RF m' ∧ (r.1 = 0 → ∃ c, QL t r.2 c m')
/-- a line, then its sign -/
def LnZ (A : Nat → Nat) (σ : AM) (t : PD) (r : XR) (m m1 : VM) : Prop := ∃ m2 : VM, M_Md_takeSign (A 0) (iI 59) (ov 40 A m1 σ) = some ((), (ov 40 A m2 σ)) ∧ QLZ t r m m2
theorem QL_bad {t : PD} {A : Nat → Nat} {σ : AM} (H : LM A σ) {m m1 : VM} {r : XR} (O : OnL m m1) (h8 : m1.1 0 8 = iI (r.1 : Int)) (hf : ¬ r.1 = 0) (hf2 : r.1 ≤ 20000) (hF : RF m1) : LnZ A σ t r m m1 := ⟨m1, p_takeSF H h8 hf hf2 (iI 59), O, h8, hf2, hF, fun z => absurd z hf⟩
theorem QL_fa {t : PD} {A : Nat → Nat} {σ : AM} (H : LM A σ) (ht : wfT t) {m m1 : VM} {k v : Nat} (x : XS) (O : OnL m m1) (hv : 0 < v) (hv2 : v ≤ 6) (hF : RF m1) : LnZ A σ t (faL t k v x) m (sV m1 0 8 (iI ((v + 16 * plT t k : Nat) : Int))) := by
  have hp := pl_b ht k
  refine QL_bad H (OnL_t O (OnL_0 _ _ (by decide))) (by simp (disch := decide) only [sV_eq, sW_eq, sV_ne, sW_ne, sV_2, sW_1, Nat.reduceEqDiff, ↓reduceIte]; rfl) ?_ ?_ ?_
  · show ¬ v + 16 * plT t k = 0
    omega
  · show v + 16 * plT t k ≤ 20000
    omega
  · obtain ⟨n, n1, n2⟩ := hF
    exact ⟨n, n1, by simp (disch := decide) only [sV_eq, sW_eq, sV_ne, sW_ne, sV_2, sW_1, Nat.reduceEqDiff, ↓reduceIte]; exact n2⟩
theorem QL_fin {t : PD} {A : Nat → Nat} {σ : AM} (H : LM A σ) (ht : wfT t) {m m1 : VM} {k : Nat} {x x0 : XS} {c : List Nat} (hk : kOk t k) (O : OnL m m1) (q : QK t k m1) (r : RTs x c m1) (hx : xsK x = k + 1) (hc : c.length ≤ k + cF x) (hn : (xsN x).length ≤ 6) : LnZ A σ t (epL t k x x0) m m1 := by
  have e := p_takeS H ht hk q (c := 59) (by omega) (by omega)
  replace e : M_Md_takeSign (A 0) (iI 59) _ = _ := e
  have hp := pl_b ht k
  have hF : RF m1 := ⟨_, hn, r.1.2.1.1⟩
  unfold epL
  by_cases z : kdT t k = 59
  · rw [if_pos z] at e ⊢
    have hF2 : RF (atS m1 (k + 1)) := by
      obtain ⟨n, n1, n2⟩ := hF
      exact ⟨n, n1, by unfold atS; simp (disch := decide) only [sV_eq, sW_eq, sV_ne, sW_ne, sV_2, sW_1, Nat.reduceEqDiff, ↓reduceIte]; exact n2⟩
    refine ⟨_, e, OnL_t O (OnL_W (OnLw_Q (OnPq_at _ _))), by unfold atS; simp (disch := decide) only [sV_eq, sW_eq, sV_ne, sW_ne, sV_2, sW_1, Nat.reduceEqDiff, ↓reduceIte]; exact q.2.2.2, Nat.zero_le _, hF2, fun _ => ⟨c, ?_, ⟨RT0_W (OnLw_Q (OnPq_at _ _)) r.1, RC_0 r.2 _ (by decide)⟩, ?_⟩⟩
    · show QK t (xsK x) _
      rw [hx]; exact QK_at q _
    · show c.length ≤ xsK x + cF x
      omega
  · rw [if_neg z] at e ⊢
    obtain ⟨n, n1, n2⟩ := hF
    refine ⟨_, e, OnL_t O (OnL_0 _ _ (by decide)), by simp (disch := decide) only [sV_eq, sW_eq, sV_ne, sW_ne, sV_2, sW_1, Nat.reduceEqDiff, ↓reduceIte]; rfl, ?_, ⟨n, n1, by simp (disch := decide) only [sV_eq, sW_eq, sV_ne, sW_ne, sV_2, sW_1, Nat.reduceEqDiff, ↓reduceIte]; exact n2⟩, fun y => ?_⟩
    · show 1 + 16 * plT t k ≤ 20000
      omega
    · have y : 1 + 16 * plT t k = 0 := y
      omega
theorem l_thing {t : PD} {A : Nat → Nat} {σ : AM} (H : LM A σ) (ht : wfT t) {x : XS} (hx : xOk t x) {c : List Nat} {m : VM} (hL : QL t x c m) (hk4 : kdT t (xsK x) = 4) : ∃ m1 : VM, M_Md_readLine (A 0) (ov 40 A m σ) = some ((), (ov 40 A m1 σ)) ∧ LnZ A σ t (thL t x) m m1 := by
  obtain ⟨hQ, ⟨hR, hC⟩, hc⟩ := hL
  obtain ⟨x1, x2, x3, x4, x5⟩ := hx
  have hk1 := kOk_s x1 (show ¬ kdT t (xsK x) = 0 by omega)
  have hl1 := kOk_le ht hk1
  have hnl := x2.1
  have hF : RF m := ⟨_, hnl, hR.2.1.1⟩
  have q0 : M_Md_isWord (A 0) (iI 0) (ov 40 A m σ) = some (bZ (decide (kdT t (xsK x) = 4)), (ov 40 A m σ)) := q_isWord H ht x1 hQ (w := 0) (by omega)
  rw [decide_eq_true hk4] at q0
  have h15 := hR.2.1.1
  have h7 := hQ.2.2.1
  unfold M_Md_readLine thL
  by_cases c6 : (xsN x).length < 6
  · rw [if_pos c6]
    have hQ1 := QK_at hQ (xsK x + 1)
    have hR1 := RT0_W (OnLw_Q (OnPq_at m (xsK x + 1))) hR
    have hC1 : RC c (atS m (xsK x + 1)) := RC_0 hC _ (by decide)
    have O1 : OnL m (atS m (xsK x + 1)) := OnL_W (OnLw_Q (OnPq_at m _))
    have hF1 : RF (atS m (xsK x + 1)) := ⟨_, hnl, hR1.2.1.1⟩
    have qn := q_isName H ht hk1 hQ1
    replace qn : M_Md_isName (A 0) (ov 40 A (sV m 0 7 (iI ((xsK x + 1 : Nat) : Int))) σ) = some (_, (ov 40 A (sV m 0 7 (iI ((xsK x + 1 : Nat) : Int))) σ)) := qn
    by_cases c3 : kdT t (xsK x + 1) = 3
    · rw [if_pos c3]
      rw [decide_eq_true c3] at qn
      obtain ⟨n1, n2⟩ := q_nameK H ht x2 hk1 hQ1 hR1.2.1 c3
      replace n1 : (sV m 0 7 (iI ((xsK x + 1 : Nat) : Int))).2 4 (xsK x + 1) = _ := n1
      replace n2 : M_Md_nameOf (A 0) _ (ov 40 A (sV m 0 7 (iI ((xsK x + 1 : Nat) : Int))) σ) = some (_, (ov 40 A (sV m 0 7 (iI ((xsK x + 1 : Nat) : Int))) σ)) := n2
      have h71 : (sV m 0 7 (iI ((xsK x + 1 : Nat) : Int))).1 0 7 = iI ((xsK x + 1 : Nat) : Int) := by simp (disch := decide) only [sV_eq, sW_eq, sV_ne, sW_ne, sV_2, sW_1, Nat.reduceEqDiff, ↓reduceIte]
      have h151 : (sV m 0 7 (iI ((xsK x + 1 : Nat) : Int))).1 0 15 = iI ((xsN x).length : Int) := by simp (disch := decide) only [sV_eq, sW_eq, sV_ne, sW_ne, sV_2, sW_1, Nat.reduceEqDiff, ↓reduceIte]; exact h15
      have hi := idx_le (xsN x) (wdK t (xsK x + 1))
      by_cases z : idxN (xsN x) (wdK t (xsK x + 1)) = (xsN x).length
      · rw [if_pos z]
        rw [if_pos z] at n2
        have h152 : (sW (sV m 0 7 (iI ((xsK x + 1 : Nat) : Int))) 7 (xsN x).length (mw64 (wdK t (xsK x + 1)))).1 0 15 = iI ((xsN x).length : Int) := h151
        have h73 : (sV (sW (sV m 0 7 (iI ((xsK x + 1 : Nat) : Int))) 7 (xsN x).length (mw64 (wdK t (xsK x + 1)))) 0 15 (iI (((xsN x).length + 1 : Nat) : Int))).1 0 7 = iI ((xsK x + 1 : Nat) : Int) := by simp (disch := decide) only [sV_eq, sW_eq, sV_ne, sW_ne, sV_2, sW_1, Nat.reduceEqDiff, ↓reduceIte]
        refine ⟨atS (sV (sW (atS m (xsK x + 1)) 7 (xsN x).length (mw64 (wdK t (xsK x + 1)))) 0 15 (iI (((xsN x).length + 1 : Nat) : Int))) (xsK x + 2), ?_, ?_⟩
        · rw [E_Md_readLine_0]
          simp (disch := omega) only [E_Md_readLine_1, mK_0 H, mR_6 H, mK_4 H, mN_4 H, mR_19 H, mK_7 H, mN_7 H, okO_ov, aR_ov, aN_ov, gd_true, gd_in, iI_cl, Int.toNat_natCast, aI_ov H.1, aL_ov H.1, sI_ov H.1, sL_ov H.1, letT_eq, q0, qn, n1, n2, h15, h7, h71, h151, h152, h73, bnd_some, bZ_0, l_0, l_1, l_6, iI_eq, iI_lt, iI_add, iI_s, reduceCtorEq, Int.reduceLT, Int.reduceNeg, ↓reduceIte]
          rw [if_neg (by omega), mw_ov]; rfl
        · have k2 := kOk_s hk1 (show ¬ kdT t (xsK x + 1) = 0 by omega)
          have OA : OnL m (sV (sW (atS m (xsK x + 1)) 7 (xsN x).length (mw64 (wdK t (xsK x + 1)))) 0 15 (iI (((xsN x).length + 1 : Nat) : Int))) := OnL_t O1 (OnL_t (OnL_7 _ _ _) (OnL_0 _ _ (by decide)))
          refine QL_fin H ht k2 (OnL_t OA (OnL_W (OnLw_Q (OnPq_at _ _)))) ?_ (c := c) ?_ rfl ?_ ?_
          · exact QK_at (QK_L OA hQ h73 (by unfold atS; simp (disch := decide) only [sV_eq, sW_eq, sV_ne, sW_ne, sV_2, sW_1, Nat.reduceEqDiff, ↓reduceIte]; exact hQ.2.2.2)) _
          · refine ⟨RT0_W (OnLw_Q (OnPq_at _ _)) ?_, ?_⟩
            · obtain ⟨⟨a1, a2, a3⟩, a4, a5, a6, a7⟩ := hR1
              refine ⟨⟨by simp (disch := decide) only [sV_eq, sW_eq, sV_ne, sW_ne, sV_2, sW_1, Nat.reduceEqDiff, ↓reduceIte]; exact a1, by simp (disch := decide) only [sV_eq, sW_eq, sV_ne, sW_ne, sV_2, sW_1, Nat.reduceEqDiff, ↓reduceIte]; exact a2, by simp (disch := decide) only [sV_eq, sW_eq, sV_ne, sW_ne, sV_2, sW_1, Nat.reduceEqDiff, ↓reduceIte]; exact a3⟩, ⟨?_, fun i hi => ?_⟩, ?_, ?_, ?_⟩
              · show _ = iI (((xsN x ++ [wdK t (xsK x + 1)]).length : Nat) : Int)
                rw [List.length_append, List.length_singleton]; simp (disch := decide) only [sV_eq, sW_eq, sV_ne, sW_ne, sV_2, sW_1, Nat.reduceEqDiff, ↓reduceIte]
              · have hi : i < (xsN x ++ [wdK t (xsK x + 1)]).length := hi
                show _ = mw64 ((xsN x ++ [wdK t (xsK x + 1)]).getD i [])
                rw [List.length_append, List.length_singleton] at hi
                rw [sV_2, sW_eq]
                by_cases e : i = (xsN x).length
                · rw [if_pos e, e, getD_app2]
                · rw [if_neg e, getD_app1 _ _ _ (by omega)]; exact a4.2 i (by omega)
              · rw [sV_ne _ _ _ _ (by decide), sW_1]; exact a5
              · rw [sV_ne _ _ _ _ (by decide), sW_1]; exact a6
              · rw [sV_ne _ _ _ _ (by decide), sW_1]; exact a7
            · refine RC_0 (RC_0 ?_ _ (by decide)) _ (by decide)
              exact hC1
          · show c.length ≤ xsK x + 2 + cF x
            omega
          · show (xsN x ++ [wdK t (xsK x + 1)]).length ≤ 6
            rw [List.length_append, List.length_singleton]; omega
      · rw [if_neg z]
        rw [if_neg z] at n2
        have qf := p_mfail H ht hk1 hQ1 3
        replace qf : M_Md_faulty (A 0) (iI 3) (ov 40 A (sV m 0 7 (iI ((xsK x + 1 : Nat) : Int))) σ) = some (_, _) := qf
        refine ⟨_, ?_, QL_fa H ht x O1 (by omega) (by omega) hF1⟩
        rw [E_Md_readLine_0]
        simp (disch := omega) only [E_Md_readLine_1, mK_0 H, mR_6 H, mK_4 H, mN_4 H, okO_ov, aR_ov, aN_ov, gd_true, gd_in, iI_cl, Int.toNat_natCast, aI_ov H.1, aL_ov H.1, sI_ov H.1, letT_eq, q0, qn, n1, n2, qf, h15, h7, h71, bnd_some, bZ_0, l_0, l_1, l_3, l_6, iI_eq, iI_lt, iI_add, iI_s, reduceCtorEq, ↓reduceIte]
        rw [if_neg (by omega), if_neg (by omega), mw_ov]
    · rw [if_neg c3]
      rw [decide_eq_false c3] at qn
      have qf := p_mfail H ht hk1 hQ1 1
      replace qf : M_Md_faulty (A 0) (iI 1) (ov 40 A (sV m 0 7 (iI ((xsK x + 1 : Nat) : Int))) σ) = some (_, _) := qf
      refine ⟨_, ?_, QL_fa H ht x O1 (by omega) (by omega) hF1⟩
      rw [E_Md_readLine_0]
      simp (disch := omega) only [E_Md_readLine_1, mK_0 H, okO_ov, gd_true, aI_ov H.1, sI_ov H.1, letT_eq, q0, qn, qf, h15, h7, bnd_some, bZ_0, l_0, l_1, l_6, iI_eq, iI_lt, iI_add, iI_s, reduceCtorEq, ↓reduceIte]
      rw [if_neg (by omega), mw_ov]
  · rw [if_neg c6]
    have qf := p_mfail H ht x1 hQ 5
    replace qf : M_Md_faulty (A 0) (iI 5) (ov 40 A m σ) = some (_, _) := qf
    refine ⟨_, ?_, QL_fa H ht x (OnL_r m) (by omega) (by omega) hF⟩
    rw [E_Md_readLine_0]
    simp (disch := omega) only [mK_0 H, okO_ov, gd_true, aI_ov H.1, q0, qf, h15, bnd_some, bZ_0, l_0, l_5, l_6, iI_eq, reduceCtorEq, ↓reduceIte]
    rw [if_pos (by omega), mw_ov]
theorem p_takeN {t : PD} {A : Nat → Nat} {σ : AM} (H : LM A σ) (ht : wfT t) {k : Nat} {m : VM} (hk : kOk t k) (h : QK t k m) {g : Nat} (hg : g ≤ 60) : M_Md_takeNumber (A 0) (iI 1) (iI (g : Int)) (ov 40 A m σ) = if kdT t k = 2 then (if vlK t k < 1 ∨ g < vlK t k then some (iI 0, (ov 40 A (sV m 0 8 (iI ((4 + 16 * plT t k : Nat) : Int))) σ)) else some (iI (vlK t k : Int), (ov 40 A (atS m (k + 1)) σ))) else some (iI 0, (ov 40 A (sV m 0 8 (iI ((1 + 16 * plT t k : Nat) : Int))) σ)) := by
  obtain ⟨h1, h2, h3, h4⟩ := h
  have hl := kOk_le ht hk
  have hp := pl_b ht k
  obtain ⟨g1, g2, g3⟩ := h1 k hk
  have hs := so_le t k
  have qf1 := p_mfail H ht hk ⟨h1, h2, h3, h4⟩ 1
  replace qf1 : M_Md_faulty (A 0) (iI 1) (ov 40 A m σ) = _ := qf1
  have qf4 := p_mfail H ht hk ⟨h1, h2, h3, h4⟩ 4
  replace qf4 : M_Md_faulty (A 0) (iI 4) (ov 40 A m σ) = _ := qf4
  unfold M_Md_takeNumber
  rw [E_Md_takeNumber_0]
  by_cases c2 : kdT t k = 2
  · rw [if_pos c2]
    have hv := (g3 (by omega)).2.1 c2
    have hvl := vl_lt c2 ht
    have hso := so_2.mpr c2
    rw [iI_j (by omega) (by omega)] at hv
    have ek : ((k + 1 : Nat) : Int) - 1 = (k : Int) := by omega
    have e7 : (sV m 0 7 (iI ((k + 1 : Nat) : Int))).1 0 7 = iI ((k + 1 : Nat) : Int) := by simp (disch := decide) only [sV_eq, sW_eq, sV_ne, sW_ne, sV_2, sW_1, Nat.reduceEqDiff, ↓reduceIte]
    have eg : (iI 1).toInt64 = jI 1 := iI_j (by omega) (by omega)
    have eg2 : (iI (g : Int)).toInt64 = jI (g : Int) := iI_j (by omega) (by omega)
    have ev2 : (sV m 0 7 (iI ((k + 1 : Nat) : Int))).2 4 k = jI (vlK t k : Int) := hv
    simp (disch := omega) only [E_Md_takeNumber_1, E_Md_takeNumber_2, mK_0 H, mR_4 H, mK_2 H, mN_2 H, mR_6 H, mK_4 H, mN_4 H, okO_ov, aR_ov, aN_ov, gd_true, gd_in, iI_cl, Int.toNat_natCast, aI_ov H.1, aL_ov H.1, h3, h4, g1, hso, hv, eg, eg2, lgJ_lt, lgJ_gt, qf4, bnd_some, l_0, l_1, l_2, l_4, iI_eq, Int.reduceEq, ↓reduceIte]
    rw [if_pos (show ((2 : Nat) : Int) = 2 from rfl)]
    have f3 : L_Md_takeNumber_3 (A 0) (ov 40 A (sV m 0 8 (iI ((4 + 16 * plT t k : Nat) : Int))) σ) = some (iI 0, (ov 40 A (sV m 0 8 (iI ((4 + 16 * plT t k : Nat) : Int))) σ)) := by
      have e8 : (sV m 0 8 (iI ((4 + 16 * plT t k : Nat) : Int))).1 0 8 = iI ((4 + 16 * plT t k : Nat) : Int) := by simp (disch := decide) only [sV_eq, sW_eq, sV_ne, sW_ne, sV_2, sW_1, Nat.reduceEqDiff, ↓reduceIte]
      rw [E_Md_takeNumber_3]
      simp (disch := omega) only [mK_0 H, okO_ov, gd_true, aI_ov H.1, e8, l_0, iI_lt]
      rw [if_pos (by omega)]
    by_cases z : vlK t k < 1 ∨ g < vlK t k
    · rw [if_pos z, f3]
      by_cases y : vlK t k < 1
      · rw [if_pos (by omega), mw_ov]
      · rw [if_neg (by omega), if_pos (by omega), mw_ov]
    · rw [if_neg z, if_neg (by omega), if_neg (by omega), E_Md_takeNumber_3]
      simp (disch := omega) only [mK_0 H, mR_6 H, mK_4 H, mN_4 H, okO_ov, aR_ov, aN_ov, gd_true, gd_in, iI_cl, Int.toNat_natCast, aI_ov H.1, aL_ov H.1, sI_ov H.1, letT_eq, h3, h4, e7, ek, ev2, jI_i, l_0, l_1, iI_lt, iI_add, iI_sub, iI_s, Int.lt_irrefl, ↓reduceIte, mw_ov]
      rfl
  · rw [if_neg c2]
    have hso : ¬ soK t k = 2 := fun y => c2 (so_2.mp y)
    have e8 : (sV m 0 8 (iI ((1 + 16 * plT t k : Nat) : Int))).1 0 8 = iI ((1 + 16 * plT t k : Nat) : Int) := by simp (disch := decide) only [sV_eq, sW_eq, sV_ne, sW_ne, sV_2, sW_1, Nat.reduceEqDiff, ↓reduceIte]
    simp (disch := omega) only [E_Md_takeNumber_3, mK_0 H, mR_4 H, mK_2 H, mN_2 H, okO_ov, aR_ov, aN_ov, gd_true, gd_in, iI_cl, Int.toNat_natCast, aI_ov H.1, h3, h4, g1, e8, qf1, bnd_some, l_0, l_1, l_2, iI_eq, iI_lt, ↓reduceIte]
    rw [if_neg (by omega), if_pos (by omega), mw_ov]
