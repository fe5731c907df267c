/-! ===== the reference reads a formula: levels ===== -/
def OnPq (m m' : VM) : Prop := (∀ c, c ≠ 0 → c ≠ 8 → c ≠ 9 → m'.1 c = m.1 c) ∧ (∀ j, j ∉ [7, 8, 22] → m'.1 0 j = m.1 0 j) ∧ m'.2 = m.2
theorem OnPq_r (m : VM) : OnPq m m := ⟨fun _ _ _ _ => rfl, fun _ _ => rfl, rfl⟩
theorem OnPq_t {a b c : VM} (h : OnPq a b) (k : OnPq b c) : OnPq a c := ⟨fun i h1 h2 h3 => (k.1 i h1 h2 h3).trans (h.1 i h1 h2 h3), fun i hi => (k.2.1 i hi).trans (h.2.1 i hi), k.2.2.trans h.2.2⟩
theorem OnPq_0 (m : VM) {j : Nat} (v : Int32) (hj : j ∈ [7, 8, 22]) : OnPq m (sV m 0 j v) := ⟨fun c h1 _ _ => by rw [sV_ne _ _ _ _ h1], fun i hi => by rw [sV_eq, if_neg (fun z => hi (by rw [z]; exact hj))], rfl⟩
theorem OnPq_at (m : VM) (k : Nat) : OnPq m (atS m k) := OnPq_0 m _ (by decide)
theorem OnPq_em (m : VM) (u : Nat) (a b : Int32) : OnPq m (emS m u a b) := by
  unfold emS
  refine ⟨fun c h1 h2 h3 => ?_, fun i hi => ?_, rfl⟩
  · rw [sV_ne _ _ _ _ h1, sV_ne _ _ _ _ h3, sV_ne _ _ _ _ h2]
  · rw [sV_eq, if_neg (fun z => hi (by rw [z]; decide)), sV_ne _ _ _ _ (by decide), sV_ne _ _ _ _ (by decide)]
theorem cuT_Q {t : PD} {m m' : VM} (h : OnPq m m') (k : cuT t m) : cuT t m' := fun i hi => by
  obtain ⟨g1, g2, g3⟩ := k i hi
  refine ⟨by rw [h.1 2 (by decide) (by decide) (by decide)]; exact g1, by rw [h.1 3 (by decide) (by decide) (by decide)]; exact g2, fun z => by rw [h.2.2]; exact g3 z⟩
theorem MWd_Q {m m' : VM} (h : OnPq m m') (k : MWd m) : MWd m' := fun i hi => by rw [h.2.2]; exact k i hi
theorem RN_Q {ns : List (List Nat)} {m m' : VM} (h : OnPq m m') (k : RN ns m) : RN ns m' := ⟨by rw [h.2.1 15 (by decide)]; exact k.1, fun i hi => by rw [h.2.2]; exact k.2 i hi⟩
def QS (t : PD) (ns : List (List Nat)) (ic : Bool) (k : Nat) (c : List Nat) (m : VM) : Prop := QK t k m ∧ m.1 0 23 = bZ (!ic) ∧ RN ns m ∧ RC c m
theorem QS_Q {t : PD} {ns : List (List Nat)} {ic : Bool} {k k' : Nat} {c c' : List Nat} {m m' : VM} (h : OnPq m m') (q : QS t ns ic k c m) (h7 : m'.1 0 7 = iI (k' : Int)) (h8 : m'.1 0 8 = iI 0) (hc : RC c' m') : QS t ns ic k' c' m' := ⟨⟨cuT_Q h q.1.1, MWd_Q h q.1.2.1, h7, h8⟩, by rw [h.2.1 23 (by decide)]; exact q.2.1, RN_Q h q.2.2.1, hc⟩
theorem RC_0 {c : List Nat} {m : VM} (h : RC c m) {j : Nat} (v : Int32) (hj : j ≠ 22) : RC c (sV m 0 j v) := ⟨by rw [sV_eq, if_neg (fun z => hj z.symm)]; exact h.1, fun i hi => by rw [sV_ne _ _ _ _ (by decide), sV_ne _ _ _ _ (by decide)]; exact h.2 i hi⟩
theorem QS_at {t : PD} {ns : List (List Nat)} {ic : Bool} {k : Nat} {c : List Nat} {m : VM} (q : QS t ns ic k c m) (k' : Nat) : QS t ns ic k' c (atS m k') := QS_Q (OnPq_at m k') q (by unfold atS; simp (disch := decide) only [sV_eq, sW_eq, sV_ne, sW_ne, sV_2, sW_1, Nat.reduceEqDiff, ↓reduceIte]) (by unfold atS; simp (disch := decide) only [sV_eq, sW_eq, sV_ne, sW_ne, sV_2, sW_1, Nat.reduceEqDiff, ↓reduceIte]; exact q.1.2.2.2) (RC_0 q.2.2.2 _ (by decide))
theorem em_7 (m : VM) (u : Nat) (a b : Int32) {j : Nat} (hj : j ≠ 22) : (emS m u a b).1 0 j = m.1 0 j := by
  unfold emS
  rw [sV_eq, if_neg hj, sV_ne _ _ _ _ (by decide), sV_ne _ _ _ _ (by decide)]
theorem QS_em {t : PD} {ns : List (List Nat)} {ic : Bool} {k : Nat} {c : List Nat} {m : VM} (q : QS t ns ic k c m) (v : Nat) : QS t ns ic k (c ++ [v]) (emS m c.length (iI (opR v : Int)) (iI (agR v : Int))) := QS_Q (OnPq_em m _ _ _) q (by rw [em_7 _ _ _ _ (by decide)]; exact q.1.2.2.1) (by rw [em_7 _ _ _ _ (by decide)]; exact q.1.2.2.2) (RC_em q.2.2.2 v)
def QU (B : Nat) (m : VM) : Prop := ∃ u : Nat, u ≤ B ∧ m.1 0 22 = iI (u : Int)
theorem QU_le {B B' : Nat} {m : VM} (h : QU B m) (hb : B ≤ B') : QU B' m := by
  obtain ⟨u, u1, u2⟩ := h
  exact ⟨u, by omega, u2⟩
def QZ (t : PD) (ns : List (List Nat)) (ic : Bool) (c : List Nat) (B : Nat) (r : PRs) (m m' : VM) : Prop := OnPq m m' ∧ QU B m' ∧ m'.1 0 8 = iI (r.1 : Int) ∧ r.1 ≤ 20000 ∧ (r.1 = 0 → QS t ns ic r.2.1 (c ++ r.2.2) m')
def pmT (t : PD) (ns : List (List Nat)) (ic : Bool) (A : Nat → Nat) (σ : AM) (s : Nat → PRs) (B : Nat) (f : AM → Option (Unit × AM)) : Prop := ∀ k c m, kOk t k → c.length ≤ k + 5 → QS t ns ic k c m → ∃ m' : VM, f (ov 40 A m σ) = some ((), (ov 40 A (m') σ)) ∧ QZ t ns ic c B (s k) m m'
theorem p_takeS {t : PD} {A : Nat → Nat} {σ : AM} (H : LM A σ) (ht : wfT t) {k : Nat} {m : VM} (hk : kOk t k) (h : QK t k m) {c : Nat} (hc1 : 14 ≤ c) (hc2 : c < 128) : M_Md_takeSign (A 0) (iI (c : Int)) (ov 40 A m σ) = some ((), (ov 40 A (if kdT t k = c then atS m (k + 1) else sV m 0 8 (iI ((1 + 16 * plT t k : Nat) : Int))) σ)) := by
  have q := q_isSign H ht hk h hc1 hc2
  have hf := p_mfail H ht hk h 1
  replace hf : M_Md_faulty (A 0) (iI 1) _ = _ := hf
  have h7 := h.2.2.1
  have hl := kOk_le ht hk
  unfold M_Md_takeSign
  rw [E_Md_takeSign_0]
  simp (disch := omega) only [E_Md_takeSign_1, mK_0 H, okO_ov, gd_true, aI_ov H.1, sI_ov H.1, letT_eq, q, hf, bnd_some, h7, bZ_0, l_0, l_1, iI_add, iI_s]
  by_cases z : kdT t k = c
  · rw [if_neg (by rw [decide_eq_true z]; decide), if_pos z, mw_ov]; rfl
  · rw [if_pos (by rw [decide_eq_false z]), if_neg z, mw_ov]
theorem p_takeSF {A : Nat → Nat} {σ : AM} (H : LM A σ) {m : VM} {f : Nat} (h : m.1 0 8 = iI (f : Int)) (hf : ¬ f = 0) (hf2 : f ≤ 20000) (w : Int32) : M_Md_takeSign (A 0) w (ov 40 A m σ) = some ((), (ov 40 A m σ)) := by
  have q := q_isSignF H h hf hf2 w
  have hf := p_mfailF H h hf hf2 (iI 1)
  unfold M_Md_takeSign
  rw [E_Md_takeSign_0]
  simp (disch := omega) only [E_Md_takeSign_1, mK_0 H, okO_ov, gd_true, q, hf, bnd_some, bZ_0, l_0, l_1, ↓reduceIte, mw_ov]
theorem m_loop {t : PD} {A : Nat → Nat} {σ : AM} (ht : wfT t) {ns : List (List Nat)} {ic : Bool} {s : Nat → PRs} (hs : gdP t s) {lv : Nat} (hl : lv < 4) {B : Nat} (hB : 1005 ≤ B) (hB2 : B < 1098) {sub F : AM → Option (Unit × AM)} (hX : pmT t ns ic A σ s B sub)
    (hE : ∀ k c m, kOk t k → QS t ns ic k c m → ¬ lvO (kdT t k) = lv → F (ov 40 A m σ) = some ((), (ov 40 A m σ)))
    (hF : ∀ (f : Nat) m, m.1 0 8 = iI (f : Int) → ¬ f = 0 → f ≤ 20000 → F (ov 40 A m σ) = some ((), (ov 40 A m σ)))
    (hS : ∀ k c m m3 (u : Nat), kOk t k → QS t ns ic k c m → lvO (kdT t k) = lv → sub (ov 40 A (atS m (k + 1)) σ) = some ((), (ov 40 A m3 σ)) → m3.1 0 22 = iI (u : Int) → u < 1100 → F (ov 40 A m σ) = F (ov 40 A (emS m3 u (iI (opR (cdO (kdT t k)) : Int)) (iI (agR (cdO (kdT t k)) : Int))) σ)) :
    ∀ n k c l m0 m, OnPq m0 m → kOk t k → (c ++ l).length ≤ k + 5 → 1001 ≤ k + n → QS t ns ic k (c ++ l) m → ∃ m' : VM, F (ov 40 A m σ) = some ((), (ov 40 A (m') σ)) ∧ QZ t ns ic c (B + 1) (loS t s lv n k l) m0 m' := by
  intro n
  induction n with
  | zero =>
    intro k c l m0 m _ hk _ hn _
    have := kOk_le ht hk
    omega
  | succ n ih =>
    intro k c l m0 m hO hk hc hn hQ
    have hkl := kOk_le ht hk
    by_cases z : lvO (kdT t k) = lv
    · have hk2 := kOk_s hk (lvO_0 z hl)
      obtain ⟨m3, e3, y1, ⟨u, u1, u2⟩, y3, y4, y5⟩ := hX (k + 1) (c ++ l) (atS m (k + 1)) hk2 (by omega) (QS_at hQ _)
      have eS := hS k (c ++ l) m m3 u hk hQ z e3 u2 (by omega)
      rw [eS]
      have hO4 : OnPq m0 (emS m3 u (iI (opR (cdO (kdT t k)) : Int)) (iI (agR (cdO (kdT t k)) : Int))) := OnPq_t hO (OnPq_t (OnPq_at m _) (OnPq_t y1 (OnPq_em _ _ _ _)))
      have el : loS t s lv (n + 1) k l = bR (s (k + 1)) (fun k' l' => loS t s lv n k' (l ++ l' ++ [cdO (kdT t k)])) := if_pos z
      rw [el]
      by_cases y : (s (k + 1)).1 = 0
      · obtain ⟨g1, g2, g3⟩ := hs (k + 1) hk2 y
        have q3 := y5 y
        have eu : u = (c ++ l ++ (s (k + 1)).2.2).length := by
          have h1 := q3.2.2.2.1.symm.trans u2
          have hg := kOk_le ht g1
          rw [List.length_append] at h1 ⊢
          rw [iI_eq (by omega) (by omega) (by omega) (by omega)] at h1
          omega
        have q4 := QS_em q3 (cdO (kdT t k))
        rw [← eu] at q4
        rw [show bR (s (k + 1)) (fun k' l' => loS t s lv n k' (l ++ l' ++ [cdO (kdT t k)])) = loS t s lv n (s (k + 1)).2.1 (l ++ (s (k + 1)).2.2 ++ [cdO (kdT t k)]) from if_pos y]
        have ea : c ++ l ++ (s (k + 1)).2.2 ++ [cdO (kdT t k)] = c ++ (l ++ (s (k + 1)).2.2 ++ [cdO (kdT t k)]) := by simp only [List.append_assoc]
        rw [ea] at q4
        refine ih _ c _ m0 _ hO4 g1 ?_ (by omega) q4
        rw [← ea, List.length_append, List.length_append, List.length_singleton]; omega
      · rw [bR_no y]
        have h8 : (emS m3 u (iI (opR (cdO (kdT t k)) : Int)) (iI (agR (cdO (kdT t k)) : Int))).1 0 8 = iI ((s (k + 1)).1 : Int) := by rw [em_7 _ _ _ _ (by decide)]; exact y3
        refine ⟨_, hF _ _ h8 y y4, hO4, ⟨u + 1, by omega, by unfold emS; simp (disch := decide) only [sV_eq, sW_eq, sV_ne, sW_ne, sV_2, sW_1, Nat.reduceEqDiff, ↓reduceIte]⟩, h8, y4, fun x => absurd x y⟩
    · have el : loS t s lv (n + 1) k l = (0, k, l) := if_neg z
      rw [el]
      exact ⟨m, hE k _ m hk hQ z, hO, ⟨_, by omega, hQ.2.2.2.1⟩, hQ.1.2.2.2, Nat.zero_le _, fun _ => hQ⟩
theorem m_lv {t : PD} {A : Nat → Nat} {σ : AM} (ht : wfT t) {ns : List (List Nat)} {ic : Bool} {s : Nat → PRs} (hs : gdP t s) {lv : Nat} (hl : lv < 4) (hl1 : ¬ lv = 1) {B : Nat} (hB : 1005 ≤ B) (hB2 : B < 1098) {sub F G : AM → Option (Unit × AM)} (hX : pmT t ns ic A σ s B sub)
    (hG : ∀ m m1, sub (ov 40 A m σ) = some ((), (ov 40 A m1 σ)) → G (ov 40 A m σ) = mw (ov 40 A m σ) (F (ov 40 A m1 σ)))
    (hE : ∀ k c m, kOk t k → QS t ns ic k c m → ¬ lvO (kdT t k) = lv → F (ov 40 A m σ) = some ((), (ov 40 A m σ)))
    (hF : ∀ (f : Nat) m, m.1 0 8 = iI (f : Int) → ¬ f = 0 → f ≤ 20000 → F (ov 40 A m σ) = some ((), (ov 40 A m σ)))
    (hS : ∀ k c m m3 (u : Nat), kOk t k → QS t ns ic k c m → lvO (kdT t k) = lv → sub (ov 40 A (atS m (k + 1)) σ) = some ((), (ov 40 A m3 σ)) → m3.1 0 22 = iI (u : Int) → u < 1100 → F (ov 40 A m σ) = F (ov 40 A (emS m3 u (iI (opR (cdO (kdT t k)) : Int)) (iI (agR (cdO (kdT t k)) : Int))) σ)) : pmT t ns ic A σ (lvS t s lv) (B + 1) G := by
  intro k c m hk hc hQ
  obtain ⟨m1, e1, y1, y2, y3, y4, y5⟩ := hX k c m hk hc hQ
  rw [hG m m1 e1]
  by_cases y : (s k).1 = 0
  · obtain ⟨g1, g2, g3⟩ := hs k hk y
    obtain ⟨m', e, r⟩ := m_loop ht hs hl hB hB2 hX hE hF hS 1000 (s k).2.1 c (s k).2.2 m m1 y1 g1 (by rw [List.length_append]; omega) (by omega) (y5 y)
    refine ⟨m', by rw [e, mw_ov], ?_⟩
    rw [show lvS t s lv k = loS t s lv (if lv = 1 then 1 else 1000) (s k).2.1 (s k).2.2 from if_pos y, if_neg hl1]
    exact r
  · refine ⟨m1, by rw [hF _ _ y3 y y4, mw_ov], ?_⟩
    rw [show lvS t s lv k = s k from if_neg y]
    exact ⟨y1, QU_le y2 (by omega), y3, y4, fun x => absurd x y⟩
theorem lv_3 {c : Nat} : lvO c = 3 ↔ c = 42 := by
  unfold lvO
  by_cases c1 : c = 10 ∨ c = 11
  · rw [if_pos c1]; omega
  rw [if_neg c1]
  by_cases c2 : c = 60 ∨ c = 61
  · rw [if_pos c2]; omega
  rw [if_neg c2]
  by_cases c3 : c = 43 ∨ c = 45
  · rw [if_pos c3]; omega
  rw [if_neg c3]
  by_cases c4 : c = 42
  · rw [if_pos c4]; omega
  · rw [if_neg c4]; omega
theorem lv_2 {c : Nat} : lvO c = 2 ↔ c = 43 ∨ c = 45 := by
  unfold lvO
  by_cases c1 : c = 10 ∨ c = 11
  · rw [if_pos c1]; omega
  rw [if_neg c1]
  by_cases c2 : c = 60 ∨ c = 61
  · rw [if_pos c2]; omega
  rw [if_neg c2]
  by_cases c3 : c = 43 ∨ c = 45
  · rw [if_pos c3]; omega
  rw [if_neg c3]
  by_cases c4 : c = 42
  · rw [if_pos c4]; omega
  · rw [if_neg c4]; omega
theorem lv_1 {c : Nat} : lvO c = 1 ↔ c = 60 ∨ c = 61 := by
  unfold lvO
  by_cases c1 : c = 10 ∨ c = 11
  · rw [if_pos c1]; omega
  rw [if_neg c1]
  by_cases c2 : c = 60 ∨ c = 61
  · rw [if_pos c2]; omega
  rw [if_neg c2]
  by_cases c3 : c = 43 ∨ c = 45
  · rw [if_pos c3]; omega
  rw [if_neg c3]
  by_cases c4 : c = 42
  · rw [if_pos c4]; omega
  · rw [if_neg c4]; omega
theorem lv_0 {c : Nat} : lvO c = 0 ↔ c = 10 ∨ c = 11 := by
  unfold lvO
  by_cases c1 : c = 10 ∨ c = 11
  · rw [if_pos c1]; omega
  rw [if_neg c1]
  by_cases c2 : c = 60 ∨ c = 61
  · rw [if_pos c2]; omega
  rw [if_neg c2]
  by_cases c3 : c = 43 ∨ c = 45
  · rw [if_pos c3]; omega
  rw [if_neg c3]
  by_cases c4 : c = 42
  · rw [if_pos c4]; omega
  · rw [if_neg c4]; omega
theorem m_products {t : PD} {A : Nat → Nat} {σ : AM} (H : LM A σ) (ht : wfT t) {ns : List (List Nat)} {ic : Bool} {s : Nat → PRs} (hs : gdP t s) {B : Nat} (hB : 1005 ≤ B) (hB2 : B < 1098) {rec : GT_Md_all_Md_products_Md_sums_Md_takePart_M} {wi : Int32} (hX : pmT t ns ic A σ s B (fun σ => rec.2.2.2.1 (A 0) wi σ)) : pmT t ns ic A σ (lvS t s 3) (B + 1) (fun σ => N_Md_products rec (A 0) wi σ) := by
  refine m_lv ht hs (by omega) (by omega) hB hB2 (F := fun σ => L_Md_products_1 rec (A 0) wi σ) hX (fun m m1 e => ?_) (fun k c m hk hQ z => ?_) (fun f m h hf hf2 => ?_) (fun k c m m3 u hk hQ z e3 u2 hu => ?_)
  · replace e : rec.2.2.2.1 (A 0) wi (ov 40 A m σ) = some ((), (ov 40 A m1 σ)) := e
    show mw _ (L_Md_products_0 rec (A 0) wi (ov 40 A m σ)) = _
    rw [E_Md_products_0]
    simp only [mK_0 H, okO_ov, gd_true, e, bnd_some]
  · have q := q_hasSign H ht hk hQ.1 (c := 42) (by omega) (by omega)
    replace q : M_Md_hasSign (A 0) (iI 42) (ov 40 A m σ) = _ := q
    have z2 : ¬ kdT t k = 42 := fun y => z (lv_3.mpr y)
    rw [decide_eq_false z2, if_neg z2] at q
    show L_Md_products_1 rec (A 0) wi (ov 40 A m σ) = _
    rw [E_Md_products_1]
    simp only [mK_0 H, okO_ov, gd_true, l_42, l_0, q, bnd_some, bZ_0, ↓reduceIte]
  · have q := q_hasSignF H h hf hf2 (iI 42)
    show L_Md_products_1 rec (A 0) wi (ov 40 A m σ) = _
    rw [E_Md_products_1]
    simp only [mK_0 H, okO_ov, gd_true, l_42, l_0, q, bnd_some, bZ_0, ↓reduceIte]
  · have q := q_hasSign H ht hk hQ.1 (c := 42) (by omega) (by omega)
    replace q : M_Md_hasSign (A 0) (iI 42) (ov 40 A m σ) = _ := q
    have z2 := lv_3.mp z
    rw [decide_eq_true z2, if_pos z2] at q
    replace e3 : rec.2.2.2.1 (A 0) wi (ov 40 A (atS m (k + 1)) σ) = some ((), (ov 40 A m3 σ)) := e3
    have q2 := p_emit H u2 hu (iI 6) (iI 0)
    show L_Md_products_1 rec (A 0) wi (ov 40 A m σ) = L_Md_products_1 rec (A 0) wi _
    rw [z2]
    rw [E_Md_products_1]
    simp only [mK_0 H, okO_ov, gd_true, l_42, l_0, l_6, q, e3, q2, bnd_some, bZ_0, reduceCtorEq, ↓reduceIte]
    rfl
theorem m_sums {t : PD} {A : Nat → Nat} {σ : AM} (H : LM A σ) (ht : wfT t) {ns : List (List Nat)} {ic : Bool} {s : Nat → PRs} (hs : gdP t s) {B : Nat} (hB : 1005 ≤ B) (hB2 : B < 1098) {rec : GT_Md_all_Md_products_Md_sums_Md_takePart_M} {wi : Int32} (hX : pmT t ns ic A σ s B (fun σ => rec.2.1 (A 0) wi σ)) : pmT t ns ic A σ (lvS t s 2) (B + 1) (fun σ => N_Md_sums rec (A 0) wi σ) := by
  refine m_lv ht hs (by omega) (by omega) hB hB2 (F := fun σ => L_Md_sums_1 rec (A 0) wi σ) hX (fun m m1 e => ?_) (fun k c m hk hQ z => ?_) (fun f m h hf hf2 => ?_) (fun k c m m3 u hk hQ z e3 u2 hu => ?_)
  · replace e : rec.2.1 (A 0) wi (ov 40 A m σ) = some ((), (ov 40 A m1 σ)) := e
    show mw _ (L_Md_sums_0 rec (A 0) wi (ov 40 A m σ)) = _
    rw [E_Md_sums_0]
    simp only [mK_0 H, okO_ov, gd_true, e, bnd_some]
  · have q := q_isSign H ht hk hQ.1 (c := 43) (by omega) (by omega)
    replace q : M_Md_isSign (A 0) (iI 43) (ov 40 A m σ) = _ := q
    have p := q_isSign H ht hk hQ.1 (c := 45) (by omega) (by omega)
    replace p : M_Md_isSign (A 0) (iI 45) (ov 40 A m σ) = _ := p
    have z2 : ¬ (kdT t k = 43 ∨ kdT t k = 45) := fun y => z (lv_2.mpr y)
    rw [decide_eq_false (fun y => z2 (Or.inl y))] at q
    rw [decide_eq_false (fun y => z2 (Or.inr y))] at p
    show L_Md_sums_1 rec (A 0) wi (ov 40 A m σ) = _
    rw [E_Md_sums_1]
    simp only [mK_0 H, okO_ov, gd_true, l_43, l_45, l_0, q, p, bnd_some, bZ_0, ↓reduceIte]
  · have q := q_isSignF H h hf hf2
    show L_Md_sums_1 rec (A 0) wi (ov 40 A m σ) = _
    rw [E_Md_sums_1]
    simp only [mK_0 H, okO_ov, gd_true, l_43, l_45, l_0, q, bnd_some, bZ_0, ↓reduceIte]
  · have q := q_isSign H ht hk hQ.1 (c := 43) (by omega) (by omega)
    replace q : M_Md_isSign (A 0) (iI 43) (ov 40 A m σ) = _ := q
    have p := q_isSign H ht hk hQ.1 (c := 45) (by omega) (by omega)
    replace p : M_Md_isSign (A 0) (iI 45) (ov 40 A m σ) = _ := p
    have hl := kOk_le ht hk
    have h7 := hQ.1.2.2.1
    replace e3 : rec.2.1 (A 0) wi (ov 40 A (sV m 0 7 (iI ((k + 1 : Nat) : Int))) σ) = some ((), (ov 40 A m3 σ)) := e3
    show L_Md_sums_1 rec (A 0) wi (ov 40 A m σ) = L_Md_sums_1 rec (A 0) wi _
    rcases lv_2.mp z with z2 | z2
    · rw [decide_eq_true z2] at q
      have q2 := p_emit H u2 hu (iI 4) (iI 0)
      rw [z2, E_Md_sums_1]
      simp (disch := omega) only [E_Md_sums_2, E_Md_sums_3, mK_0 H, okO_ov, gd_true, aI_ov H.1, sI_ov H.1, letT_eq, h7, l_43, l_45, l_0, l_1, l_4, iI_add, iI_s, q, e3, q2, bnd_some, bZ_0, reduceCtorEq, ↓reduceIte]
      rfl
    · rw [decide_eq_false (show ¬ kdT t k = 43 by omega)] at q
      rw [decide_eq_true z2] at p
      have q2 := p_emit H u2 hu (iI 5) (iI 0)
      rw [z2, E_Md_sums_1]
      simp (disch := omega) only [E_Md_sums_2, E_Md_sums_3, mK_0 H, okO_ov, gd_true, aI_ov H.1, sI_ov H.1, letT_eq, h7, l_43, l_45, l_0, l_1, l_5, iI_add, iI_s, q, p, e3, q2, bnd_some, bZ_0, reduceCtorEq, ↓reduceIte]
      rfl
theorem m_all {t : PD} {A : Nat → Nat} {σ : AM} (H : LM A σ) (ht : wfT t) {ns : List (List Nat)} {ic : Bool} {s : Nat → PRs} (hs : gdP t s) {B : Nat} (hB : 1005 ≤ B) (hB2 : B < 1098) {rec : GT_Md_all_Md_products_Md_sums_Md_takePart_M} {wi : Int32} (hX : pmT t ns ic A σ s B (fun σ => rec.2.2.2.2 (A 0) wi σ)) : pmT t ns ic A σ (lvS t s 0) (B + 1) (fun σ => N_Md_all rec (A 0) wi σ) := by
  refine m_lv ht hs (by omega) (by omega) hB hB2 (F := fun σ => L_Md_all_1 rec (A 0) wi σ) hX (fun m m1 e => ?_) (fun k c m hk hQ z => ?_) (fun f m h hf hf2 => ?_) (fun k c m m3 u hk hQ z e3 u2 hu => ?_)
  · replace e : rec.2.2.2.2 (A 0) wi (ov 40 A m σ) = some ((), (ov 40 A m1 σ)) := e
    show mw _ (L_Md_all_0 rec (A 0) wi (ov 40 A m σ)) = _
    rw [E_Md_all_0]
    simp only [mK_0 H, okO_ov, gd_true, e, bnd_some]
  · have q := q_isWord H ht hk hQ.1 (w := 6) (by omega)
    replace q : M_Md_isWord (A 0) (iI 6) (ov 40 A m σ) = _ := q
    have p := q_isWord H ht hk hQ.1 (w := 7) (by omega)
    replace p : M_Md_isWord (A 0) (iI 7) (ov 40 A m σ) = _ := p
    have z2 : ¬ (kdT t k = 10 ∨ kdT t k = 11) := fun y => z (lv_0.mpr y)
    rw [decide_eq_false (by omega)] at q
    rw [decide_eq_false (by omega)] at p
    show L_Md_all_1 rec (A 0) wi (ov 40 A m σ) = _
    rw [E_Md_all_1]
    simp only [mK_0 H, okO_ov, gd_true, l_6, l_7, l_0, q, p, bnd_some, bZ_0, ↓reduceIte]
  · have q := q_isWordF H h hf hf2
    show L_Md_all_1 rec (A 0) wi (ov 40 A m σ) = _
    rw [E_Md_all_1]
    simp only [mK_0 H, okO_ov, gd_true, l_6, l_7, l_0, q, bnd_some, bZ_0, ↓reduceIte]
  · have q := q_isWord H ht hk hQ.1 (w := 6) (by omega)
    replace q : M_Md_isWord (A 0) (iI 6) (ov 40 A m σ) = _ := q
    have p := q_isWord H ht hk hQ.1 (w := 7) (by omega)
    replace p : M_Md_isWord (A 0) (iI 7) (ov 40 A m σ) = _ := p
    have hl := kOk_le ht hk
    have h7 := hQ.1.2.2.1
    replace e3 : rec.2.2.2.2 (A 0) wi (ov 40 A (sV m 0 7 (iI ((k + 1 : Nat) : Int))) σ) = some ((), (ov 40 A m3 σ)) := e3
    show L_Md_all_1 rec (A 0) wi (ov 40 A m σ) = L_Md_all_1 rec (A 0) wi _
    rcases lv_0.mp z with z2 | z2
    · rw [decide_eq_true (by omega)] at q
      have q2 := p_emit H u2 hu (iI 9) (iI 0)
      rw [z2, E_Md_all_1]
      simp (disch := omega) only [E_Md_all_2, E_Md_all_3, mK_0 H, okO_ov, gd_true, aI_ov H.1, sI_ov H.1, letT_eq, h7, l_6, l_7, l_0, l_1, l_9, iI_add, iI_s, q, e3, q2, bnd_some, bZ_0, reduceCtorEq, ↓reduceIte]
      rfl
    · rw [decide_eq_false (by omega)] at q
      rw [decide_eq_true (by omega)] at p
      have q2 := p_emit H u2 hu (iI 10) (iI 0)
      rw [z2, E_Md_all_1]
      simp (disch := omega) only [E_Md_all_2, E_Md_all_3, mK_0 H, okO_ov, gd_true, aI_ov H.1, sI_ov H.1, letT_eq, h7, l_6, l_7, l_0, l_1, l_10, iI_add, iI_s, q, p, e3, q2, bnd_some, bZ_0, reduceCtorEq, ↓reduceIte]
      rfl
