/-! ===== the lines of a text ===== -/
/-- the next token, the names, most, bar, the allows, the cost -/
abbrev XS : Type := Nat × List (List Nat) × Option Nat × Option Nat × List (List Nat) × Option (List Nat)
def xsK (x : XS) : Nat := x.1
def xsN (x : XS) : List (List Nat) := x.2.1
def xsM (x : XS) : Option Nat := x.2.2.1
def xsB (x : XS) : Option Nat := x.2.2.2.1
def xsA (x : XS) : List (List Nat) := x.2.2.2.2.1
def xsC (x : XS) : Option (List Nat) := x.2.2.2.2.2
abbrev XR : Type := Nat × XS
def faL (t : PD) (k c : Nat) (x : XS) : XR := (c + 16 * plT t k, x)
def epL (t : PD) (k : Nat) (x x0 : XS) : XR := if kdT t k = 59 then (0, x) else faL t k 1 x0
def thL (t : PD) (x : XS) : XR := if (xsN x).length < 6 then (if kdT t (xsK x + 1) = 3 then (if idxN (xsN x) (wdK t (xsK x + 1)) = (xsN x).length then epL t (xsK x + 2) (xsK x + 3, xsN x ++ [wdK t (xsK x + 1)], xsM x, xsB x, xsA x, xsC x) x else faL t (xsK x + 1) 3 x) else faL t (xsK x + 1) 1 x) else faL t (xsK x) 5 x
def nuL (t : PD) (k g : Nat) (f : Nat → XS) (x : XS) : XR := if kdT t (k + 1) = 2 then (if vlK t (k + 1) < 1 ∨ g < vlK t (k + 1) then faL t (k + 1) 4 x else epL t (k + 2) (f (vlK t (k + 1))) x) else faL t (k + 1) 1 x
def moL (t : PD) (x : XS) : XR := if (xsM x).isSome = true then faL t (xsK x) 3 x else nuL t (xsK x) 9 (fun v => (xsK x + 3, xsN x, some v, xsB x, xsA x, xsC x)) x
def baL (t : PD) (x : XS) : XR := if (xsB x).isSome = true then faL t (xsK x) 3 x else nuL t (xsK x) 60 (fun v => (xsK x + 3, xsN x, xsM x, some v, xsA x, xsC x)) x
def fmS (t : PD) (ns : List (List Nat)) (ic : Bool) (k : Nat) : PRs := exS t (paS t ns ic 5) 4 k
def alL (t : PD) (x : XS) : XR := if (xsA x).length < 4 then (if (fmS t (xsN x) false (xsK x + 1)).1 = 0 then epL t (fmS t (xsN x) false (xsK x + 1)).2.1 ((fmS t (xsN x) false (xsK x + 1)).2.1 + 1, xsN x, xsM x, xsB x, xsA x ++ [(fmS t (xsN x) false (xsK x + 1)).2.2], xsC x) x else ((fmS t (xsN x) false (xsK x + 1)).1, x)) else faL t (xsK x) 5 x
def coL (t : PD) (x : XS) : XR := if (xsC x).isSome = true then faL t (xsK x) 3 x else if (fmS t (xsN x) true (xsK x + 1)).1 = 0 then epL t (fmS t (xsN x) true (xsK x + 1)).2.1 ((fmS t (xsN x) true (xsK x + 1)).2.1 + 1, xsN x, xsM x, xsB x, xsA x, some (fmS t (xsN x) true (xsK x + 1)).2.2) x else ((fmS t (xsN x) true (xsK x + 1)).1, x)
def lnS (t : PD) (x : XS) : XR := if kdT t (xsK x) = 4 then thL t x else if kdT t (xsK x) = 5 then moL t x else if kdT t (xsK x) = 6 then baL t x else if kdT t (xsK x) = 7 then alL t x else if kdT t (xsK x) = 8 then coL t x else faL t (xsK x) 1 x
def rdS (t : PD) : Nat → XS → XR
  | 0, x => (0, x)
  | n + 1, x => if kdT t (xsK x) = 0 then (0, x) else if (lnS t x).1 = 0 then rdS t n (lnS t x).2 else lnS t x
def x0S : XS := (0, [], none, none, [], none)
def mxS (x : XS) : Nat := (xsM x).getD 3
def twS (t : PD) : XR := if (rdS t 1000 x0S).1 = 0 then (if 16384 < (mxS (rdS t 1000 x0S).2 + 1) ^ (xsN (rdS t 1000 x0S).2).length then faL t (xsK (rdS t 1000 x0S).2) 6 (rdS t 1000 x0S).2 else rdS t 1000 x0S) else rdS t 1000 x0S
/-- a formula lies in the codes -/
def slc (c : List Nat) (s : Nat) (l : List Nat) : Prop := s + l.length ≤ c.length ∧ ∀ j, j < l.length → c.getD (s + j) 0 = l.getD j 0
theorem slc_app {c l : List Nat} {s : Nat} (h : slc c s l) (r : List Nat) : slc (c ++ r) s l := by
  refine ⟨by rw [List.length_append]; have := h.1; omega, fun j hj => ?_⟩
  have h1 := h.1
  rw [← h.2 j hj, List.getD_eq_getElem?_getD, List.getD_eq_getElem?_getD, List.getElem?_append_left (by omega)]
theorem slc_new (c l : List Nat) : slc (c ++ l) c.length l := ⟨by rw [List.length_append]; exact Nat.le_refl _, fun j _ => getD_app3 c l 0 j⟩
/-- what must hold of what was told -/
def xOk (t : PD) (x : XS) : Prop := kOk t (xsK x) ∧ nsOk (xsN x) ∧ (∀ v, xsM x = some v → 1 ≤ v ∧ v ≤ 9) ∧ (∀ v, xsB x = some v → 1 ≤ v ∧ v ≤ 60) ∧ (xsA x).length ≤ 4
/-- the draft is what was told -/
def XTs (x : XS) (c : List Nat) (m : VM) : Prop := (m.1 1 9 = bZ (xsM x).isSome ∧ m.1 1 10 = bZ (xsB x).isSome ∧ m.1 1 11 = bZ (xsC x).isSome) ∧ DN (xsN x) m ∧ DC c m ∧ (m.1 3 8 = iI ((xsM x).getD 3 : Int) ∧ m.1 3 9 = iI ((xsB x).getD 10 : Int) ∧ m.1 3 10 = iI ((xsA x).length : Int)) ∧ (∀ i, i < (xsA x).length → ∃ s : Nat, m.1 6 i = iI (s : Int) ∧ m.1 7 i = iI ((s + ((xsA x).getD i []).length : Nat) : Int) ∧ slc c s ((xsA x).getD i []) ∧ 0 < ((xsA x).getD i []).length) ∧ (∃ s : Nat, m.1 6 4 = iI (s : Int) ∧ m.1 7 4 = iI ((s + ((xsC x).getD []).length : Nat) : Int) ∧ slc c s ((xsC x).getD []) ∧ ((xsC x).isSome = true → 0 < ((xsC x).getD []).length))
def XRs (t : PD) (k : Nat) (m : VM) : Prop := CTp t m ∧ RdA t (plT t k) m ∧ m.1 1 8 = iI 0
def XSt (t : PD) (x : XS) (c : List Nat) (m : VM) : Prop := XRs t (xsK x) m ∧ XTs x c m ∧ c.length ≤ xsK x
def FT (m : VM) : Prop := ∃ n : Nat, n ≤ 6 ∧ m.1 3 7 = iI (n : Int)
/-- what reading a text may change -/
def OnRd (m m' : VM) : Prop := (∀ c, c ∉ [1, 3, 5, 6, 7] → m'.1 c = m.1 c) ∧ m'.1 1 2 = m.1 1 2 ∧ ∀ c, c ∉ [1, 4] → m'.2 c = m.2 c
theorem OnRd_r (m : VM) : OnRd m m := ⟨fun _ _ => rfl, rfl, fun _ _ => rfl⟩
theorem OnRd_t {a b c : VM} (h : OnRd a b) (k : OnRd b c) : OnRd a c := ⟨fun i hi => (k.1 i hi).trans (h.1 i hi), k.2.1.trans h.2.1, fun i hi => (k.2.2 i hi).trans (h.2.2 i hi)⟩
theorem OnRd_P {m m' : VM} (h : OnPr m m') : OnRd m m' := ⟨fun c hc => h.1 c (fun z => hc (by rw [z]; decide)) (fun z => hc (by rw [z]; decide)) (fun z => hc (by rw [z]; decide)), h.2.1 2 (by decide), fun c hc => h.2.2.2 c (fun z => hc (by rw [z]; decide))⟩
theorem OnRd_V {m m' : VM} (h : OnRd m m') {c j : Nat} (v : Int32) (hc : c ∈ [1, 3, 5, 6, 7]) (hj : ¬ (c = 1 ∧ j = 2)) : OnRd m (sV m' c j v) := ⟨fun i hi => by rw [sV_ne _ _ _ _ (fun z => hi (by rw [z]; exact hc))]; exact h.1 i hi, by
  by_cases e : c = 1
  · subst e; rw [sV_eq, if_neg (fun z => hj ⟨rfl, z.symm⟩)]; exact h.2.1
  · rw [sV_ne _ _ _ _ (fun z => e z.symm)]; exact h.2.1, fun i hi => h.2.2 i hi⟩
theorem OnRd_W {m m' : VM} (h : OnRd m m') {c j : Nat} (v : Int64) (hc : c ∈ [1, 4]) : OnRd m (sW m' c j v) := ⟨fun i hi => h.1 i hi, h.2.1, fun i hi => by rw [sW_ne _ _ _ _ (fun z => hi (by rw [z]; exact hc))]; exact h.2.2 i hi⟩
def XZ (t : PD) (r : XR) (m m' : VM) : Prop := OnRd m m' ∧ m'.1 1 8 = iI (r.1 : Int) ∧ r.1 ≤ 20000 ∧ FT m' ∧ (r.1 = 0 → ∃ c, XSt t r.2 c m')
theorem XTs_A {x : XS} {c : List Nat} {m m' : VM} (h : XTs x c m) (k : OnA m m') : XTs x c m' := by
  obtain ⟨h1, h2, h3, h4, h5, h6⟩ := h
  refine ⟨⟨by rw [k.2.1 9 (by decide)]; exact h1.1, by rw [k.2.1 10 (by decide)]; exact h1.2.1, by rw [k.2.1 11 (by decide)]; exact h1.2.2⟩, DN_A h2 k, DC_A h3 k, by rw [k.1 3 (by decide)]; exact h4, ?_, ?_⟩
  · rw [k.1 6 (by decide), k.1 7 (by decide)]; exact h5
  · rw [k.1 6 (by decide), k.1 7 (by decide)]; exact h6
theorem p_advR {t : PD} {A : Nat → Nat} {σ : AM} (H : LC A σ) (ht : wfT t) {k : Nat} {m : VM} (h : XRs t k m) : ∃ m' : VM, M_Rd_advance (A 1) (ov 68 A m σ) = some ((), (ov 68 A (m') σ)) ∧ OnA m m' ∧ XRs t (k + 1) m' := by
  obtain ⟨h1, h2, h3⟩ := h
  obtain ⟨m', e, k1, k2⟩ := p_Rd_advance H ht (a0 := eT t (plT t k)) (eT_le (pl_le t k)) h1 h2.1
  exact ⟨m', e, k1, CTp_A h1 k1, k2, by rw [k1.2.1 8 (by decide)]; exact h3⟩
theorem p_failR {t : PD} {A : Nat → Nat} {σ : AM} (H : LC A σ) (ht : wfT t) {k : Nat} {m : VM} (h : XRs t k m) (hF : FT m) (v : Nat) (hv : 0 < v) (hv2 : v ≤ 6) : ∃ m' : VM, M_Rd_fail (A 1) (iI (v : Int)) (ov 68 A m σ) = some ((), (ov 68 A (m') σ)) ∧ m'.1 3 = m.1 3 ∧ ∀ x, XZ t (faL t k v x) m m' := by
  have hp := pl_b ht k
  obtain ⟨m', e, k1, k2, k3⟩ := p_fail H (t := t) (k := k) h.2.1.2.1 h.2.2 v
  refine ⟨m', e, k2, fun x => ⟨OnRd_P k1, k3, by show v + 16 * plT t k ≤ 20000; omega, ?_, fun z => ?_⟩⟩
  · obtain ⟨n, n1, n2⟩ := hF
    exact ⟨n, n1, by rw [k2]; exact n2⟩
  · have z : v + 16 * plT t k = 0 := z
    omega
theorem p_expR {t : PD} {A : Nat → Nat} {σ : AM} (H : LC A σ) (ht : wfT t) {k : Nat} {m : VM} (h : XRs t k m) : ∃ m' : VM, M_Rd_expect (A 1) (iI 59) (ov 68 A m σ) = some ((), (ov 68 A (m') σ)) ∧ (kdT t k = 59 → OnA m m' ∧ XRs t (k + 1) m') ∧ (¬ kdT t k = 59 → OnPr m m' ∧ m'.1 3 = m.1 3 ∧ m'.1 1 8 = iI ((1 + 16 * plT t k : Nat) : Int)) := by
  have hk := kd_lt ht k
  have h4 : m.1 1 4 = iI (kdT t k : Int) := h.2.1.2.2.1
  have h8 := h.2.2
  unfold M_Rd_expect
  by_cases z : kdT t k = 59
  · obtain ⟨m', e, k1, k2⟩ := p_advR H ht h
    refine ⟨m', ?_, fun _ => ⟨k1, k2⟩, fun y => absurd z y⟩
    rw [E_Rd_expect_0]
    simp (disch := omega) only [E_Rd_expect_1, cK_1 H, okO_ov, gd_true, aI_ov H.1, h4, h8, l_0, l_59, iI_eq, e, bnd_some, ↓reduceIte]
    rw [if_pos (by omega), mw_ov]
  · obtain ⟨m', e, k1, k2, k3⟩ := p_fail H (t := t) (k := k) h.2.1.2.1 h8 1
    replace e : M_Rd_fail (A 1) (iI 1) _ = _ := e
    refine ⟨m', ?_, fun y => absurd y z, fun _ => ⟨k1, k2, k3⟩⟩
    rw [E_Rd_expect_0]
    simp (disch := omega) only [E_Rd_expect_1, cK_1 H, okO_ov, gd_true, aI_ov H.1, h4, h8, l_0, l_1, l_59, iI_eq, e, bnd_some, ↓reduceIte]
    rw [if_neg (by omega), mw_ov]
theorem DN_F {x : XS} {m : VM} (h : DN (xsN x) m) (hn : nsOk (xsN x)) : FT m := ⟨(xsN x).length, hn.1, h.1⟩
/-! the line of a thing -/
theorem p_Tw_addThing {A : Nat → Nat} {σ : AM} (H : LC A σ) {ns : List (List Nat)} (hl : ns.length < 6) {m : VM} (hD : DN ns m) (w : List Nat) : ∃ m' : VM, M_Tw_addThing (A 3) (cw64 w) (ov 68 A m σ) = some ((), (ov 68 A (m') σ)) ∧ m' = sV (sW m 4 ns.length (cw64 w)) 3 7 (iI ((ns.length + 1 : Nat) : Int)) ∧ DN (ns ++ [w]) m' := by
  unfold M_Tw_addThing
  have e7 : (sW m 4 ns.length (cw64 w)).1 3 7 = iI (ns.length : Int) := hD.1
  refine ⟨_, ?_, rfl, ?_, fun i hi => ?_⟩
  · rw [E_Tw_addThing_0]
    simp (disch := omega) only [E_Tw_addThing_1, cK_3 H, cR_3_0 H, cK_4 H, cN_4 H, okO_ov, aR_ov, aN_ov, gd_true, gd_in, iI_cl, Int.toNat_natCast, aI_ov H.1, sI_ov H.1, sL_ov H.1, letT_eq, hD.1, e7, l_1, l_6, iI_lt, iI_add, iI_s]
    rw [if_pos (by omega), mw_ov]
  · rw [List.length_append, List.length_singleton]; simp (disch := decide) only [sV_eq, sW_eq, sV_ne, sW_ne, sV_2, sW_1, Nat.reduceEqDiff, ↓reduceIte]
  · rw [List.length_append, List.length_singleton] at hi
    rw [sV_2, sW_eq]
    by_cases e : i = ns.length
    · subst e; rw [if_pos rfl, getD_app2]
    · rw [if_neg e, getD_app1 _ _ _ (by omega)]; exact hD.2 i (by omega)
theorem qd_things {A : Nat → Nat} {σ : AM} (H : LC A σ) {ns : List (List Nat)} {m : VM} (hD : DN ns m) : M_Tw_things (A 3) (ov 68 A m σ) = some (iI (ns.length : Int), (ov 68 A m σ)) := by
  unfold M_Tw_things
  rw [E_Tw_things_0]
  simp (disch := omega) only [cK_3 H, okO_ov, gd_true, aI_ov H.1, hD.1, mw_ov]
theorem c_thing {t : PD} {A : Nat → Nat} {σ : AM} (H : LC A σ) (ht : wfT t) {x : XS} (hx : xOk t x) {c : List Nat} {m : VM} (hL : XSt t x c m) (hk4 : kdT t (xsK x) = 4) : ∃ m' : VM, M_Rd_thingLine (A 1) (ov 68 A m σ) = some ((), (ov 68 A (m') σ)) ∧ XZ t (thL t x) m m' := by
  obtain ⟨hR, hT, hc⟩ := hL
  obtain ⟨x1, x2, x3, x4, x5⟩ := hx
  have hF := DN_F hT.2.1 x2
  have q1 := qd_things H hT.2.1
  have hnl := x2.1
  unfold M_Rd_thingLine thL
  by_cases c6 : (xsN x).length < 6
  · rw [if_pos c6]
    obtain ⟨m1, e1, k1, r1⟩ := p_advR H ht hR
    have hT1 := XTs_A hT k1
    have hF1 := DN_F hT1.2.1 x2
    have hkd := kd_lt ht (xsK x + 1)
    have h4 : m1.1 1 4 = iI (kdT t (xsK x + 1) : Int) := r1.2.1.2.2.1
    by_cases c3 : kdT t (xsK x + 1) = 3
    · rw [if_pos c3]
      have hw := kd_W (t := t) (k := xsK x + 1) (by omega) (by omega) ht
      obtain ⟨w1, w2⟩ := wdK_ok hw
      have n1 : m1.2 1 7 = cw64 (wdK t (xsK x + 1)) := r1.2.1.2.2.2.1 hw
      have n2 := q_Tw_named H x2 hT1.2.1 w1 w2
      by_cases z : idxN (xsN x) (wdK t (xsK x + 1)) = (xsN x).length
      · rw [if_pos z]
        rw [if_pos z] at n2
        obtain ⟨m2, e2, d2, D2⟩ := p_Tw_addThing H c6 hT1.2.1 (wdK t (xsK x + 1))
        have o2 : OnRd m1 m2 := by rw [d2]; exact OnRd_V (OnRd_W (OnRd_r m1) _ (by decide)) _ (by decide) (by decide)
        have r2 : XRs t (xsK x + 1) m2 := by
          rw [d2]
          refine ⟨⟨by simp (disch := decide) only [sV_eq, sW_eq, sV_ne, sW_ne, sV_2, sW_1, Nat.reduceEqDiff, ↓reduceIte]; exact r1.1.1, fun j hj => by rw [sV_ne _ _ _ _ (by decide)]; exact r1.1.2 j hj⟩, ?_, by simp (disch := decide) only [sV_eq, sW_eq, sV_ne, sW_ne, sV_2, sW_1, Nat.reduceEqDiff, ↓reduceIte]; exact r1.2.2⟩
          unfold RdA
          rw [sV_ne _ _ _ _ (by decide), sV_2, sW_ne _ _ _ _ (by decide)]
          exact r1.2.1
        obtain ⟨m3, e3, k3, r3⟩ := p_advR H ht r2
        obtain ⟨m4, e4, k4, k5⟩ := p_expR H ht r3
        refine ⟨m4, ?_, ?_⟩
        · rw [E_Rd_thingLine_0]
          simp (disch := omega) only [E_Rd_thingLine_1, cK_1 H, cR_1_1 H, cK_3 H, okO_ov, aR_ov, gd_true, q1, bnd_some, l_1, l_3, l_6, l_59, iI_neg, iI_lt, iI_eq, e1, aI_ov H.1, aL_ov H.1, h4, n1, n2, e2, e3, e4, ↓reduceIte]
          rw [if_pos (by omega), if_pos (by omega), mw_ov]
        · unfold epL
          have T2 : XTs (xsK x + 3, xsN x ++ [wdK t (xsK x + 1)], xsM x, xsB x, xsA x, xsC x) c m3 := by
            refine XTs_A ?_ k3
            obtain ⟨h1, h2, h3, h4, h5, h6⟩ := hT1
            rw [d2] at D2 ⊢
            exact ⟨⟨by simp (disch := decide) only [sV_eq, sW_eq, sV_ne, sW_ne, sV_2, sW_1, Nat.reduceEqDiff, ↓reduceIte]; exact h1.1, by simp (disch := decide) only [sV_eq, sW_eq, sV_ne, sW_ne, sV_2, sW_1, Nat.reduceEqDiff, ↓reduceIte]; exact h1.2.1, by simp (disch := decide) only [sV_eq, sW_eq, sV_ne, sW_ne, sV_2, sW_1, Nat.reduceEqDiff, ↓reduceIte]; exact h1.2.2⟩, D2, ⟨by simp (disch := decide) only [sV_eq, sW_eq, sV_ne, sW_ne, sV_2, sW_1, Nat.reduceEqDiff, ↓reduceIte]; exact h3.1, by rw [sV_ne _ _ _ _ (by decide)]; exact h3.2⟩, ⟨by simp (disch := decide) only [sV_eq, sW_eq, sV_ne, sW_ne, sV_2, sW_1, Nat.reduceEqDiff, ↓reduceIte]; exact h4.1, by simp (disch := decide) only [sV_eq, sW_eq, sV_ne, sW_ne, sV_2, sW_1, Nat.reduceEqDiff, ↓reduceIte]; exact h4.2.1, by simp (disch := decide) only [sV_eq, sW_eq, sV_ne, sW_ne, sV_2, sW_1, Nat.reduceEqDiff, ↓reduceIte]; exact h4.2.2⟩, by rw [sV_ne _ _ _ _ (by decide), sV_ne _ _ _ _ (by decide)]; exact h5, by rw [sV_ne _ _ _ _ (by decide), sV_ne _ _ _ _ (by decide)]; exact h6⟩
          have F3 : FT m3 := ⟨(xsN x).length + 1, by omega, by have := T2.2.1.1; rw [this]; show iI (((xsN x ++ [wdK t (xsK x + 1)]).length : Nat) : Int) = _; rw [List.length_append, List.length_singleton]⟩
          by_cases c59 : kdT t (xsK x + 2) = 59
          · obtain ⟨k6, k7⟩ := k4 c59
            rw [if_pos c59]
            refine ⟨OnRd_t (OnRd_P (OnPr_A k1)) (OnRd_t o2 (OnRd_t (OnRd_P (OnPr_A k3)) (OnRd_P (OnPr_A k6)))), k7.2.2, Nat.zero_le _, ?_, fun _ => ⟨c, k7, XTs_A T2 k6, by show c.length ≤ xsK x + 3; omega⟩⟩
            obtain ⟨n, f1, f2⟩ := F3
            exact ⟨n, f1, by rw [k6.1 3 (by decide)]; exact f2⟩
          · obtain ⟨k6, k7, k8⟩ := k5 c59
            have hp := pl_b ht (xsK x + 2)
            rw [if_neg c59]
            refine ⟨OnRd_t (OnRd_P (OnPr_A k1)) (OnRd_t o2 (OnRd_t (OnRd_P (OnPr_A k3)) (OnRd_P k6))), k8, by show 1 + 16 * plT t (xsK x + 2) ≤ 20000; omega, ?_, fun y => ?_⟩
            · obtain ⟨n, f1, f2⟩ := F3
              exact ⟨n, f1, by rw [k7]; exact f2⟩
            · have y : 1 + 16 * plT t (xsK x + 2) = 0 := y
              omega
      · rw [if_neg z]
        rw [if_neg z] at n2
        have hil := idx_le (xsN x) (wdK t (xsK x + 1))
        obtain ⟨m2, e2, _, Z2⟩ := p_failR H ht r1 hF1 3 (by decide) (by decide)
        obtain ⟨a1, a2⟩ := Z2 x
        replace e2 : M_Rd_fail (A 1) (iI 3) _ = _ := e2
        refine ⟨m2, ?_, OnRd_t (OnRd_P (OnPr_A k1)) a1, a2⟩
        rw [E_Rd_thingLine_0]
        simp (disch := omega) only [E_Rd_thingLine_1, cK_1 H, cR_1_1 H, cK_3 H, okO_ov, aR_ov, gd_true, q1, bnd_some, l_1, l_3, l_6, l_59, iI_neg, iI_lt, iI_eq, e1, aI_ov H.1, aL_ov H.1, h4, n1, n2, e2]
        rw [if_pos (by omega), if_pos (by omega), if_neg (by omega), mw_ov]
    · rw [if_neg c3]
      obtain ⟨m2, e2, _, Z2⟩ := p_failR H ht r1 hF1 1 (by decide) (by decide)
      obtain ⟨a1, a2⟩ := Z2 x
      replace e2 : M_Rd_fail (A 1) (iI 1) _ = _ := e2
      refine ⟨m2, ?_, OnRd_t (OnRd_P (OnPr_A k1)) a1, a2⟩
      rw [E_Rd_thingLine_0]
      simp (disch := omega) only [E_Rd_thingLine_1, cK_1 H, cR_1_1 H, cK_3 H, okO_ov, aR_ov, gd_true, q1, bnd_some, l_1, l_3, l_6, iI_lt, iI_eq, e1, aI_ov H.1, h4, e2]
      rw [if_pos (by omega), if_neg (by omega), mw_ov]
  · rw [if_neg c6]
    obtain ⟨m2, e2, _, Z2⟩ := p_failR H ht hR hF 5 (by decide) (by decide)
    replace e2 : M_Rd_fail (A 1) (iI 5) _ = _ := e2
    refine ⟨m2, ?_, Z2 x⟩
    rw [E_Rd_thingLine_0]
    simp (disch := omega) only [cK_1 H, cR_1_1 H, cK_3 H, okO_ov, aR_ov, gd_true, q1, bnd_some, l_5, l_6, iI_lt, e2]
    rw [if_neg (by omega), mw_ov]
