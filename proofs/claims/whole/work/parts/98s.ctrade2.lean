/-! ===== trials that can't be together: the class's answer ===== -/
theorem flt_mono {p : Nat → Bool} {n i j : Nat} (hij : i < j) (hj : j < (flt p n).length) : (flt p n).getD i 0 < (flt p n).getD j 0 := by
  have h : (flt p n).Pairwise (· < ·) := List.Pairwise.filter _ List.pairwise_lt_range
  rw [List.getD_eq_getElem?_getD, List.getD_eq_getElem?_getD, List.getElem?_eq_getElem hj, List.getElem?_eq_getElem (show i < (flt p n).length by omega)]
  exact (List.pairwise_iff_getElem.mp h) i j (by omega) hj hij
def riI (b : BD) (n opn : Nat) (p : List Nat) (fi : Nat) : Prop := p.length + opn = n ∧ (∀ k ∈ p, k < nT b ∧ tR b k = true ∧ fsT b k) ∧ srt p ∧ ((p = [] ∧ fi = 0) ∨ (p ≠ [] ∧ fi < (RTl b).length ∧ lst0 p = (RTl b).getD fi 0))
theorem Ft_ringing {d : TD} {b : BD} {A : Nat → Nat} {σ : AM} (H : LC A σ) (hb : wfB d b) {n : Nat} (hn : n ≤ 3) (hn1 : 1 ≤ n) : ∀ (opn f : Nat) (p : List Nat) (fi : Nat) (m : VM), opn < f → riI b n opn p fi → trK b m → chE n p m → csP b A σ n p m (Q_Ft_chooseRinging f (A 54) (iI (n : Int)) (iI (opn : Int)) (iI (fi : Int)) (iI (mk6 (ctB b p) 1 : Int)) (iI (mk6 (ctB b p) 2 : Int)) (iI (mk6 (ctB b p) 3 : Int)) (ov 68 A m σ)) := by
  have hnT := hb.1
  have hRl := flt_le (rtP b) (nT b)
  intro opn
  induction opn with
  | zero =>
    intro f p fi m hf hI hK hC
    obtain ⟨f, rfl⟩ : ∃ g, f = g + 1 := ⟨f - 1, by omega⟩
    obtain ⟨a1, a2, a3, a4⟩ := hI
    have ef : (fun t => ctB b p t - ctB b [] t) = ctB b p := by funext t; exact Nat.sub_zero _
    have s := Ft_silent H hb hn n 80 p [] m (by omega) ⟨by omega, by show 0 + n = n; omega, a2, a3, fun k hk => absurd hk List.not_mem_nil, fun q a c r e => by simp at e, fun t _ => by rw [show ctB b [] t = 0 from rfl]; have := ctB_le b p t; omega⟩ hK (by rw [List.append_nil]; exact hC)
    rw [List.append_nil, ef] at s
    obtain ⟨m', o, e, r⟩ := s
    replace e : M_Ft_chooseSilent (A 54) (iI (n : Int)) (iI (n : Int)) (iI 0) _ _ _ _ = _ := e
    refine ⟨m', o, ?_, r⟩
    show mw _ (L_Ft_chooseRinging_0 _ _ _ _ _ _ _ _ _) = _
    rw [E_Ft_chooseRinging_0]
    simp (disch := omega) only [l_0, iI_lt, cK_54 H, okO_ov, gd_true, bnd_some, e, isB_bZ]
    rw [if_neg (by omega), mw_ov]
  | succ opn ih =>
    intro f p fi m hf hI hK hC
    obtain ⟨f, rfl⟩ : ∃ g, f = g + 1 := ⟨f - 1, by omega⟩
    obtain ⟨a1, a2, a3, a4⟩ := hI
    have lenp : p.length < 2 * n := by omega
    -- who can come next
    have cand : ∀ y s, Xc b n (p ++ y :: s) → ∃ j, fi ≤ j ∧ j < (RTl b).length ∧ (RTl b).getD j 0 = y := fun y s hX => by
      obtain ⟨R, N, e, h1, h2, h3, h4⟩ := hX
      have hRN : R = p ++ y :: s.take (n - p.length - 1) ∧ N = s.drop (n - p.length - 1) := by
        have e2 : R ++ N = (p ++ y :: s.take (n - p.length - 1)) ++ s.drop (n - p.length - 1) := by
          rw [← e, List.append_assoc, List.cons_append, List.take_append_drop]
        refine List.append_inj e2 ?_
        have hl := congrArg List.length e
        rw [List.length_append, List.length_append, List.length_cons, h1.1, h1.2.1] at hl
        rw [h1.1, List.length_append, List.length_cons, List.length_take]
        omega
      have hy : y ∈ R := by rw [hRN.1]; exact List.mem_append_right _ List.mem_cons_self
      have y1 := h1.2.2.1 y hy
      have y2 := fsB_iff.mpr (h4 y (List.mem_append_left _ hy))
      obtain ⟨j, hj, ej⟩ := flt_has (p := rtP b) y1.1 (by unfold rtP; rw [y1.2, y2]; rfl)
      refine ⟨j, ?_, hj, ej⟩
      rcases a4 with ⟨_, z⟩ | ⟨z1, z2, z3⟩
      · omega
      · have h5 : srt (p ++ [y]) := srt_pre (s := s.take (n - p.length - 1)) (by rw [List.append_assoc, List.singleton_append, ← hRN.1]; exact h2)
        have h6 := srt_1 h5
        rw [z3] at h6
        rcases Nat.lt_or_ge j fi with w | w
        · have := flt_mono (p := rtP b) (n := nT b) w z2
          have ej : (flt (rtP b) (nT b)).getD j 0 = y := ej
          have h6 : (flt (rtP b) (nT b)).getD fi 0 ≤ y := h6
          omega
        · exact w
    have lp : ∀ k i mm, i + k = (RTl b).length → fi ≤ i → OnS 60 m mm → chE n p mm → (∀ j, j < i → ∀ s, ¬ Xc b n (p ++ (RTl b).getD j 0 :: s)) → csP b A σ n p m (L_Ft_chooseRinging_1 (Q_Ft_chooseRinging f) (A 54) (iI (n : Int)) (iI ((opn + 1 : Nat) : Int)) (iI (mk6 (ctB b p) 1 : Int)) (iI (mk6 (ctB b p) 2 : Int)) (iI (mk6 (ctB b p) 3 : Int)) (iI (i : Int)) (ov 68 A mm σ)) := by
      intro k
      induction k with
      | zero =>
        intro i mm hi hfi i1 i2 i3
        obtain rfl : i = (RTl b).length := hi
        have hKm := trK_S hK i1
        have h14 : mm.1 54 14 = iI ((RTl b).length : Int) := hKm.2.1
        have hRl : (RTl b).length ≤ nT b := hRl
        refine ⟨mm, none, ?_, i1, ⟨fun _ r hX => ?_, fun r hr => (by cases hr)⟩, fun _ => i2, fun r hr => (by cases hr)⟩
        · rw [E_Ft_chooseRinging_1]
          simp (disch := omega) only [cK_54 H, okO_ov, gd_true, aI_ov H.1, h14, l_0, iI_lt]
          rw [if_neg (by omega)]
          rfl
        · have hl := (Xc_len hb _ hX).1
          rw [List.length_append] at hl
          cases r with
          | nil => rw [List.length_nil] at hl; omega
          | cons y s =>
            obtain ⟨j, j1, j2, j3⟩ := cand y s hX
            exact i3 j j2 s (by rw [j3]; exact hX)
      | succ k ihk =>
        intro i mm hi hfi i1 i2 i3
        have hKm := trK_S hK i1
        have h14 : mm.1 54 14 = iI ((RTl b).length : Int) := hKm.2.1
        have hRl : (RTl b).length ≤ nT b := hRl
        have hiL : i < (RTl b).length := by omega
        have h59 : mm.1 59 i = iI ((RTl b).getD i 0 : Int) := hKm.2.2.1 i hiL
        obtain ⟨p1, p2⟩ := flt_in (p := rtP b) (n := nT b) hiL
        have p2 : (RTl b).getD i 0 < nT b := p2
        have p1 : rtP b ((RTl b).getD i 0) = true := p1
        generalize hx : (RTl b).getD i 0 = x at *
        unfold rtP at p1
        rw [Bool.and_eq_true] at p1
        have hs := hb.2.2.1 x (by omega)
        have g1 := q_Bk_setAt H hb hKm.1 p2
        have hpos : (if p.length < n then p.length else 3 + (p.length - n)) = p.length := if_pos (by omega)
        have hC2 := chE_app (x := x) i2 hn
        rw [hpos] at hC2
        have i1' : OnS 60 m (sV mm 60 p.length (iI (x : Int))) := ⟨fun a ha => by rw [sV_ne _ _ _ _ ha]; exact i1.1 a ha, i1.2⟩
        have hlo : lst0 p ≤ x := by
          rcases a4 with ⟨z, _⟩ | ⟨z1, z2, z3⟩
          · rw [z]; exact Nat.zero_le _
          · rw [z3, ← hx]
            rcases Nat.eq_or_lt_of_le hfi with w | w
            · rw [w]; exact Nat.le_refl _
            · exact Nat.le_of_lt (flt_mono (p := rtP b) (n := nT b) w hiL)
        have hI' : riI b n opn (p ++ [x]) i := ⟨by rw [List.length_append, List.length_singleton]; omega, fun k hk => (List.mem_append.mp hk).elim (fun z => a2 k z) (fun z => by rw [List.mem_singleton.mp z]; exact ⟨p2, p1.1, fsB_iff.mp p1.2⟩), srt_a a3 hlo, Or.inr ⟨by simp, hiL, by rw [lst0_app, hx]⟩⟩
        obtain ⟨m2, o2, e2, k2, d2, c2, c3⟩ := ih f (p ++ [x]) i (sV mm 60 p.length (iI (x : Int))) (by omega) hI' (trK_S hK i1') hC2
        have ms := or_mk (g := ctB b p) (g' := ctB b (p ++ [x])) hs (fun t ht => by rw [ctB_app, ctB_1])
        have ei : (n : Int) - ((opn + 1 : Nat) : Int) = (p.length : Int) := by omega
        have eo : ((opn + 1 : Nat) : Int) - 1 = (opn : Int) := by omega
        have em1 : iI (mk6 (ctB b p) 1 : Int) ||| iI (tS b x : Int) = iI (mk6 (ctB b (p ++ [x])) 1 : Int) := by rw [iI_or, ms.1]
        have em2 : iI (mk6 (ctB b p) 2 : Int) ||| iI ((mk6 (ctB b p) 1 &&& tS b x : Nat) : Int) = iI (mk6 (ctB b (p ++ [x])) 2 : Int) := by rw [iI_or, ms.2.1]
        have em3 : iI (mk6 (ctB b p) 3 : Int) ||| iI ((mk6 (ctB b p) 2 &&& tS b x : Nat) : Int) = iI (mk6 (ctB b (p ++ [x])) 3 : Int) := by rw [iI_or, ms.2.2]
        have hno : ∀ y, y < x → ∀ s, ¬ Xc b n (p ++ y :: s) := fun y hy s hX => by
          obtain ⟨j, j1, j2, j3⟩ := cand y s hX
          have hji : j < i := by
            rcases Nat.lt_or_ge j i with w | w
            · exact w
            · rcases Nat.eq_or_lt_of_le w with w | w
              · rw [← w, hx] at j3; omega
              · have : (RTl b).getD i 0 < (RTl b).getD j 0 := flt_mono (p := rtP b) (n := nT b) w j2
                rw [hx, j3] at this; omega
          exact i3 j hji s (by rw [j3]; exact hX)
        cases ho2 : o2 with
        | none =>
          rw [ho2] at e2 d2
          replace e2 : Q_Ft_chooseRinging f _ _ _ _ _ _ _ _ = some (bZ false, _) := e2
          have ihk := ihk (i + 1) m2 (by omega) (by omega) (OnS_t i1' k2) (chE_pre (c2 ho2)) (fun j hj s hX => by
            by_cases e : j = i
            · subst e
              rw [hx] at hX
              exact d2.1 rfl s (by rw [List.append_assoc, List.singleton_append]; exact hX)
            · exact i3 j (by omega) s hX)
          rw [E_Ft_chooseRinging_1]
          simp (disch := omega) only [cK_54 H, cR_54_1 H, cR_54_12 H, cR_54_13 H, cK_59 H, cN_59 H, cK_60 H, cN_60 H, cK_27 H, okO_ov, aR_ov, aN_ov, gd_true, gd_in, iI_cl, Int.toNat_natCast, aI_ov H.1, sI_ov H.1, letT_eq, bnd_some, h14, h59, g1, bZ_0, l_0, l_1, iI_and, em1, em2, em3, iI_lt, iI_add, iI_s, iI_sub, ei, eo, e2, ↓reduceIte]
          rw [if_pos (by omega)]
          exact ihk
        | some r =>
          rw [ho2] at e2 d2
          replace e2 : Q_Ft_chooseRinging f _ _ _ _ _ _ _ _ = some (bZ true, _) := e2
          refine ⟨m2, some (x :: r), ?_, OnS_t i1' k2, DF_hit (Xc_len hb) lenp hno d2, fun z => (by cases z), fun r' hr' => by cases hr'; have := c3 r ho2; rw [List.append_assoc, List.singleton_append] at this; exact this⟩
          rw [E_Ft_chooseRinging_1]
          simp (disch := omega) only [cK_54 H, cR_54_1 H, cR_54_12 H, cR_54_13 H, cK_59 H, cN_59 H, cK_60 H, cN_60 H, cK_27 H, okO_ov, aR_ov, aN_ov, gd_true, gd_in, iI_cl, Int.toNat_natCast, aI_ov H.1, sI_ov H.1, letT_eq, bnd_some, h14, h59, g1, bZ_0, l_0, l_1, iI_and, em1, em2, em3, iI_lt, iI_add, iI_s, iI_sub, ei, eo, e2, reduceCtorEq, ↓reduceIte]
          rw [if_pos (by omega)]
          rfl
    have hRl : (RTl b).length ≤ nT b := hRl
    have hfi : fi ≤ (RTl b).length := by rcases a4 with z | z <;> omega
    obtain ⟨m', o, e, r⟩ := lp ((RTl b).length - fi) fi m (by omega) (Nat.le_refl _) (OnS_r _ _) hC (fun j hj s hX => by
      obtain ⟨j', j1, j2, j3⟩ := cand _ s hX
      have : (RTl b).getD j 0 < (RTl b).getD j' 0 := flt_mono (p := rtP b) (n := nT b) (by omega) j2
      omega)
    refine ⟨m', o, ?_, r⟩
    show mw _ (L_Ft_chooseRinging_0 _ _ _ _ _ _ _ _ _) = _
    rw [E_Ft_chooseRinging_0]
    simp (disch := omega) only [l_0, iI_lt, e]
    rw [if_pos (by omega), mw_ov]
/-- what a search for pairs leaves -/
def paE (b : BD) (m : VM) : Prop := (∃ n l, 1 ≤ n ∧ n ≤ 3 ∧ isM b n l ∧ (∀ k, 1 ≤ k → k < n → ¬ ∃ R N, okU b k R N) ∧ m.1 54 15 = iI (n : Int) ∧ chE n l m) ∨ ((∀ k, 1 ≤ k → k ≤ 3 → ¬ ∃ R N, okU b k R N) ∧ m.1 54 15 = iI 0)
theorem mk6_0 {v : Nat} (hv : 0 < v) (b : BD) : mk6 (ctB b []) v = 0 := by
  apply Nat.eq_of_testBit_eq
  intro t
  rw [tb_mk6, Nat.zero_testBit, show ctB b [] t = 0 from rfl, decide_eq_false (show ¬ v ≤ 0 by omega), Bool.and_false]
theorem p_Ft_seekTrade {d : TD} {b : BD} {A : Nat → Nat} {σ : AM} (H : LC A σ) (hb : wfB d b) {m : VM} (hB : CBk b m) : ∃ m' : VM, M_Ft_seekTrade (A 54) (ov 68 A m σ) = some ((), (ov 68 A (m') σ)) ∧ OnF m m' ∧ paE b m' := by
  obtain ⟨m1, e1, k1, g1⟩ := p_Ft_gather H hb hB
  have trS : ∀ mm, OnF m1 mm → (mm.1 54 14 = m1.1 54 14 ∧ mm.1 59 = m1.1 59 ∧ mm.2 = m1.2) → trK b mm := fun mm o h => ⟨CBk_K (OnF_Ks (OnF_t k1 o) 0 (by decide)) hB, by rw [gaE, h.1, h.2.1, h.2.2]; exact g1⟩
  have lp : ∃ m' : VM, L_Ft_seekTrade_1 (A 54) (iI ((1 : Nat) : Int)) (ov 68 A (sV m1 54 15 (iI 0)) σ) = some ((), (ov 68 A (m') σ)) ∧ OnF m m' ∧ paE b m' := by
    refine up_loopI (fun k mm => L_Ft_seekTrade_1 (A 54) (iI ((k + 1 : Nat) : Int)) (ov 68 A mm σ)) (fun k mm => OnF m1 mm ∧ (mm.1 54 14 = m1.1 54 14 ∧ mm.1 59 = m1.1 59 ∧ mm.2 = m1.2) ∧ ((∃ n l, 1 ≤ n ∧ n ≤ k ∧ isM b n l ∧ (∀ j, 1 ≤ j → j < n → ¬ ∃ R N, okU b j R N) ∧ mm.1 54 15 = iI (n : Int) ∧ chE n l mm) ∨ ((∀ j, 1 ≤ j → j ≤ k → ¬ ∃ R N, okU b j R N) ∧ mm.1 54 15 = iI 0))) (fun X => ∃ m' : VM, X = some ((), (ov 68 A (m') σ)) ∧ OnF m m' ∧ paE b m') 3 (fun k mm hk ⟨i1, i2, i3⟩ ih => ?_) (fun mm ⟨i1, i2, i3⟩ => ?_) 0 _ (Nat.zero_le _) ⟨OnF_V (OnF_r _) _ _ (by decide) (by decide), ⟨by simp (disch := decide) only [sV_eq, sW_eq, sV_ne, sW_ne, sV_2, sW_1, Nat.reduceEqDiff, ↓reduceIte], by rw [sV_ne _ _ _ _ (by decide)], rfl⟩, Or.inr ⟨fun j h1 h2 => by omega, by simp (disch := decide) only [sV_eq, sW_eq, sV_ne, sW_ne, sV_2, sW_1, Nat.reduceEqDiff, ↓reduceIte]⟩⟩
    · show ∃ m' : VM, L_Ft_seekTrade_1 _ _ _ = _ ∧ _
      rcases i3 with ⟨n, l, n1, n2, n3, n4, n5, n6⟩ | ⟨n1, n2⟩
      · refine ⟨mm, ?_, OnF_t k1 i1, Or.inl ⟨n, l, n1, by omega, n3, n4, n5, n6⟩⟩
        rw [E_Ft_seekTrade_1]
        simp (disch := omega) only [E_Ft_seekTrade_3, cK_54 H, okO_ov, gd_true, aI_ov H.1, n5, l_0, l_3, iI_lt, iI_eq]
        rw [if_neg (by omega), if_neg (by omega)]
      · have hR := Ft_ringing H hb (n := k + 1) (by omega) (by omega) (k + 1) 80 [] 0 mm (by omega) ⟨by rw [List.length_nil]; omega, fun j hj => absurd hj List.not_mem_nil, fun q a c r e => by simp at e, Or.inl ⟨rfl, rfl⟩⟩ (trS mm i1 i2) (fun i hi => absurd hi (Nat.not_lt_zero i))
        rw [mk6_0 (by decide), mk6_0 (by decide), mk6_0 (by decide)] at hR
        obtain ⟨m2, o, e2, q1, q2, q3, q4⟩ := hR
        replace e2 : M_Ft_chooseRinging (A 54) (iI ((k + 1 : Nat) : Int)) (iI ((k + 1 : Nat) : Int)) (iI 0) (iI 0) (iI 0) (iI 0) _ = _ := e2
        have hXm : ∀ l, Xc b (k + 1) l → Xm b (k + 1) l := fun l h => Xc_m h
        cases ho : o with
        | none =>
          rw [ho] at e2 q2
          replace e2 : M_Ft_chooseRinging _ _ _ _ _ _ _ _ = some (bZ false, _) := e2
          have hno := X_no (b := b) (n := k + 1) (X := Xc b (k + 1)) (fun _ h => h) (fun l => q2.1 rfl l)
          have ih := ih m2 ⟨OnF_t i1 (OnF_S q1 (by decide) (by decide)), ⟨by rw [q1.1 54 (by decide)]; exact i2.1, by rw [q1.1 59 (by decide)]; exact i2.2.1, by rw [q1.2]; exact i2.2.2⟩, Or.inr ⟨fun j h1 h2 => by
            by_cases e : j = k + 1
            · rw [e]; exact hno
            · exact n1 j h1 (by omega), by rw [q1.1 54 (by decide)]; exact n2⟩⟩
          rw [E_Ft_seekTrade_1]
          simp (disch := omega) only [E_Ft_seekTrade_2, cK_54 H, okO_ov, gd_true, aI_ov H.1, n2, l_0, l_1, l_3, iI_lt, bnd_some, e2, bZ_0, iI_add, iI_s, ↓reduceIte]
          rw [if_neg (by omega)]
          exact ih
        | some l =>
          rw [ho] at e2 q2
          replace e2 : M_Ft_chooseRinging _ _ _ _ _ _ _ _ = some (bZ true, _) := e2
          obtain ⟨r1, r2⟩ := q2.2 l rfl
          have hM := X_M (X := Xc b (k + 1)) hXm (fun _ h => h) r1 r2
          have hch := q4 l ho
          have ih := ih (sV m2 54 15 (iI ((k + 1 : Nat) : Int))) ⟨OnF_V (OnF_t i1 (OnF_S q1 (by decide) (by decide))) _ _ (by decide) (by decide), ⟨by simp (disch := decide) only [sV_eq, sW_eq, sV_ne, sW_ne, sV_2, sW_1, Nat.reduceEqDiff, ↓reduceIte]; rw [q1.1 54 (by decide)]; exact i2.1, by rw [sV_ne _ _ _ _ (by decide), q1.1 59 (by decide)]; exact i2.2.1, by rw [sV_2, q1.2]; exact i2.2.2⟩, Or.inl ⟨k + 1, l, by omega, by omega, hM, fun j h1 h2 => n1 j h1 (by omega), by simp (disch := decide) only [sV_eq, sW_eq, sV_ne, sW_ne, sV_2, sW_1, Nat.reduceEqDiff, ↓reduceIte], fun i hi => by rw [sV_ne _ _ _ _ (by decide)]; exact hch i hi⟩⟩
          rw [E_Ft_seekTrade_1]
          simp (disch := omega) only [E_Ft_seekTrade_2, cK_54 H, okO_ov, gd_true, aI_ov H.1, sI_ov H.1, letT_eq, n2, l_0, l_1, l_3, iI_lt, bnd_some, e2, bZ_0, iI_add, iI_s, reduceCtorEq, ↓reduceIte]
          rw [if_neg (by omega)]
          exact ih
    · refine ⟨mm, ?_, OnF_t k1 i1, i3⟩
      show L_Ft_seekTrade_1 _ _ _ = _
      rw [E_Ft_seekTrade_1]
      simp (disch := omega) only [E_Ft_seekTrade_3, l_3, iI_lt]
      rw [if_pos (by omega)]
  obtain ⟨m', e, r⟩ := lp
  replace e : L_Ft_seekTrade_1 (A 54) (iI 1) _ = _ := e
  refine ⟨m', ?_, r⟩
  unfold M_Ft_seekTrade
  rw [E_Ft_seekTrade_0]
  simp (disch := omega) only [cK_54 H, okO_ov, gd_true, bnd_some, e1, letT_eq, sI_ov H.1, l_0, l_1, e, mw_ov]
theorem q_Ft_trade {A : Nat → Nat} {σ : AM} (H : LC A σ) {b : BD} {m : VM} (hP : paE b m) {c : Int} (h1 : 0 ≤ c) (h2 : c ≤ 6) : ∃ r : Int, M_Ft_trade (A 54) (iI c) (ov 68 A m σ) = some (iI r, (ov 68 A m σ)) ∧ cnR b c r := by
  unfold M_Ft_trade
  rcases hP with ⟨n, l, n1, n2, n3, n4, n5, n6⟩ | ⟨n1, n2⟩
  · refine ⟨cnG n l c, ?_, Or.inl ⟨n, l, n1, n2, n3, n4, rfl⟩⟩
    obtain ⟨k, rfl⟩ := Int.eq_ofNat_of_zero_le h1
    unfold cnG
    rw [Int.toNat_natCast]
    by_cases z : k = 0
    · subst z
      rw [if_pos (show ((0 : Nat) : Int) = 0 from rfl), E_Ft_trade_0]
      replace n5 : m.1 54 15 = iI (n : Int) := n5
      simp (disch := omega) only [cK_54 H, okO_ov, gd_true, aI_ov H.1, n5, l_0, l_1, iI_neg, iI_eq]
      rw [if_neg (by omega), if_pos (by omega), mw_ov]
    · rw [if_neg (by omega)]
      have e1 : (k : Int) - 1 = ((k - 1 : Nat) : Int) := by omega
      have d1 : iI ((k - 1 : Nat) : Int) / iI 3 = iI (((k - 1) / 3 : Nat) : Int) := iI_div (a := k - 1) (b := 3) (by omega) (by omega)
      have d2 : iI ((k - 1 : Nat) : Int) - iI (((k - 1) / 3 : Nat) : Int) * iI 3 = iI (((k - 1) % 3 : Nat) : Int) := iI_mod (a := k - 1) (b := 3) (by omega) (by omega)
      have hm : (k - 1) % 3 < 3 := Nat.mod_lt _ (by omega)
      have hlen : l.length = 2 * n := by
        obtain ⟨R, N, rfl, h, _⟩ := n3
        rw [List.length_append, h.1, h.2.1]; omega
      by_cases y : (k - 1) % 3 < n
      · rw [if_pos y]
        have e60 : m.1 60 (k - 1) = iI (l.getD (if k - 1 < 3 then k - 1 else n + (k - 1 - 3)) 0 : Int) := by
          by_cases w : k - 1 < 3
          · rw [if_pos w]
            have := n6 (k - 1) (by omega)
            rw [if_pos (by omega)] at this
            exact this
          · rw [if_neg w]
            have := n6 (n + (k - 1 - 3)) (by omega)
            rw [if_neg (by omega), show 3 + (n + (k - 1 - 3) - n) = k - 1 by omega] at this
            exact this
        rw [E_Ft_trade_0]
        simp (disch := omega) only [E_Ft_trade_1, E_Ft_trade_2, cK_54 H, cR_54_13 H, cK_60 H, cN_60 H, okO_ov, aR_ov, aN_ov, gd_true, gd_in, iI_cl, Int.toNat_natCast, nI_iI, aI_ov H.1, n5, l_0, l_1, l_3, iI_neg, iI_eq, iI_lt, iI_sub (k : Int) 1, e1, letT_eq, d1, d2, e60]
        rw [if_neg (by omega), if_neg (by omega), if_neg (by omega), if_pos (by omega), if_pos (by omega), mw_ov]
      · rw [if_neg y, E_Ft_trade_0]
        simp (disch := omega) only [E_Ft_trade_1, E_Ft_trade_2, cK_54 H, cR_54_13 H, cK_60 H, cN_60 H, okO_ov, aR_ov, aN_ov, gd_true, nI_iI, aI_ov H.1, n5, l_0, l_1, l_3, iI_neg, iI_eq, iI_lt, iI_sub (k : Int) 1, e1, letT_eq, d1, d2]
        rw [if_neg (by omega), if_neg (by omega), if_neg (by omega), if_pos (by omega), if_neg (by omega), mw_ov]
  · refine ⟨-1, ?_, Or.inr ⟨n1, rfl⟩⟩
    rw [E_Ft_trade_0]
    simp (disch := omega) only [cK_54 H, okO_ov, gd_true, aI_ov H.1, n2, l_0, l_1, iI_neg, ↓reduceIte, mw_ov]
theorem c_cannot {d : TD} {b : BD} {g z u : Nat} {A : Nat → Nat} {σ : AM} {m : VM} (C : CS0 d b g z u A σ m) {c : Int} (h1 : -2147483648 ≤ c) (h2 : c < 2147483648) : ∃ (m' : VM) (r : Int), M_Bp_cannot (A 0) (iI c) (ov 68 A m σ) = some (iI r, (ov 68 A (m') σ)) ∧ OnF m m' ∧ (if 0 ≤ c ∧ c ≤ 6 then cnR b c r else r = -1) := by
  obtain ⟨H, hd, hD, _, hT, hb, hB, _⟩ := C
  unfold M_Bp_cannot
  by_cases q : 0 ≤ c ∧ c ≤ 6
  · obtain ⟨m', e, k, p⟩ := p_Ft_seekTrade H hb hB
    obtain ⟨r, e2, hr⟩ := q_Ft_trade H p q.1 q.2
    refine ⟨m', r, ?_, k, by rw [if_pos q]; exact hr⟩
    rw [E_Bp_cannot_0]
    simp (disch := omega) only [cK_0 H, cR_0_7 H, cK_54 H, okO_ov, aR_ov, gd_true, bnd_some, l_0, l_6, iI_lt, e, e2]
    rw [if_neg (by omega), if_neg (by omega), mw_ov]
  · refine ⟨m, -1, ?_, OnF_r m, by rw [if_neg q]⟩
    rw [E_Bp_cannot_0]
    simp (disch := omega) only [E_Bp_cannot_1, l_0, l_1, l_6, iI_neg, iI_lt]
    by_cases z : c < 0
    · rw [if_pos z, mw_ov]
    · rw [if_neg z, if_pos (by omega), mw_ov]
