/-! ===== both sides in one heap ===== -/
theorem ov_comm {A B : Nat → Nat} {m n : VM} {σ : AM} {a b : Nat} (hd : ∀ i j, i < a → j < b → A i ≠ B j) : ov a A m (ov b B n σ) = ov b B n (ov a A m σ) := by
  unfold ov
  refine Prod.ext ?_ (Prod.ext ?_ rfl)
  · funext x j
    show (match fd A x a with | some k => m.1 k j | none => (match fd B x b with | some k => n.1 k j | none => σ.1 x j)) = (match fd B x b with | some k => n.1 k j | none => (match fd A x a with | some k => m.1 k j | none => σ.1 x j))
    cases e : fd A x a with
    | none => cases f : fd B x b <;> rfl
    | some k =>
      cases f : fd B x b with
      | none => rfl
      | some l =>
        obtain ⟨k1, k2⟩ := fd_lt e
        obtain ⟨l1, l2⟩ := fd_lt f
        exact absurd (k2.trans l2.symm) (hd k l k1 l1)
  · funext x j
    show (match fd A x a with | some k => m.2 k j | none => (match fd B x b with | some k => n.2 k j | none => σ.2.1 x j)) = (match fd B x b with | some k => n.2 k j | none => (match fd A x a with | some k => m.2 k j | none => σ.2.1 x j))
    cases e : fd A x a with
    | none => cases f : fd B x b <;> rfl
    | some k =>
      cases f : fd B x b with
      | none => rfl
      | some l =>
        obtain ⟨k1, k2⟩ := fd_lt e
        obtain ⟨l1, l2⟩ := fd_lt f
        exact absurd (k2.trans l2.symm) (hd k l k1 l1)
/-- an overlay that says what lies there -/
theorem ov_same {B : Nat → Nat} {n : VM} {σ : AM} {b : Nat} (h : ∀ j, j < b → aI σ (B j) = n.1 j ∧ aL σ (B j) = n.2 j) : ov b B n σ = σ := by
  unfold ov
  refine Prod.ext ?_ (Prod.ext ?_ rfl)
  · funext x j
    show (match fd B x b with | some k => n.1 k j | none => σ.1 x j) = σ.1 x j
    cases f : fd B x b with
    | none => rfl
    | some l =>
      obtain ⟨l1, l2⟩ := fd_lt f
      show n.1 l j = σ.1 x j
      rw [← (h l l1).1, l2]; rfl
  · funext x j
    show (match fd B x b with | some k => n.2 k j | none => σ.2.1 x j) = σ.2.1 x j
    cases f : fd B x b with
    | none => rfl
    | some l =>
      obtain ⟨l1, l2⟩ := fd_lt f
      show n.2 l j = σ.2.1 x j
      rw [← (h l l1).2, l2]; rfl
theorem sL_out {A : Nat → Nat} {m : VM} {σ : AM} {a q : Nat} (hq : ∀ k, k < a → A k ≠ q) (j : Nat) (v : Int64) : sL (ov a A m σ) q j v = ov a A m (sL σ q j v) := by
  unfold sL ov
  refine Prod.ext rfl (Prod.ext ?_ rfl)
  funext x i
  show (if x = q ∧ i = j then v else (match fd A x a with | some k => m.2 k i | none => σ.2.1 x i)) = (match fd A x a with | some k => m.2 k i | none => (if x = q ∧ i = j then v else σ.2.1 x i))
  cases e : fd A x a with
  | none => rfl
  | some k =>
    obtain ⟨k1, k2⟩ := fd_lt e
    show (if x = q ∧ i = j then v else m.2 k i) = m.2 k i
    rw [if_neg (fun z => hq k k1 (k2.trans z.1))]
def KOk (d : TD) (b : BD) (k : KD) : Prop := (∀ j, j < 4 → kO k j ≤ kL k) ∧ ∀ j, j < 4 → kO k j ≠ 0 → kT k j ≤ 60 ∧ kH k j ≤ 8 ∧ ∀ i, i < kT k j → tS b i < sN d
def WF (s : SD) (c : Nat) : Prop := KOk (sD s) (sB s) (sK s) ∧ wfT (sT s) ∧ wfP (sD s) (sP s) ∧ kL (sK s) ≤ c
def CI (s : SD) (c g z u : Nat) (A : Nat → Nat) (σ : AM) (m : VM) : Prop := CS0 (sD s) (sB s) g z u A σ m ∧ CKs (sK s) c m ∧ CTp (sT s) m ∧ CPl (sP s) m ∧ HA (sD s) (sB s) g m ∧ TA (sD s) (sB s) g m ∧ DA (sD s) (sB s) g m ∧ GA (sD s) (sB s) g m
def MJ (s : SD) (B : Nat → Nat) (ρ : AM) (n : VM) : Prop := MS0 (sD s) (sB s) B ρ n ∧ MKs (sK s) n ∧ MTp (sT s) n ∧ MPl (sP s) n ∧ MWd n
theorem DA_K {d : TD} {b : BD} {g : Nat} {m m' : VM} (h : Kg 4 m m') (k : DA d b g m) : DA d b g m' := by
  obtain ⟨a, a1, a2, a3, a4⟩ := k
  exact ⟨a, by rw [h.1 (61, 10) (by decide)]; exact a1, a2, a3, fun e => DV_K h (a4 e)⟩
theorem GA_K {d : TD} {b : BD} {g : Nat} {m m' : VM} (h : Kg 5 m m') (k : GA d b g m) : GA d b g m' := by
  obtain ⟨a, a1, a2, a3, a4⟩ := k
  exact ⟨a, by rw [h.1 (61, 11) (by decide)]; exact a1, a2, a3, fun e => GV_K h (a4 e)⟩
theorem HA_up {d d' : TD} {b b' : BD} {g : Nat} {m m' : VM} (h : Kg 2 m m') (k : HA d b g m) : HA d' b' (g + 1) m' := by
  obtain ⟨a, a1, a2, a3, a4⟩ := k
  exact ⟨a, by rw [h.1 (39, 15) (by decide)]; exact a1, a2, by omega, fun e => absurd e (by omega)⟩
theorem TA_up {d d' : TD} {b b' : BD} {g : Nat} {m m' : VM} (h : Kg 3 m m') (k : TA d b g m) : TA d' b' (g + 1) m' := fun way hw => by
  obtain ⟨a, a1, a2, a3, a4⟩ := k way hw
  exact ⟨a, by rw [h.2.1 46 (by decide)]; exact a1, a2, by omega, fun e => absurd e (by omega)⟩
theorem DA_up {d d' : TD} {b b' : BD} {g : Nat} {m m' : VM} (h : Kg 4 m m') (k : DA d b g m) : DA d' b' (g + 1) m' := by
  obtain ⟨a, a1, a2, a3, a4⟩ := k
  exact ⟨a, by rw [h.1 (61, 10) (by decide)]; exact a1, a2, by omega, fun e => absurd e (by omega)⟩
theorem GA_up {d d' : TD} {b b' : BD} {g : Nat} {m m' : VM} (h : Kg 5 m m') (k : GA d b g m) : GA d' b' (g + 1) m' := by
  obtain ⟨a, a1, a2, a3, a4⟩ := k
  exact ⟨a, by rw [h.1 (61, 11) (by decide)]; exact a1, a2, by omega, fun e => absurd e (by omega)⟩
theorem CS0_w {d : TD} {b : BD} {g z u z' u' : Nat} {A : Nat → Nat} {σ : AM} {m : VM} (C : CS0 d b g z u A σ m) (h : z ≤ z') (h2 : u ≤ u') : CS0 d b g z' u' A σ m := by
  obtain ⟨c1, c2, c3, ⟨r1, r2, r3⟩, c5⟩ := C
  exact ⟨c1, c2, c3, ⟨by omega, by omega, r3⟩, c5⟩
theorem CKs_0 {k : KD} {c : Nat} {m m' : VM} (h : Kg 0 m m') (q : CKs k c m) : CKs k c m' := by
  obtain ⟨e, e1, e2, e3, e4, e5⟩ := q
  refine ⟨e, e1, ?_, ?_, ?_, ?_⟩
  · rw [h.1 (27, 9) (by decide)]; exact e2
  · rw [h.2.1 34 (by decide)]; exact e3
  · rw [h.2.1 32 (by decide)]; exact e4
  · rw [h.2.1 33 (by decide)]; exact e5
theorem CTp_0 {t : PD} {m m' : VM} (h : Kg 0 m m') (q : CTp t m) : CTp t m' := ⟨by rw [h.1 (1, 2) (by decide)]; exact q.1, by rw [h.2.1 2 (by decide)]; exact q.2⟩
theorem CPl_0 {p : PD} {m m' : VM} (h : Kg 0 m m') (q : CPl p m) : CPl p m' := ⟨by rw [h.1 (0, 11) (by decide)]; exact q.1, by rw [h.2.1 67 (by decide)]; exact q.2⟩
/-- the two sides' calls, as they are told -/
def CSpec (s : SD) (c z u a : Nat) {ρ : Type} (f : AM → Option (ρ × AM)) (s' : SD) (R : ρ → Prop) : Prop := ∀ (A : Nat → Nat) (σ : AM) (m : VM) (g : Nat), A 0 = a → g ≤ c → CI s c g z u A σ m → ∃ (A' : Nat → Nat) (σ' : AM) (m' : VM) (g' : Nat) (r : ρ), f (ov 68 A m σ) = some (r, ov 68 A' m' σ') ∧ Ext A σ A' σ' ∧ CI s' (c + 1) g' (z + 7) (u + 6) A' σ' m' ∧ g' ≤ c + 1 ∧ R r
def MSpec (s : SD) (b0 : Nat) {ρ : Type} (f : AM → Option (ρ × AM)) (s' : SD) (R : ρ → Prop) : Prop := ∀ (B : Nat → Nat) (σ : AM) (n : VM), B 0 = b0 → MJ s B σ n → ∃ (n' : VM) (r : ρ), f (ov 40 B n σ) = some (r, ov 40 B n' σ) ∧ MJ s' B σ n' ∧ R r
/-- where the two stand, and the cell for an answer -/
def WI (s : SD) (c z u a b0 q : Nat) (τ : AM) : Prop := ∃ (A B : Nat → Nat) (σ : AM) (m n : VM) (g : Nat), τ = ov 68 A m (ov 40 B n σ) ∧ A 0 = a ∧ B 0 = b0 ∧ (∀ i j, i < 68 → j < 40 → A i ≠ B j) ∧ (∀ i, i < 68 → A i ≠ q) ∧ (∀ j, j < 40 → B j ≠ q) ∧ q < aZ σ ∧ aK σ q = 102 ∧ aN σ q = 1 ∧ g ≤ c ∧ CI s c g z u A σ m ∧ MJ s B σ n
theorem WI_z {s : SD} {c z u a b0 q : Nat} {τ : AM} (W : WI s c z u a b0 q τ) : aZ τ ≤ z ∧ aU τ ≤ u + 500000 ∧ okO τ a 11 = true ∧ okO τ b0 12 = true ∧ okO τ q 102 = true ∧ aN τ q = 1 := by
  obtain ⟨A, B, σ, m, n, g, e, ha, hb, hd, hq1, hq2, hq3, hq4, hq5, hg, hC, hM⟩ := W
  subst e
  obtain ⟨r1, r2, r3, r4, r5, r6, _⟩ := hC.1.2.2.2.1
  refine ⟨r1, ?_, by rw [← ha]; exact cK_0 hC.1.1, by rw [← hb]; exact mK_0 hM.1.1, okO_of hq4, hq5⟩
  have p1 : pot (aN σ (A 21)) ≤ 49152 := by unfold pot; split <;> omega
  have p2 : pot (aN σ (A 38)) ≤ 49152 := by unfold pot; split <;> omega
  show aU σ ≤ u + 500000
  omega
theorem both {s s' : SD} {c z u a b0 q : Nat} {τ : AM} {ρ : Type} {f h : AM → Option (ρ × AM)} {R R' : ρ → Prop} (hf : CSpec s c z u a f s' R) (hh : MSpec s b0 h s' R') (hR : ∀ r r', R r → R' r' → r = r') (W : WI s c z u a b0 q τ) : ∃ (r : ρ) (τ1 τ2 : AM), f τ = some (r, τ1) ∧ okO τ1 b0 12 = true ∧ h τ1 = some (r, τ2) ∧ WI s' (c + 1) (z + 7) (u + 6) a b0 q τ2 := by
  obtain ⟨A, B, σ, m, n, g, e, ha, hb, hd, hq1, hq2, hq3, hq4, hq5, hg, hC, hM⟩ := W
  subst e
  have hBz := hM.1.1.2.2.2
  have hBi := hM.1.1.1
  obtain ⟨A', σ', m', g', r, e1, x, C', hg', hr⟩ := hf A (ov 40 B n σ) m g ha hg hC
  obtain ⟨x1, x2, x3, x4⟩ := x
  have hB4 : ∀ j, j < 40 → (∀ k, k < 68 → A' k ≠ B j) ∧ aI σ' (B j) = n.1 j ∧ aL σ' (B j) = n.2 j ∧ aR σ' (B j) = aR σ (B j) ∧ aK σ' (B j) = aK σ (B j) ∧ aN σ' (B j) = aN σ (B j) := fun j hj => by
    obtain ⟨y1, y2, y3, y4, y5, y6⟩ := x4 (B j) (hBz j hj) (fun k hk => hd k j hk hj)
    refine ⟨y1, ?_, ?_, y4, y5, y6⟩
    · rw [y2]; funext i; exact aI_ov hBi n σ hj i
    · rw [y3]; funext i; exact aL_ov hBi n σ hj i
  obtain ⟨w1, w2, w3, w4, w5, w6⟩ := x4 q hq3 hq1
  have hd' : ∀ i j, i < 68 → j < 40 → A' i ≠ B j := fun i j hi hj => (hB4 j hj).1 i hi
  have es : σ' = ov 40 B n σ' := (ov_same fun j hj => ⟨(hB4 j hj).2.1, (hB4 j hj).2.2.1⟩).symm
  have M' : MJ s B σ' n := by
    obtain ⟨⟨⟨l1, l2, l3, l4⟩, m2, m3, m4, m5⟩, k1⟩ := hM
    have h0 : ∀ q ∈ tMK, q.1 < 40 := by decide
    refine ⟨⟨⟨l1, fun q hq => ?_, fun q hq => ?_, fun k hk => ?_⟩, m2, m3, m4, m5⟩, k1⟩
    · rw [(hB4 0 (by omega)).2.2.2.1]; exact l2 q hq
    · rw [(hB4 q.1 (h0 q hq)).2.2.2.2.1, (hB4 q.1 (h0 q hq)).2.2.2.2.2]; exact l3 q hq
    · exact Nat.lt_of_lt_of_le (l4 k hk) x2
  have M2 : MJ s B (ov 68 A' m' σ') n := M'
  obtain ⟨n', r', e2, M3, hr'⟩ := hh B (ov 68 A' m' σ') n hb M2
  have er : r = r' := hR r r' hr hr'
  subst er
  have et : ov 68 A' m' σ' = ov 40 B n (ov 68 A' m' σ') := by
    rw [← ov_comm hd', ← es]
  refine ⟨r, ov 68 A' m' σ', ov 40 B n' (ov 68 A' m' σ'), e1, by rw [← hb]; exact mK_0 M'.1.1, by rw [← e2, ← et], A', B, σ', m', n', g', (ov_comm hd').symm, x1.trans ha, hb, hd', w1, hq2, Nat.lt_of_lt_of_le hq3 x2, by rw [w5]; exact hq4, by rw [w6]; exact hq5, hg', C', M3⟩
theorem i_of (v : Int32) : iI v.toInt = v := Int32.ofInt_toInt v
theorem iI_lo (v : Int32) : -2147483648 ≤ v.toInt := Int32.le_toInt v
theorem iI_hi (v : Int32) : v.toInt < 2147483648 := Int32.toInt_lt v
