/-! ===== an array made anew ===== -/
def LCx (A : Nat → Nat) (σ : AM) : Prop := Inj 68 A ∧ (∀ q ∈ tCR, aR σ (A q.1) q.2.1 = A q.2.2) ∧ (∀ q ∈ tCK, aK σ (A q.1) = q.2) ∧ (∀ q ∈ tCN, aN σ (A q.1) = q.2) ∧ (∀ k, k < 68 → A k < aZ σ)
theorem LC_x {A : Nat → Nat} {σ : AM} (H : LC A σ) : LCx A σ := ⟨H.1, H.2.1, H.2.2.1, H.2.2.2.1, H.2.2.2.2.2.2.2.2⟩
theorem LC_of {A : Nat → Nat} {σ : AM} (H : LCx A σ) (h1 : aN σ (A 22) = aN σ (A 21)) (h2 : aN σ (A 23) = aN σ (A 21)) (h3 : aN σ (A 24) = aN σ (A 21)) (h4 : aN σ (A 37) = aN σ (A 38)) : LC A σ := ⟨H.1, H.2.1, H.2.2.1, H.2.2.2.1, h1, h2, h3, h4, H.2.2.2.2⟩
/-- what lies elsewhere stays -/
def Ext (A : Nat → Nat) (σ : AM) (A' : Nat → Nat) (σ' : AM) : Prop := A' 0 = A 0 ∧ aZ σ ≤ aZ σ' ∧ aU σ ≤ aU σ' ∧ ∀ b, b < aZ σ → (∀ k, k < 68 → A k ≠ b) → (∀ k, k < 68 → A' k ≠ b) ∧ aI σ' b = aI σ b ∧ aL σ' b = aL σ b ∧ aR σ' b = aR σ b ∧ aK σ' b = aK σ b ∧ aN σ' b = aN σ b
theorem Ext_r (A : Nat → Nat) (σ : AM) : Ext A σ A σ := ⟨rfl, Nat.le_refl _, Nat.le_refl _, fun _ _ h => ⟨h, rfl, rfl, rfl, rfl, rfl⟩⟩
theorem Ext_t {A A' A'' : Nat → Nat} {σ σ' σ'' : AM} (h : Ext A σ A' σ') (k : Ext A' σ' A'' σ'') : Ext A σ A'' σ'' := by
  refine ⟨k.1.trans h.1, Nat.le_trans h.2.1 k.2.1, Nat.le_trans h.2.2.1 k.2.2.1, fun b hb hA => ?_⟩
  obtain ⟨a0, a1, a2, a3, a4, a5⟩ := h.2.2.2 b hb hA
  obtain ⟨c0, c1, c2, c3, c4, c5⟩ := k.2.2.2 b (Nat.lt_of_lt_of_le hb h.2.1) a0
  exact ⟨c0, c1.trans a1, c2.trans a2, c3.trans a3, c4.trans a4, c5.trans a5⟩
theorem aI_out {n : Nat} {A : Nat → Nat} {m : VM} {σ : AM} {b : Nat} (h : ∀ k, k < n → A k ≠ b) : aI (ov n A m σ) b = aI σ b := by
  funext j
  show (match fd A b n with | some k => m.1 k j | none => σ.1 b j) = σ.1 b j
  rw [fd_out h]
theorem aL_out {n : Nat} {A : Nat → Nat} {m : VM} {σ : AM} {b : Nat} (h : ∀ k, k < n → A k ≠ b) : aL (ov n A m σ) b = aL σ b := by
  funext j
  show (match fd A b n with | some k => m.2 k j | none => σ.2.1 b j) = σ.2.1 b j
  rw [fd_out h]
theorem Ext_ov {A : Nat → Nat} (m : VM) (σ : AM) : Ext A σ A (ov 68 A m σ) := ⟨rfl, Nat.le_refl _, Nat.le_refl _, fun _ _ h => ⟨h, aI_out h, aL_out h, rfl, rfl, rfl⟩⟩
/-- the arrays that are made anew: whose field, which field, which cell, of what kind -/
def dynT : List (Nat × Nat × Nat × Nat) := [(17, 4, 21, 102), (17, 5, 22, 101), (17, 6, 23, 101), (17, 7, 24, 101), (17, 8, 25, 101), (17, 9, 26, 101), (35, 3, 37, 103), (35, 4, 38, 101)]
def upA (A : Nat → Nat) (c z : Nat) : Nat → Nat := fun k => if k = c then z else A k
theorem okO_nw {A : Nat → Nat} {σ : AM} (hb : ∀ k, k < 68 → A k < aZ σ) (m : VM) (kd n : Nat) {o : Nat} (ho : o < 68) : okO (nw (ov 68 A m σ) kd n) (A o) = okO σ (A o) := by
  funext k
  unfold okO
  rw [aK_nw, if_neg (by rw [aZ_ov]; exact Nat.ne_of_lt (hb o ho))]; rfl
theorem realloc {A : Nat → Nat} {σ : AM} (H : LCx A σ) (m : VM) {o f c kd : Nat} (n : Nat) (hq : (o, f, c, kd) ∈ dynT) : ∃ (σ' : AM) (m' : VM), sR (nw (ov 68 A m σ) kd n) (A o) f (aZ σ) = ov 68 (upA A c (aZ σ)) m' σ' ∧ LCx (upA A c (aZ σ)) σ' ∧ (∀ k, k < 68 → k ≠ c → m'.1 k = m.1 k ∧ m'.2 k = m.2 k ∧ aN σ' (A k) = aN σ (A k)) ∧ (∀ j, m'.1 c j = 0) ∧ (∀ j, m'.2 c j = 0) ∧ aN σ' (aZ σ) = n ∧ aZ σ' = aZ σ + 1 ∧ aU σ' = aU σ + n ∧ Ext A σ (upA A c (aZ σ)) σ' := by
  have hdyn : ∀ q ∈ dynT, q.1 < 68 ∧ q.2.2.1 < 68 ∧ q.2.2.1 ≠ 0 ∧ q.1 ≠ q.2.2.1 ∧ (q.1, q.2.1, q.2.2.1) ∈ tCR ∧ (q.2.2.1, q.2.2.2) ∈ tCK := by decide
  have htR : ∀ q ∈ dynT, ∀ r ∈ tCR, r.1 ≠ q.2.2.1 ∧ ((r.1 = q.1 ∧ r.2.1 = q.2.1) → r.2.2 = q.2.2.1) ∧ (r.2.2 = q.2.2.1 → (r.1 = q.1 ∧ r.2.1 = q.2.1)) := by decide
  have htK : ∀ q ∈ dynT, ∀ r ∈ tCK, r.1 = q.2.2.1 → r.2 = q.2.2.2 := by decide
  have htN : ∀ q ∈ dynT, ∀ r ∈ tCN, r.1 ≠ q.2.2.1 := by decide
  have hlR : ∀ r ∈ tCR, r.1 < 68 ∧ r.2.2 < 68 := by decide
  have hlK : ∀ r ∈ tCK, r.1 < 68 := by decide
  have hlN : ∀ r ∈ tCN, r.1 < 68 := by decide
  obtain ⟨ho, hc, hc0, hoc, _, _⟩ := hdyn _ hq
  have R := htR _ hq
  have Kk := htK _ hq
  have N := htN _ hq
  simp only at ho hc hc0 hoc R Kk N
  obtain ⟨h1, h2, h3, h4, h5⟩ := H
  have hz : ∀ k, k < 68 → A k ≠ aZ σ := fun k hk => Nat.ne_of_lt (h5 k hk)
  let τ : AM := sR (nw (ov 68 A m σ) kd n) (A o) f (aZ σ)
  let A' := upA A c (aZ σ)
  have eA : ∀ k, k ≠ c → A' k = A k := fun k hk => if_neg hk
  have eC : A' c = aZ σ := if_pos rfl
  have kOld : ∀ k, k < 68 → aK τ (A k) = aK σ (A k) := fun k hk => by
    show aK (nw (ov 68 A m σ) kd n) (A k) = _
    rw [aK_nw, aZ_ov, if_neg (hz k hk)]; rfl
  have nOld : ∀ k, k < 68 → aN τ (A k) = aN σ (A k) := fun k hk => by
    show aN (nw (ov 68 A m σ) kd n) (A k) = _
    rw [aN_nw, aZ_ov, if_neg (hz k hk)]; rfl
  have rOld : ∀ k g, k < 68 → ¬ (k = o ∧ g = f) → aR τ (A k) g = aR σ (A k) g := fun k g hk hn => by
    show aR (sR (nw (ov 68 A m σ) kd n) (A o) f (aZ σ)) (A k) g = _
    rw [aR_sR, if_neg (fun z => hn ⟨h1 k o hk ho z.1, z.2⟩), aR_nw, aZ_ov, if_neg (hz k hk)]; rfl
  have inj : Inj 68 A' := by
    intro i j hi hj e
    by_cases a : i = c
    · by_cases b : j = c
      · rw [a, b]
      · rw [a, eC, eA j b] at e; exact absurd e.symm (hz j hj)
    · by_cases b : j = c
      · rw [b, eC, eA i a] at e; exact absurd e (hz i hi)
      · rw [eA i a, eA j b] at e; exact h1 i j hi hj e
  have cont : ∀ k, k < 68 → k ≠ c → (rd A' τ).1 k = m.1 k ∧ (rd A' τ).2 k = m.2 k := fun k hk hkc => by
    constructor
    · funext j
      show aI (sR (nw (ov 68 A m σ) kd n) (A o) f (aZ σ)) (A' k) j = _
      rw [eA k hkc, aI_sR, aI_nw, aZ_ov, if_neg (hz k hk), aI_ov h1 m σ hk]
    · funext j
      show aL (sR (nw (ov 68 A m σ) kd n) (A o) f (aZ σ)) (A' k) j = _
      rw [eA k hkc, aL_sR, aL_nw, aZ_ov, if_neg (hz k hk), aL_ov h1 m σ hk]
  refine ⟨τ, rd A' τ, (ov_rd 68 A' τ).symm, ⟨inj, ?_, ?_, ?_, ?_⟩, fun k hk hkc => ⟨(cont k hk hkc).1, (cont k hk hkc).2, nOld k hk⟩, ?_, ?_, ?_, rfl, rfl, ?_⟩
  · intro r hr
    obtain ⟨r1, r2⟩ := hlR r hr
    obtain ⟨s1, s2, s3⟩ := R r hr
    rw [show upA A c (aZ σ) r.1 = A r.1 from eA _ s1]
    by_cases q : r.1 = o ∧ r.2.1 = f
    · rw [s2 q, show upA A c (aZ σ) c = aZ σ from eC, q.1, q.2]
      show aR (sR (nw (ov 68 A m σ) kd n) (A o) f (aZ σ)) (A o) f = _
      rw [aR_sR, if_pos ⟨rfl, rfl⟩]
    · rw [rOld _ _ r1 q, h2 r hr, show upA A c (aZ σ) r.2.2 = A r.2.2 from eA _ (fun z => q (s3 z))]
  · intro r hr
    by_cases q : r.1 = c
    · rw [q, show upA A c (aZ σ) c = aZ σ from eC, Kk r hr q]
      show aK (nw (ov 68 A m σ) kd n) (aZ σ) = _
      rw [aK_nw, aZ_ov, if_pos rfl]
    · rw [show upA A c (aZ σ) r.1 = A r.1 from eA _ q, kOld _ (hlK r hr)]; exact h3 r hr
  · intro r hr
    rw [show upA A c (aZ σ) r.1 = A r.1 from eA _ (N r hr), nOld _ (hlN r hr)]; exact h4 r hr
  · intro k hk
    show upA A c (aZ σ) k < aZ σ + 1
    by_cases q : k = c
    · rw [q, show upA A c (aZ σ) c = aZ σ from eC]; omega
    · rw [show upA A c (aZ σ) k = A k from eA _ q]; have := h5 k hk; omega
  · intro j
    show aI (sR (nw (ov 68 A m σ) kd n) (A o) f (aZ σ)) (A' c) j = _
    rw [eC, aI_sR, aI_nw, aZ_ov, if_pos rfl]
  · intro j
    show aL (sR (nw (ov 68 A m σ) kd n) (A o) f (aZ σ)) (A' c) j = _
    rw [eC, aL_sR, aL_nw, aZ_ov, if_pos rfl]
  · show aN (nw (ov 68 A m σ) kd n) (aZ σ) = _
    rw [aN_nw, aZ_ov, if_pos rfl]
  · refine ⟨eA 0 (fun z => hc0 z.symm), Nat.le_succ _, Nat.le_add_right _ _, fun b hb hA => ?_⟩
    have hbz : b ≠ aZ σ := Nat.ne_of_lt hb
    refine ⟨fun k hk => ?_, ?_, ?_, ?_, ?_, ?_⟩
    · by_cases q : k = c
      · rw [q, show upA A c (aZ σ) c = aZ σ from eC]; exact fun z => hbz z.symm
      · rw [show upA A c (aZ σ) k = A k from eA _ q]; exact hA k hk
    · funext j
      show aI (sR (nw (ov 68 A m σ) kd n) (A o) f (aZ σ)) b j = _
      rw [aI_sR, aI_nw, aZ_ov, if_neg hbz, aI_out hA]
    · funext j
      show aL (sR (nw (ov 68 A m σ) kd n) (A o) f (aZ σ)) b j = _
      rw [aL_sR, aL_nw, aZ_ov, if_neg hbz, aL_out hA]
    · funext j
      show aR (sR (nw (ov 68 A m σ) kd n) (A o) f (aZ σ)) b j = _
      rw [aR_sR, if_neg (fun z => hA o ho z.1.symm), aR_nw, aZ_ov, if_neg hbz]; rfl
    · show aK (nw (ov 68 A m σ) kd n) b = _
      rw [aK_nw, aZ_ov, if_neg hbz]; rfl
    · show aN (nw (ov 68 A m σ) kd n) b = _
      rw [aN_nw, aZ_ov, if_neg hbz]; rfl
