/-! ===== the state of the other side; groups of cells that a call leaves as they were: 0 tower, lists, book, tape, plate; 1 rest; 2 a run; 3 all runs; 4 wrongs; 5 growth ===== -/
def gF (g : Nat) : List (Nat × Nat) := match g with
  | 0 => [(10, 7), (10, 8), (10, 9), (10, 10), (17, 11), (17, 12), (27, 7), (27, 8), (27, 9), (27, 10), (1, 2), (0, 11)]
  | 1 => [(35, 5), (35, 6), (35, 9)]
  | 2 => [(39, 13), (39, 14), (39, 15), (39, 16), (39, 17), (39, 18)]
  | 4 => [(61, 7), (61, 10)]
  | 5 => [(61, 11), (61, 12), (61, 13), (61, 14)]
  | 10 => [(10, 7), (10, 8), (10, 9), (10, 10), (17, 11), (17, 12)]
  | 11 => [(27, 7), (27, 8)]
  | 12 => [(27, 9)]
  | 13 => [(1, 2)]
  | 14 => [(0, 11)]
  | 15 => [(27, 10)]
  | 20 => [(0, 10), (0, 11), (0, 12), (0, 13), (0, 26), (0, 29)]
  | 21 => [(0, 37), (0, 42)]
  | 22 => [(0, 72)]
  | 23 => [(0, 2)]
  | 24 => [(0, 70)]
  | _ => []
def gC (g : Nat) : List Nat := match g with
  | 0 => [15, 22, 23, 28, 29, 30, 31, 32, 33, 34, 2, 67]
  | 1 => [37, 38]
  | 2 => [47]
  | 3 => [44, 45, 46]
  | 4 => [64]
  | 10 => [15, 22, 23]
  | 11 => [28, 29, 30, 31]
  | 12 => [32, 33, 34]
  | 13 => [2]
  | 14 => [67]
  | 20 => [13, 15, 20]
  | 21 => [21, 22, 23, 24]
  | 22 => [37, 38, 39]
  | 23 => [1]
  | 24 => [36]
  | _ => []
def gL (g : Nat) : List (Nat × Nat) := match g with
  | 1 => [(35, 7), (35, 8)]
  | 4 => [(61, 8), (61, 9)]
  | _ => []
def gM (g : Nat) : List Nat := match g with
  | 0 => [21]
  | 10 => [21]
  | 20 => [12, 14]
  | 25 => [5]
  | _ => []
def Kg (g : Nat) (m m' : VM) : Prop := (∀ q ∈ gF g, m'.1 q.1 q.2 = m.1 q.1 q.2) ∧ (∀ c ∈ gC g, m'.1 c = m.1 c) ∧ (∀ q ∈ gL g, m'.2 q.1 q.2 = m.2 q.1 q.2) ∧ (∀ c ∈ gM g, m'.2 c = m.2 c)
def Ks (gs : List Nat) (m m' : VM) : Prop := ∀ g ∈ gs, Kg g m m'
theorem Kg_r (g : Nat) (m : VM) : Kg g m m := ⟨fun _ _ => rfl, fun _ _ => rfl, fun _ _ => rfl, fun _ _ => rfl⟩
theorem Kg_t {g : Nat} {a b c : VM} (h : Kg g a b) (k : Kg g b c) : Kg g a c := ⟨fun q hq => (k.1 q hq).trans (h.1 q hq), fun q hq => (k.2.1 q hq).trans (h.2.1 q hq), fun q hq => (k.2.2.1 q hq).trans (h.2.2.1 q hq), fun q hq => (k.2.2.2 q hq).trans (h.2.2.2 q hq)⟩
theorem Ks_r (gs : List Nat) (m : VM) : Ks gs m m := fun g _ => Kg_r g m
theorem Ks_t {gs : List Nat} {a b c : VM} (h : Ks gs a b) (k : Ks gs b c) : Ks gs a c := fun g hg => Kg_t (h g hg) (k g hg)
theorem Ks_sub {gs hs : List Nat} {a b : VM} (h : Ks gs a b) (k : hs.all (fun g => gs.contains g) = true) : Ks hs a b := fun g hg => h g (by
  have := List.all_eq_true.mp k g hg
  exact List.contains_iff_mem.mp this)
theorem Ks_V {gs : List Nat} {m m' : VM} (h : Ks gs m m') {c j : Nat} (v : Int32) (hc : gs.all (fun g => !(gC g).contains c && !(gF g).contains (c, j)) = true) : Ks gs m (sV m' c j v) := fun g hg => by
  have h1 := List.all_eq_true.mp hc g hg
  rw [Bool.and_eq_true, Bool.not_eq_true', Bool.not_eq_true'] at h1
  have n1 : ¬ c ∈ gC g := fun q => by rw [List.contains_iff_mem.mpr q] at h1; exact absurd h1.1 (by simp)
  have n2 : ¬ (c, j) ∈ gF g := fun q => by rw [List.contains_iff_mem.mpr q] at h1; exact absurd h1.2 (by simp)
  obtain ⟨a1, a2, a3, a4⟩ := h g hg
  refine ⟨fun q hq => ?_, fun q hq => ?_, a3, a4⟩
  · rw [← a1 q hq]
    by_cases e : q.1 = c
    · by_cases e2 : q.2 = j
      · exact absurd hq (by rw [show q = (c, j) from Prod.ext e e2]; exact n2)
      · rw [e, sV_eq, if_neg e2]
    · rw [sV_ne _ _ _ _ e]
  · rw [sV_ne _ _ _ _ (b := q) (fun e => n1 (by rw [← e]; exact hq)), a2 q hq]
theorem Ks_A {gs : List Nat} {m m' : VM} (h : Ks gs m m') {c : Nat} (j : Nat) (v : Int32) (hc : gs.all (fun g => !(gC g).contains c && (gF g).all (fun q => !(q.1 == c))) = true) : Ks gs m (sV m' c j v) := Ks_V h v (List.all_eq_true.mpr fun g hg => by
  have h1 := List.all_eq_true.mp hc g hg
  rw [Bool.and_eq_true] at h1 ⊢
  refine ⟨h1.1, ?_⟩
  rw [Bool.not_eq_true']
  cases q : (gF g).contains (c, j)
  · rfl
  · have := List.all_eq_true.mp h1.2 _ (List.contains_iff_mem.mp q)
    simp at this)
theorem Ks_W {gs : List Nat} {m m' : VM} (h : Ks gs m m') {c j : Nat} (v : Int64) (hc : gs.all (fun g => !(gM g).contains c && !(gL g).contains (c, j)) = true) : Ks gs m (sW m' c j v) := fun g hg => by
  have h1 := List.all_eq_true.mp hc g hg
  rw [Bool.and_eq_true, Bool.not_eq_true', Bool.not_eq_true'] at h1
  have n1 : ¬ c ∈ gM g := fun q => by rw [List.contains_iff_mem.mpr q] at h1; exact absurd h1.1 (by simp)
  have n2 : ¬ (c, j) ∈ gL g := fun q => by rw [List.contains_iff_mem.mpr q] at h1; exact absurd h1.2 (by simp)
  obtain ⟨a1, a2, a3, a4⟩ := h g hg
  refine ⟨a1, a2, fun q hq => ?_, fun q hq => ?_⟩
  · rw [← a3 q hq]
    by_cases e : q.1 = c
    · by_cases e2 : q.2 = j
      · exact absurd hq (by rw [show q = (c, j) from Prod.ext e e2]; exact n2)
      · rw [e, sW_eq, if_neg e2]
    · rw [sW_ne _ _ _ _ e]
  · rw [sW_ne _ _ _ _ (b := q) (fun e => n1 (by rw [← e]; exact hq)), a4 q hq]
theorem Ks_X {gs : List Nat} {m m' : VM} (h : Ks gs m m') {c : Nat} (j : Nat) (v : Int64) (hc : gs.all (fun g => !(gM g).contains c && (gL g).all (fun q => !(q.1 == c))) = true) : Ks gs m (sW m' c j v) := Ks_W h v (List.all_eq_true.mpr fun g hg => by
  have h1 := List.all_eq_true.mp hc g hg
  rw [Bool.and_eq_true] at h1 ⊢
  refine ⟨h1.1, ?_⟩
  rw [Bool.not_eq_true']
  cases q : (gL g).contains (c, j)
  · rfl
  · have := List.all_eq_true.mp h1.2 _ (List.contains_iff_mem.mp q)
    simp at this)
/-! the base group -/
def CTw (d : TD) (m : VM) : Prop := (m.1 10 7 = iI (dT d : Int) ∧ m.1 10 8 = iI (dM d : Int) ∧ m.1 10 9 = iI (dB d : Int) ∧ m.1 10 10 = iI (dA d : Int) ∧ m.1 17 11 = iI (NL d : Int) ∧ m.1 17 12 = iI (nMay d : Int)) ∧ (∀ k, k < NL d → m.2 21 k = LL d k) ∧ (∀ k, k < NL d → m.1 22 k = iI (sh d k : Int)) ∧ (∀ w, w < dW d → m.1 23 w = if dMay d w = true then iI (num d w : Int) else iI (-1)) ∧ (∀ s, s < sN d → m.1 15 s = dCo d s)
def CBk (b : BD) (m : VM) : Prop := (m.1 27 7 = iI (nT b : Int) ∧ m.1 27 8 = iI (nH b : Int)) ∧ (∀ j, j < 60 → m.1 28 j = iI (tS b j : Int)) ∧ (∀ j, j < 60 → m.1 29 j = bZ (tR b j)) ∧ (∀ j, j < 8 → m.1 30 j = iI (hS b j : Int)) ∧ (∀ j, j < 8 → m.1 31 j = iI (hN b j : Int))
def CKs (k : KD) (c : Nat) (m : VM) : Prop := ∃ e : Nat, kL k + e ≤ c ∧ m.1 27 9 = iI ((kL k + e : Nat) : Int) ∧ (∀ j, j < 4 → m.1 34 j = iI ((if kO k j = 0 then 0 else kO k j + e : Nat) : Int)) ∧ (∀ j, j < 4 → m.1 32 j = iI (kT k j : Int)) ∧ (∀ j, j < 4 → m.1 33 j = iI (kH k j : Int))
def CTp (t : PD) (m : VM) : Prop := m.1 1 2 = iI (t.1 : Int) ∧ ∀ j, j < t.1 → m.1 2 j = iI (t.2 j : Int)
def CPl (p : PD) (m : VM) : Prop := m.1 0 11 = iI (p.1 : Int) ∧ ∀ j, j < p.1 → m.1 67 j = iI (p.2 j : Int)
def C0 (s : SD) (c g : Nat) (m : VM) : Prop := CTw (sD s) m ∧ CBk (sB s) m ∧ CKs (sK s) c m ∧ CTp (sT s) m ∧ CPl (sP s) m ∧ m.1 27 10 = iI (g : Int) ∧ g ≤ c
theorem CTw_K {d : TD} {m m' : VM} (h : Kg 0 m m') (k : CTw d m) : CTw d m' := by
  obtain ⟨⟨a1, a2, a3, a4, a5, a6⟩, b1, b2, b3, b4⟩ := k
  obtain ⟨h1, h2, h3, h4⟩ := h
  refine ⟨⟨?_, ?_, ?_, ?_, ?_, ?_⟩, ?_, ?_, ?_, ?_⟩
  · rw [h1 (10, 7) (by decide)]; exact a1
  · rw [h1 (10, 8) (by decide)]; exact a2
  · rw [h1 (10, 9) (by decide)]; exact a3
  · rw [h1 (10, 10) (by decide)]; exact a4
  · rw [h1 (17, 11) (by decide)]; exact a5
  · rw [h1 (17, 12) (by decide)]; exact a6
  · rw [h4 21 (by decide)]; exact b1
  · rw [h2 22 (by decide)]; exact b2
  · rw [h2 23 (by decide)]; exact b3
  · rw [h2 15 (by decide)]; exact b4
theorem CBk_K {b : BD} {m m' : VM} (h : Kg 0 m m') (k : CBk b m) : CBk b m' := by
  obtain ⟨⟨a1, a2⟩, b1, b2, b3, b4⟩ := k
  obtain ⟨h1, h2, h3, h4⟩ := h
  refine ⟨⟨?_, ?_⟩, ?_, ?_, ?_, ?_⟩
  · rw [h1 (27, 7) (by decide)]; exact a1
  · rw [h1 (27, 8) (by decide)]; exact a2
  · rw [h2 28 (by decide)]; exact b1
  · rw [h2 29 (by decide)]; exact b2
  · rw [h2 30 (by decide)]; exact b3
  · rw [h2 31 (by decide)]; exact b4
theorem C0_K {s : SD} {c g : Nat} {m m' : VM} (h : Kg 0 m m') (k : C0 s c g m) : C0 s c g m' := by
  obtain ⟨k1, k2, ⟨e, e1, e2, e3, e4, e5⟩, ⟨t1, t2⟩, ⟨p1, p2⟩, a1, a2⟩ := k
  refine ⟨CTw_K h k1, CBk_K h k2, ⟨e, e1, ?_, ?_, ?_, ?_⟩, ⟨?_, ?_⟩, ⟨?_, ?_⟩, ?_, a2⟩
  · rw [h.1 (27, 9) (by decide)]; exact e2
  · rw [h.2.1 34 (by decide)]; exact e3
  · rw [h.2.1 32 (by decide)]; exact e4
  · rw [h.2.1 33 (by decide)]; exact e5
  · rw [h.1 (1, 2) (by decide)]; exact t1
  · rw [h.2.1 2 (by decide)]; exact t2
  · rw [h.1 (0, 11) (by decide)]; exact p1
  · rw [h.2.1 67 (by decide)]; exact p2
  · rw [h.1 (27, 10) (by decide)]; exact a1
/-! what is left, as it is kept -/
def som (d : TD) (b : BD) : Nat → Int64
  | 0 => 0
  | n + 1 => if fitK d b n = true then som d b n ||| LL d n else som d b n
def evr (d : TD) (b : BD) : Nat → Int64
  | 0 => -1
  | n + 1 => if fitK d b n = true then evr d b n &&& LL d n else evr d b n
def RV (d : TD) (b : BD) (m : VM) : Prop := m.1 35 5 = iI (nLf d b : Int) ∧ m.1 35 6 = iI (wLf d b : Int) ∧ m.2 35 7 = som d b (NL d) ∧ m.2 35 8 = evr d b (NL d) ∧ Row (m.1 38) (lefts d b) ∧ (∀ k, k < NL d → m.1 37 k = bZ (fitK d b k))
theorem RV_K {d : TD} {b : BD} {m m' : VM} (h : Kg 1 m m') (k : RV d b m) : RV d b m' := by
  obtain ⟨a1, a2, a3, a4, a5, a6⟩ := k
  refine ⟨?_, ?_, ?_, ?_, ?_, ?_⟩
  · rw [h.1 (35, 5) (by decide)]; exact a1
  · rw [h.1 (35, 6) (by decide)]; exact a2
  · rw [h.2.2.1 (35, 7) (by decide)]; exact a3
  · rw [h.2.2.1 (35, 8) (by decide)]; exact a4
  · rw [h.2.1 38 (by decide)]; exact a5
  · rw [h.2.1 37 (by decide)]; exact a6
