theorem fV_0 {ci k : Nat} {σ : AM} {q : Nat} (h : ftk ci k = 0) : fV ci σ q k = .int (aI σ q k) := if_pos h
theorem fV_1 {ci k : Nat} {σ : AM} {q : Nat} (h : ftk ci k = 1) : fV ci σ q k = .long (aL σ q k) := by unfold fV; rw [if_neg (by rw [h]; decide), if_pos h]
theorem fV_2 {ci k : Nat} {σ : AM} {q : Nat} (h : ftk ci k = 2) : fV ci σ q k = refV (aR σ q k) := by unfold fV; rw [if_neg (by rw [h]; decide), if_neg (by rw [h]; decide)]
theorem rp_ne {G : GX} {σ : AM} {H : Heap} (hR : RP G σ H) {a k : Nat} (h : aK σ a = k) (hk : k ≠ 0) : a ≠ 0 := by
  intro h0
  have := hR.2.2.2.2.1 a (by rw [h]; exact hk)
  have := hR.1
  omega
/-- an object's cell is written at one field: what the other cells and its other fields hold stays -/
theorem rp_put {G : GX} {σ σ1 : AM} {H H1 : Heap} {a k ci : Nat} {r : vw_C} {cell : Cell} {v : Value} (hR : RP G σ H) (hk : aK σ a = ci + 1) (hc : clA[ci]? = some r)
    (hcell : H[a]? = some cell) (q2 : cell.cls = G.1.1.1 ci) (q3 : cell.vm = .none) (q4 : ∀ k, k < r.2.2 → cell.slots[G.1.1.2 ci k]? = some (fV ci σ a k))
    (hap : ∀ x y, x < r.2.2 → y < r.2.2 → x ≠ y → G.1.1.2 ci x ≠ G.1.1.2 ci y) (hkn : k < r.2.2)
    (e1 : H1[a]? = some (cell.setSlot (G.1.1.2 ci k) v)) (e2 : H1.size = H.size) (e3 : ∀ q, q ≠ a → H1[q]? = H[q]?)
    (hK1 : ∀ q, aK σ1 q = aK σ q) (hN1 : ∀ q, aN σ1 q = aN σ q) (hZ1 : aZ σ1 = aZ σ) (hv : fV ci σ1 a k = v) (ho : ∀ j, j ≠ k → fV ci σ1 a j = fV ci σ a j)
    (hoth : ∀ q, q ≠ a → (∀ cj j, fV cj σ1 q j = fV cj σ q j) ∧ ∀ t j, aV t σ1 q j = aV t σ q j) : RP G σ1 H1 := by
  obtain ⟨r1, r2, r3, r4, r5, r6⟩ := hR
  have haB := r5 a (by rw [hk]; exact Nat.succ_ne_zero ci)
  refine ⟨r1, by rw [e2, hZ1]; exact r2, by rw [hZ1]; exact r3, fun q hq => by rw [e3 q (by omega)]; exact r4 q hq, fun q hq => by rw [hZ1]; exact r5 q (by rw [← hK1]; exact hq), fun q => ?_⟩
  by_cases hqa : q = a
  · subst hqa
    refine ⟨fun cj r' hk' hc' => ?_, fun t ht => ?_⟩
    · rw [hK1, hk] at hk'
      have hcc : cj = ci := by omega
      subst hcc
      have hrr : r' = r := Option.some.inj (hc'.symm.trans hc)
      subst hrr
      refine t_OB.to (V := updV (fV cj σ q) k v) ⟨_, e1, q2, q3, t_set q4 hap hkn v⟩ (fun j _ => ?_)
      by_cases hj : j = k
      · subst hj; simp [updV, hv]
      · simp [updV, hj, ho j hj]
    · rw [hK1, hk] at ht
      have hlt : ci < clA.length := (List.getElem?_eq_some_iff.mp hc).1
      have : clA.length = 12 := rfl
      omega
  · obtain ⟨h1, h2⟩ := hoth q hqa
    refine ⟨fun cj r' hk' hc' => ?_, fun t ht => ?_⟩
    · rw [hK1] at hk'
      exact (((r6 q).1 cj r' hk' hc').kept (e3 q hqa)).to (fun j _ => (h1 cj j).symm)
    · rw [hK1] at ht
      rw [e3 q hqa, (r6 q).2 t ht, hN1, show aV t σ1 q = aV t σ q from funext (h2 t)]
/-- an array's cell is written at one place -/
theorem rp_ast {G : GX} {σ σ1 : AM} {H H1 : Heap} {a j t : Nat} {v : Value} (hR : RP G σ H) (hk : aK σ a = 100 + t) (e1 : H1[a]? = some ((arrV (G.1.2 t) (aN σ a) (aV t σ a)).setSlot j v)) (e2 : H1.size = H.size) (e3 : ∀ q, q ≠ a → H1[q]? = H[q]?)
    (hK1 : ∀ q, aK σ1 q = aK σ q) (hN1 : ∀ q, aN σ1 q = aN σ q) (hZ1 : aZ σ1 = aZ σ) (hv : aV t σ1 a j = v) (ho : ∀ i, i ≠ j → aV t σ1 a i = aV t σ a i)
    (hoth : ∀ q, q ≠ a → (∀ cj j, fV cj σ1 q j = fV cj σ q j) ∧ ∀ t j, aV t σ1 q j = aV t σ q j) : RP G σ1 H1 := by
  obtain ⟨r1, r2, r3, r4, r5, r6⟩ := hR
  have haB := r5 a (by rw [hk]; omega)
  refine ⟨r1, by rw [e2, hZ1]; exact r2, by rw [hZ1]; exact r3, fun q hq => by rw [e3 q (by omega)]; exact r4 q hq, fun q hq => by rw [hZ1]; exact r5 q (by rw [← hK1]; exact hq), fun q => ?_⟩
  by_cases hqa : q = a
  · subst hqa
    refine ⟨fun cj r' hk' hc' => ?_, fun t' ht => ?_⟩
    · rw [hK1, hk] at hk'
      have hlt : cj < clA.length := (List.getElem?_eq_some_iff.mp hc').1
      have : clA.length = 12 := rfl
      omega
    · rw [hK1, hk] at ht
      have htt : t' = t := by omega
      subst htt
      rw [e1, arrV_store, hN1, show updV (aV t' σ q) j v = aV t' σ1 q from funext fun i => by
        by_cases hi : i = j
        · subst hi; simp [updV, hv]
        · simp [updV, hi, ho i hi]]
  · obtain ⟨h1, h2⟩ := hoth q hqa
    refine ⟨fun cj r' hk' hc' => ?_, fun t ht => ?_⟩
    · rw [hK1] at hk'
      exact (((r6 q).1 cj r' hk' hc').kept (e3 q hqa)).to (fun j _ => (h1 cj j).symm)
    · rw [hK1] at ht
      rw [e3 q hqa, (r6 q).2 t ht, hN1, show aV t σ1 q = aV t σ q from funext (h2 t)]
theorem up2_s {α : Type} (f : Nat → Nat → α) (a k : Nat) (v : α) : up2 f a k v a k = v := if_pos ⟨rfl, rfl⟩
theorem up2_a {α : Type} (f : Nat → Nat → α) {a k : Nat} (v : α) {b : Nat} (j : Nat) (h : b ≠ a) : up2 f a k v b j = f b j := if_neg (fun q => h q.1)
theorem up2_k {α : Type} (f : Nat → Nat → α) {a k : Nat} (v : α) (b : Nat) {j : Nat} (h : j ≠ k) : up2 f a k v b j = f b j := if_neg (fun q => h q.2)
theorem oth_I (σ : AM) (a k : Nat) (v : Int32) : ∀ q, q ≠ a → (∀ cj j, fV cj (sI σ a k v) q j = fV cj σ q j) ∧ ∀ t j, aV t (sI σ a k v) q j = aV t σ q j := fun q hq =>
  have h : ∀ j, aI (sI σ a k v) q j = aI σ q j := fun j => up2_a _ v j hq
  ⟨fun cj j => by unfold fV; rw [h j]; rfl, fun t j => by unfold aV; rw [h j]; rfl⟩
theorem oth_L (σ : AM) (a k : Nat) (v : Int64) : ∀ q, q ≠ a → (∀ cj j, fV cj (sL σ a k v) q j = fV cj σ q j) ∧ ∀ t j, aV t (sL σ a k v) q j = aV t σ q j := fun q hq =>
  have h : ∀ j, aL (sL σ a k v) q j = aL σ q j := fun j => up2_a _ v j hq
  ⟨fun cj j => by unfold fV; rw [h j]; rfl, fun t j => by unfold aV; rw [h j]; rfl⟩
theorem oth_R (σ : AM) (a k : Nat) (v : Nat) : ∀ q, q ≠ a → (∀ cj j, fV cj (sR σ a k v) q j = fV cj σ q j) ∧ ∀ t j, aV t (sR σ a k v) q j = aV t σ q j := fun q hq =>
  have h : ∀ j, aR (sR σ a k v) q j = aR σ q j := fun j => up2_a _ v j hq
  ⟨fun cj j => by unfold fV; rw [h j]; rfl, fun t j => rfl⟩

section HR
variable {ρ : Type} {QF : ρ → AM → State → Prop} {G : GX} {p : Program} {l : Launch} {e : Env} {s : State} {m : MethodId} {args : Array Value} {below : List Frame} {meth : Method} {c : Code} {d z0 u0 nL : Nat} {X : Option (ρ × AM)} {pc : Nat} {lv : List (Nat × Value)} {st : List Value} {σ : AM} {cc : ByteArray} {own : String} {ret : Option FieldType}
theorem x_getI (C : Cx G p s m args meth c cc nL own ret) {a ci k index : Nat} {C' : String} {T : u_T} {N : Nat} (hk : aK σ a = ci + 1) (hc : clA[ci]? = some (C', T, N)) (hin : ∀ w ∈ u_ws C' T N, w ∈ lw_ok) (hkn : k < N) (hft : ftk ci k = 0)  (hw : Cond.fieldLink own index (T k).1 (T k).2.1 (T k).2.2.1 ∈ lw_ok) (hd : decode cc pc = .ok (.getfield index, 3)) (kk : VX QF G p l e s m args below meth c d z0 u0 nL X (pc + 3) lv (.int (aI σ a k) :: st) σ) : VX QF G p l e s m args below meth c d z0 u0 nL X pc lv (.ref a :: st) σ := fun r σ' h =>
  ⟨(kk r σ' h).1, fun H locs ls h1 h2 hR hL hl => by
    obtain ⟨cell, q1, q2, q3, q4⟩ := (hR.2.2.2.2.2 a).1 ci _ hk hc
    obtain ⟨hS, hfc, kC, hkC, hkind⟩ := C.2.2.2.2.2.1.1.1 ci _ hc
    obtain ⟨cf, kf, fi, f, hi, hsl⟩ := hS k hkn
    refine W.getf C.1 C.2.1 C.2.2.2.1 (C.2.2.2.2.1 _ hw) hi (u_facts hfc hkC (u_lays C.2.2.2.2.1 hin hkn) hi).1 q1 (by rw [q3]; exact fun h => by cases h) (v := .int (aI σ a k)) ?_ rfl rfl hd ((kk r σ' h).2 H locs ls h1 h2 hR hL hl)
    rw [hsl, q4 k hkn, fV_0 hft]⟩
theorem x_putI (C : Cx G p s m args meth c cc nL own ret) {a ci k index : Nat} {v : Int32} {C' : String} {T : u_T} {N : Nat} {Y : Nat → FieldType} (hk : aK σ a = ci + 1) (hc : clA[ci]? = some (C', T, N)) (hin : ∀ w ∈ u_ws C' T N, w ∈ lw_ok) (hty : ∀ k, k < N → parseFieldDescriptor (T k).2.2.1 = some (Y k)) (hnm : ∀ a, a < N → ∀ b, b < N → a ≠ b → (T a).2.1 ≠ (T b).2.1) (hkn : k < N) (hft : ftk ci k = 0)  (hfin : (T k).2.2.2 = false) (hn : narrow (Y k) (.int v) = .int v) (hfit : fits (Y k) (.int v) = true) (hw : Cond.fieldLink own index (T k).1 (T k).2.1 (T k).2.2.1 ∈ lw_ok) (hd : decode cc pc = .ok (.putfield index, 3)) (kk : VX QF G p l e s m args below meth c d z0 u0 nL X (pc + 3) lv st (sI σ a k v)) : VX QF G p l e s m args below meth c d z0 u0 nL X pc lv (.int v :: .ref a :: st) σ := fun r σ' h =>
  ⟨(kk r σ' h).1, fun H locs ls h1 h2 hR hL hl => by
    obtain ⟨cell, q1, q2, q3, q4⟩ := (hR.2.2.2.2.2 a).1 ci _ hk hc
    have hap := va_apart (own := own) C.2.2.2.2.1 hin Y hty hnm C.2.2.2.2.2.1.1 hc
    obtain ⟨hS, hfc, kC, hkC, hkind⟩ := C.2.2.2.2.2.1.1.1 ci _ hc
    obtain ⟨cf, kf, fi, f, hi, hsl⟩ := hS k hkn
    have hlay := C.2.2.2.2.1 _ (hin _ (u_in_lay hkn))
    unfold u_lay at hlay
    rw [if_neg (by rw [hfin]; decide)] at hlay
    have hst := (u_facts hfc hkC (u_lays C.2.2.2.2.1 hin hkn) hi).1
    have h6 := u_store hfc hkC hkind hlay hi (hty k hkn) hn hfit
    refine W.putK C.1 C.2.1 (f := f) ⟨C.2.2.2.1, C.2.2.2.2.1 _ hw, ⟨_, _, _, hi⟩, hst⟩ (by rw [q2]; exact h6) q1 q3 (by rw [hsl]; exact k2_hasslot (q4 k hkn)) rfl rfl hd fun H' e1 e2 e3 => ?_
    rw [hsl] at e1 ⊢
    refine (kk r σ' h).2 H' _ ls h1 h2 (rp_put (σ1 := sI σ a k v) hR hk hc q1 q2 q3 q4 hap hkn e1 e2 e3 (fun _ => rfl) (fun _ => rfl) rfl ?_ ?_ (oth_I σ a k v)) ?_ hl
    · rw [fV_0 hft]; show Value.int (up2 _ a k v a k) = _; rw [up2_s]
    · intro j hj
      have hu : aI (sI σ a k v) a j = aI σ a j := up2_k _ v a hj
      unfold fV; rw [hu]; rfl
    · intro q hq
      rcases List.mem_append.mp hq with hq | hq
      · exact hL q hq
      · rw [List.mem_singleton.mp hq]
        exact (hR.2.2.2.2.1 a (by rw [hk]; exact Nat.succ_ne_zero ci)).1⟩
theorem x_putIF (C : Cx G p s m args meth c cc nL own ret) {a ci k index : Nat} {v : Int32} {C' : String} {T : u_T} {N : Nat} {Y : Nat → FieldType} (hk : aK σ a = ci + 1) (hc : clA[ci]? = some (C', T, N)) (hin : ∀ w ∈ u_ws C' T N, w ∈ lw_ok) (hty : ∀ k, k < N → parseFieldDescriptor (T k).2.2.1 = some (Y k)) (hnm : ∀ a, a < N → ∀ b, b < N → a ≠ b → (T a).2.1 ≠ (T b).2.1) (hkn : k < N) (hft : ftk ci k = 0)  (hfin : (T k).2.2.2 = true) (hin2 : meth.name = "<init>") (hdecl : (T k).1 = own) (hn : narrow (Y k) (.int v) = .int v) (hfit : fits (Y k) (.int v) = true) (hw : Cond.fieldLink own index (T k).1 (T k).2.1 (T k).2.2.1 ∈ lw_ok) (hd : decode cc pc = .ok (.putfield index, 3)) (kk : VX QF G p l e s m args below meth c d z0 u0 nL X (pc + 3) lv st (sI σ a k v)) : VX QF G p l e s m args below meth c d z0 u0 nL X pc lv (.int v :: .ref a :: st) σ := fun r σ' h =>
  ⟨(kk r σ' h).1, fun H locs ls h1 h2 hR hL hl => by
    obtain ⟨cell, q1, q2, q3, q4⟩ := (hR.2.2.2.2.2 a).1 ci _ hk hc
    have hap := va_apart (own := own) C.2.2.2.2.1 hin Y hty hnm C.2.2.2.2.2.1.1 hc
    obtain ⟨hS, hfc, kC, hkC, hkind⟩ := C.2.2.2.2.2.1.1.1 ci _ hc
    obtain ⟨cf, kf, fi, f, hi, hsl⟩ := hS k hkn
    have hlay := C.2.2.2.2.1 _ (hin _ (u_in_lay hkn))
    unfold u_lay at hlay
    rw [if_pos hfin] at hlay
    have hst := (u_facts hfc hkC (u_lays C.2.2.2.2.1 hin hkn) hi).1
    have hcf : m.cls = cf := by
      obtain ⟨_, _, c', _, _, _, -, -, hf', -, -, -, hown2, -⟩ := Cond.laysFinal_spec hlay
      have e1 : c' = cf := by have := hi.symm.trans hf'; simp at this; exact this.1.symm
      rw [hdecl] at hown2
      rw [← e1]; exact Option.some.inj (C.2.2.2.1.symm.trans hown2)
    have hsf := u_fits hfc hkC hkind (u_lays C.2.2.2.2.1 hin hkn) hi (hty k hkn) hn hfit
    refine W.putFinK C.1 C.2.1 C.2.2.2.1 (C.2.2.2.2.1 _ hw) hi hst hcf hin2 (by rw [q2]; exact hsf) q1 q3 (by rw [hsl]; exact k2_hasslot (q4 k hkn)) rfl rfl hd fun H' e1 e2 e3 => ?_
    rw [hsl] at e1 ⊢
    refine (kk r σ' h).2 H' _ ls h1 h2 (rp_put (σ1 := sI σ a k v) hR hk hc q1 q2 q3 q4 hap hkn e1 e2 e3 (fun _ => rfl) (fun _ => rfl) rfl ?_ ?_ (oth_I σ a k v)) ?_ hl
    · rw [fV_0 hft]; show Value.int (up2 _ a k v a k) = _; rw [up2_s]
    · intro j hj
      have hu : aI (sI σ a k v) a j = aI σ a j := up2_k _ v a hj
      unfold fV; rw [hu]; rfl
    · intro q hq
      rcases List.mem_append.mp hq with hq | hq
      · exact hL q hq
      · rw [List.mem_singleton.mp hq]
        exact (hR.2.2.2.2.1 a (by rw [hk]; exact Nat.succ_ne_zero ci)).1⟩
theorem x_getJ (C : Cx G p s m args meth c cc nL own ret) {a ci k index : Nat} {C' : String} {T : u_T} {N : Nat} (hk : aK σ a = ci + 1) (hc : clA[ci]? = some (C', T, N)) (hin : ∀ w ∈ u_ws C' T N, w ∈ lw_ok) (hkn : k < N) (hft : ftk ci k = 1)  (hw : Cond.fieldLink own index (T k).1 (T k).2.1 (T k).2.2.1 ∈ lw_ok) (hd : decode cc pc = .ok (.getfield index, 3)) (kk : VX QF G p l e s m args below meth c d z0 u0 nL X (pc + 3) lv (.long (aL σ a k) :: st) σ) : VX QF G p l e s m args below meth c d z0 u0 nL X pc lv (.ref a :: st) σ := fun r σ' h =>
  ⟨(kk r σ' h).1, fun H locs ls h1 h2 hR hL hl => by
    obtain ⟨cell, q1, q2, q3, q4⟩ := (hR.2.2.2.2.2 a).1 ci _ hk hc
    obtain ⟨hS, hfc, kC, hkC, hkind⟩ := C.2.2.2.2.2.1.1.1 ci _ hc
    obtain ⟨cf, kf, fi, f, hi, hsl⟩ := hS k hkn
    refine W.getf C.1 C.2.1 C.2.2.2.1 (C.2.2.2.2.1 _ hw) hi (u_facts hfc hkC (u_lays C.2.2.2.2.1 hin hkn) hi).1 q1 (by rw [q3]; exact fun h => by cases h) (v := .long (aL σ a k)) ?_ rfl rfl hd ((kk r σ' h).2 H locs ls h1 h2 hR hL hl)
    rw [hsl, q4 k hkn, fV_1 hft]⟩
theorem x_putJ (C : Cx G p s m args meth c cc nL own ret) {a ci k index : Nat} {v : Int64} {C' : String} {T : u_T} {N : Nat} {Y : Nat → FieldType} (hk : aK σ a = ci + 1) (hc : clA[ci]? = some (C', T, N)) (hin : ∀ w ∈ u_ws C' T N, w ∈ lw_ok) (hty : ∀ k, k < N → parseFieldDescriptor (T k).2.2.1 = some (Y k)) (hnm : ∀ a, a < N → ∀ b, b < N → a ≠ b → (T a).2.1 ≠ (T b).2.1) (hkn : k < N) (hft : ftk ci k = 1)  (hfin : (T k).2.2.2 = false) (hn : narrow (Y k) (.long v) = .long v) (hfit : fits (Y k) (.long v) = true) (hw : Cond.fieldLink own index (T k).1 (T k).2.1 (T k).2.2.1 ∈ lw_ok) (hd : decode cc pc = .ok (.putfield index, 3)) (kk : VX QF G p l e s m args below meth c d z0 u0 nL X (pc + 3) lv st (sL σ a k v)) : VX QF G p l e s m args below meth c d z0 u0 nL X pc lv (.long v :: .ref a :: st) σ := fun r σ' h =>
  ⟨(kk r σ' h).1, fun H locs ls h1 h2 hR hL hl => by
    obtain ⟨cell, q1, q2, q3, q4⟩ := (hR.2.2.2.2.2 a).1 ci _ hk hc
    have hap := va_apart (own := own) C.2.2.2.2.1 hin Y hty hnm C.2.2.2.2.2.1.1 hc
    obtain ⟨hS, hfc, kC, hkC, hkind⟩ := C.2.2.2.2.2.1.1.1 ci _ hc
    obtain ⟨cf, kf, fi, f, hi, hsl⟩ := hS k hkn
    have hlay := C.2.2.2.2.1 _ (hin _ (u_in_lay hkn))
    unfold u_lay at hlay
    rw [if_neg (by rw [hfin]; decide)] at hlay
    have hst := (u_facts hfc hkC (u_lays C.2.2.2.2.1 hin hkn) hi).1
    have h6 := u_store hfc hkC hkind hlay hi (hty k hkn) hn hfit
    refine W.putK C.1 C.2.1 (f := f) ⟨C.2.2.2.1, C.2.2.2.2.1 _ hw, ⟨_, _, _, hi⟩, hst⟩ (by rw [q2]; exact h6) q1 q3 (by rw [hsl]; exact k2_hasslot (q4 k hkn)) rfl rfl hd fun H' e1 e2 e3 => ?_
    rw [hsl] at e1 ⊢
    refine (kk r σ' h).2 H' _ ls h1 h2 (rp_put (σ1 := sL σ a k v) hR hk hc q1 q2 q3 q4 hap hkn e1 e2 e3 (fun _ => rfl) (fun _ => rfl) rfl ?_ ?_ (oth_L σ a k v)) ?_ hl
    · rw [fV_1 hft]; show Value.long (up2 _ a k v a k) = _; rw [up2_s]
    · intro j hj
      have hu : aL (sL σ a k v) a j = aL σ a j := up2_k _ v a hj
      unfold fV; rw [hu]; rfl
    · intro q hq
      rcases List.mem_append.mp hq with hq | hq
      · exact hL q hq
      · rw [List.mem_singleton.mp hq]
        exact (hR.2.2.2.2.1 a (by rw [hk]; exact Nat.succ_ne_zero ci)).1⟩
theorem x_putJF (C : Cx G p s m args meth c cc nL own ret) {a ci k index : Nat} {v : Int64} {C' : String} {T : u_T} {N : Nat} {Y : Nat → FieldType} (hk : aK σ a = ci + 1) (hc : clA[ci]? = some (C', T, N)) (hin : ∀ w ∈ u_ws C' T N, w ∈ lw_ok) (hty : ∀ k, k < N → parseFieldDescriptor (T k).2.2.1 = some (Y k)) (hnm : ∀ a, a < N → ∀ b, b < N → a ≠ b → (T a).2.1 ≠ (T b).2.1) (hkn : k < N) (hft : ftk ci k = 1)  (hfin : (T k).2.2.2 = true) (hin2 : meth.name = "<init>") (hdecl : (T k).1 = own) (hn : narrow (Y k) (.long v) = .long v) (hfit : fits (Y k) (.long v) = true) (hw : Cond.fieldLink own index (T k).1 (T k).2.1 (T k).2.2.1 ∈ lw_ok) (hd : decode cc pc = .ok (.putfield index, 3)) (kk : VX QF G p l e s m args below meth c d z0 u0 nL X (pc + 3) lv st (sL σ a k v)) : VX QF G p l e s m args below meth c d z0 u0 nL X pc lv (.long v :: .ref a :: st) σ := fun r σ' h =>
  ⟨(kk r σ' h).1, fun H locs ls h1 h2 hR hL hl => by
    obtain ⟨cell, q1, q2, q3, q4⟩ := (hR.2.2.2.2.2 a).1 ci _ hk hc
    have hap := va_apart (own := own) C.2.2.2.2.1 hin Y hty hnm C.2.2.2.2.2.1.1 hc
    obtain ⟨hS, hfc, kC, hkC, hkind⟩ := C.2.2.2.2.2.1.1.1 ci _ hc
    obtain ⟨cf, kf, fi, f, hi, hsl⟩ := hS k hkn
    have hlay := C.2.2.2.2.1 _ (hin _ (u_in_lay hkn))
    unfold u_lay at hlay
    rw [if_pos hfin] at hlay
    have hst := (u_facts hfc hkC (u_lays C.2.2.2.2.1 hin hkn) hi).1
    have hcf : m.cls = cf := by
      obtain ⟨_, _, c', _, _, _, -, -, hf', -, -, -, hown2, -⟩ := Cond.laysFinal_spec hlay
      have e1 : c' = cf := by have := hi.symm.trans hf'; simp at this; exact this.1.symm
      rw [hdecl] at hown2
      rw [← e1]; exact Option.some.inj (C.2.2.2.1.symm.trans hown2)
    have hsf := u_fits hfc hkC hkind (u_lays C.2.2.2.2.1 hin hkn) hi (hty k hkn) hn hfit
    refine W.putFinK C.1 C.2.1 C.2.2.2.1 (C.2.2.2.2.1 _ hw) hi hst hcf hin2 (by rw [q2]; exact hsf) q1 q3 (by rw [hsl]; exact k2_hasslot (q4 k hkn)) rfl rfl hd fun H' e1 e2 e3 => ?_
    rw [hsl] at e1 ⊢
    refine (kk r σ' h).2 H' _ ls h1 h2 (rp_put (σ1 := sL σ a k v) hR hk hc q1 q2 q3 q4 hap hkn e1 e2 e3 (fun _ => rfl) (fun _ => rfl) rfl ?_ ?_ (oth_L σ a k v)) ?_ hl
    · rw [fV_1 hft]; show Value.long (up2 _ a k v a k) = _; rw [up2_s]
    · intro j hj
      have hu : aL (sL σ a k v) a j = aL σ a j := up2_k _ v a hj
      unfold fV; rw [hu]; rfl
    · intro q hq
      rcases List.mem_append.mp hq with hq | hq
      · exact hL q hq
      · rw [List.mem_singleton.mp hq]
        exact (hR.2.2.2.2.1 a (by rw [hk]; exact Nat.succ_ne_zero ci)).1⟩
theorem x_getR (C : Cx G p s m args meth c cc nL own ret) {a ci k index : Nat} {C' : String} {T : u_T} {N : Nat} (hk : aK σ a = ci + 1) (hc : clA[ci]? = some (C', T, N)) (hin : ∀ w ∈ u_ws C' T N, w ∈ lw_ok) (hkn : k < N) (hft : ftk ci k = 2) {kv : Nat} (hkv : aK σ (aR σ a k) = kv) (hkv0 : kv ≠ 0) (hw : Cond.fieldLink own index (T k).1 (T k).2.1 (T k).2.2.1 ∈ lw_ok) (hd : decode cc pc = .ok (.getfield index, 3)) (kk : VX QF G p l e s m args below meth c d z0 u0 nL X (pc + 3) lv (.ref (aR σ a k) :: st) σ) : VX QF G p l e s m args below meth c d z0 u0 nL X pc lv (.ref a :: st) σ := fun r σ' h =>
  ⟨(kk r σ' h).1, fun H locs ls h1 h2 hR hL hl => by
    obtain ⟨cell, q1, q2, q3, q4⟩ := (hR.2.2.2.2.2 a).1 ci _ hk hc
    obtain ⟨hS, hfc, kC, hkC, hkind⟩ := C.2.2.2.2.2.1.1.1 ci _ hc
    obtain ⟨cf, kf, fi, f, hi, hsl⟩ := hS k hkn
    refine W.getf C.1 C.2.1 C.2.2.2.1 (C.2.2.2.2.1 _ hw) hi (u_facts hfc hkC (u_lays C.2.2.2.2.1 hin hkn) hi).1 q1 (by rw [q3]; exact fun h => by cases h) (v := .ref (aR σ a k)) ?_ rfl rfl hd ((kk r σ' h).2 H locs ls h1 h2 hR hL hl)
    rw [hsl, q4 k hkn, fV_2 hft, refV_of (rp_ne hR hkv hkv0)]⟩
theorem x_putR (C : Cx G p s m args meth c cc nL own ret) {a ci k index : Nat} {v : Nat} {C' : String} {T : u_T} {N : Nat} {Y : Nat → FieldType} (hk : aK σ a = ci + 1) (hc : clA[ci]? = some (C', T, N)) (hin : ∀ w ∈ u_ws C' T N, w ∈ lw_ok) (hty : ∀ k, k < N → parseFieldDescriptor (T k).2.2.1 = some (Y k)) (hnm : ∀ a, a < N → ∀ b, b < N → a ≠ b → (T a).2.1 ≠ (T b).2.1) (hkn : k < N) (hft : ftk ci k = 2) {kv : Nat} (hkv : aK σ v = kv) (hkv0 : kv ≠ 0) (hfin : (T k).2.2.2 = false) (hn : narrow (Y k) (.ref v) = .ref v) (hfit : fits (Y k) (.ref v) = true) (hw : Cond.fieldLink own index (T k).1 (T k).2.1 (T k).2.2.1 ∈ lw_ok) (hd : decode cc pc = .ok (.putfield index, 3)) (kk : VX QF G p l e s m args below meth c d z0 u0 nL X (pc + 3) lv st (sR σ a k v)) : VX QF G p l e s m args below meth c d z0 u0 nL X pc lv (.ref v :: .ref a :: st) σ := fun r σ' h =>
  ⟨(kk r σ' h).1, fun H locs ls h1 h2 hR hL hl => by
    obtain ⟨cell, q1, q2, q3, q4⟩ := (hR.2.2.2.2.2 a).1 ci _ hk hc
    have hap := va_apart (own := own) C.2.2.2.2.1 hin Y hty hnm C.2.2.2.2.2.1.1 hc
    obtain ⟨hS, hfc, kC, hkC, hkind⟩ := C.2.2.2.2.2.1.1.1 ci _ hc
    obtain ⟨cf, kf, fi, f, hi, hsl⟩ := hS k hkn
    have hlay := C.2.2.2.2.1 _ (hin _ (u_in_lay hkn))
    unfold u_lay at hlay
    rw [if_neg (by rw [hfin]; decide)] at hlay
    have hst := (u_facts hfc hkC (u_lays C.2.2.2.2.1 hin hkn) hi).1
    have h6 := u_store hfc hkC hkind hlay hi (hty k hkn) hn hfit
    refine W.putK C.1 C.2.1 (f := f) ⟨C.2.2.2.1, C.2.2.2.2.1 _ hw, ⟨_, _, _, hi⟩, hst⟩ (by rw [q2]; exact h6) q1 q3 (by rw [hsl]; exact k2_hasslot (q4 k hkn)) rfl rfl hd fun H' e1 e2 e3 => ?_
    rw [hsl] at e1 ⊢
    refine (kk r σ' h).2 H' _ ls h1 h2 (rp_put (σ1 := sR σ a k v) hR hk hc q1 q2 q3 q4 hap hkn e1 e2 e3 (fun _ => rfl) (fun _ => rfl) rfl ?_ ?_ (oth_R σ a k v)) ?_ hl
    · rw [fV_2 hft]; show refV (up2 _ a k v a k) = _; rw [up2_s, refV_of (rp_ne hR hkv hkv0)]
    · intro j hj
      have hu : aR (sR σ a k v) a j = aR σ a j := up2_k _ v a hj
      unfold fV; rw [hu]; rfl
    · intro q hq
      rcases List.mem_append.mp hq with hq | hq
      · exact hL q hq
      · rw [List.mem_singleton.mp hq]
        exact (hR.2.2.2.2.1 a (by rw [hk]; exact Nat.succ_ne_zero ci)).1⟩
theorem x_putRF (C : Cx G p s m args meth c cc nL own ret) {a ci k index : Nat} {v : Nat} {C' : String} {T : u_T} {N : Nat} {Y : Nat → FieldType} (hk : aK σ a = ci + 1) (hc : clA[ci]? = some (C', T, N)) (hin : ∀ w ∈ u_ws C' T N, w ∈ lw_ok) (hty : ∀ k, k < N → parseFieldDescriptor (T k).2.2.1 = some (Y k)) (hnm : ∀ a, a < N → ∀ b, b < N → a ≠ b → (T a).2.1 ≠ (T b).2.1) (hkn : k < N) (hft : ftk ci k = 2) {kv : Nat} (hkv : aK σ v = kv) (hkv0 : kv ≠ 0) (hfin : (T k).2.2.2 = true) (hin2 : meth.name = "<init>") (hdecl : (T k).1 = own) (hn : narrow (Y k) (.ref v) = .ref v) (hfit : fits (Y k) (.ref v) = true) (hw : Cond.fieldLink own index (T k).1 (T k).2.1 (T k).2.2.1 ∈ lw_ok) (hd : decode cc pc = .ok (.putfield index, 3)) (kk : VX QF G p l e s m args below meth c d z0 u0 nL X (pc + 3) lv st (sR σ a k v)) : VX QF G p l e s m args below meth c d z0 u0 nL X pc lv (.ref v :: .ref a :: st) σ := fun r σ' h =>
  ⟨(kk r σ' h).1, fun H locs ls h1 h2 hR hL hl => by
    obtain ⟨cell, q1, q2, q3, q4⟩ := (hR.2.2.2.2.2 a).1 ci _ hk hc
    have hap := va_apart (own := own) C.2.2.2.2.1 hin Y hty hnm C.2.2.2.2.2.1.1 hc
    obtain ⟨hS, hfc, kC, hkC, hkind⟩ := C.2.2.2.2.2.1.1.1 ci _ hc
    obtain ⟨cf, kf, fi, f, hi, hsl⟩ := hS k hkn
    have hlay := C.2.2.2.2.1 _ (hin _ (u_in_lay hkn))
    unfold u_lay at hlay
    rw [if_pos hfin] at hlay
    have hst := (u_facts hfc hkC (u_lays C.2.2.2.2.1 hin hkn) hi).1
    have hcf : m.cls = cf := by
      obtain ⟨_, _, c', _, _, _, -, -, hf', -, -, -, hown2, -⟩ := Cond.laysFinal_spec hlay
      have e1 : c' = cf := by have := hi.symm.trans hf'; simp at this; exact this.1.symm
      rw [hdecl] at hown2
      rw [← e1]; exact Option.some.inj (C.2.2.2.1.symm.trans hown2)
    have hsf := u_fits hfc hkC hkind (u_lays C.2.2.2.2.1 hin hkn) hi (hty k hkn) hn hfit
    refine W.putFinK C.1 C.2.1 C.2.2.2.1 (C.2.2.2.2.1 _ hw) hi hst hcf hin2 (by rw [q2]; exact hsf) q1 q3 (by rw [hsl]; exact k2_hasslot (q4 k hkn)) rfl rfl hd fun H' e1 e2 e3 => ?_
    rw [hsl] at e1 ⊢
    refine (kk r σ' h).2 H' _ ls h1 h2 (rp_put (σ1 := sR σ a k v) hR hk hc q1 q2 q3 q4 hap hkn e1 e2 e3 (fun _ => rfl) (fun _ => rfl) rfl ?_ ?_ (oth_R σ a k v)) ?_ hl
    · rw [fV_2 hft]; show refV (up2 _ a k v a k) = _; rw [up2_s, refV_of (rp_ne hR hkv hkv0)]
    · intro j hj
      have hu : aR (sR σ a k v) a j = aR σ a j := up2_k _ v a hj
      unfold fV; rw [hu]; rfl
    · intro q hq
      rcases List.mem_append.mp hq with hq | hq
      · exact hL q hq
      · rw [List.mem_singleton.mp hq]
        exact (hR.2.2.2.2.1 a (by rw [hk]; exact Nat.succ_ne_zero ci)).1⟩
theorem x_aldI (C : Cx G p s m args meth c cc nL own ret) {a : Nat} {i : Int32} (hk : aK σ a = 101) (hin : vp_in i (aN σ a)) (hd : decode cc pc = .ok (.iaload, 1)) (kk : VX QF G p l e s m args below meth c d z0 u0 nL X (pc + 1) lv (.int (aI σ a i.toNatClampNeg) :: st) σ) : VX QF G p l e s m args below meth c d z0 u0 nL X pc lv (.int i :: .ref a :: st) σ := fun r σ' h =>
  ⟨(kk r σ' h).1, fun H locs ls h1 h2 hR hL hl => by
    have hq := (hR.2.2.2.2.2 a).2 1 hk
    have hlt : i.toNatClampNeg < aN σ a := Nat.not_le.mp fun q => hin (Or.inr q)
    exact W.iald (v := .int (aI σ a i.toNatClampNeg)) C.1 C.2.1 hq ((C.2.2.2.2.2.1.1.2 0 _ rfl).1 (aN σ a) _) (fun q => by cases q) (by rw [arrV_size]; exact hin) (by rw [arrV_read _ _ hlt]; rfl) rfl rfl hd ((kk r σ' h).2 H locs ls h1 h2 hR hL hl)⟩
theorem x_aldJ (C : Cx G p s m args meth c cc nL own ret) {a : Nat} {i : Int32} (hk : aK σ a = 102) (hin : vp_in i (aN σ a)) (hd : decode cc pc = .ok (.laload, 1)) (kk : VX QF G p l e s m args below meth c d z0 u0 nL X (pc + 1) lv (.long (aL σ a i.toNatClampNeg) :: st) σ) : VX QF G p l e s m args below meth c d z0 u0 nL X pc lv (.int i :: .ref a :: st) σ := fun r σ' h =>
  ⟨(kk r σ' h).1, fun H locs ls h1 h2 hR hL hl => by
    have hq := (hR.2.2.2.2.2 a).2 2 hk
    have hlt : i.toNatClampNeg < aN σ a := Nat.not_le.mp fun q => hin (Or.inr q)
    exact W.lald (v := .long (aL σ a i.toNatClampNeg)) C.1 C.2.1 hq ((C.2.2.2.2.2.1.1.2 1 _ rfl).1 (aN σ a) _) (fun q => by cases q) (by rw [arrV_size]; exact hin) (by rw [arrV_read _ _ hlt]; rfl) rfl rfl hd ((kk r σ' h).2 H locs ls h1 h2 hR hL hl)⟩
theorem x_aldZ (C : Cx G p s m args meth c cc nL own ret) {a : Nat} {i : Int32} (hk : aK σ a = 103) (hin : vp_in i (aN σ a)) (hd : decode cc pc = .ok (.baload, 1)) (kk : VX QF G p l e s m args below meth c d z0 u0 nL X (pc + 1) lv (.int (aI σ a i.toNatClampNeg) :: st) σ) : VX QF G p l e s m args below meth c d z0 u0 nL X pc lv (.int i :: .ref a :: st) σ := fun r σ' h =>
  ⟨(kk r σ' h).1, fun H locs ls h1 h2 hR hL hl => by
    have hq := (hR.2.2.2.2.2 a).2 3 hk
    have hlt : i.toNatClampNeg < aN σ a := Nat.not_le.mp fun q => hin (Or.inr q)
    exact W.zald (v := .int (aI σ a i.toNatClampNeg)) C.1 C.2.1 hq ((C.2.2.2.2.2.1.1.2 2 _ rfl).1 (aN σ a) _) (fun q => by cases q) (by rw [arrV_size]; exact hin) (by rw [arrV_read _ _ hlt]; rfl) rfl rfl hd ((kk r σ' h).2 H locs ls h1 h2 hR hL hl)⟩
theorem x_aldC (C : Cx G p s m args meth c cc nL own ret) {a : Nat} {i : Int32} (hk : aK σ a = 104) (hin : vp_in i (aN σ a)) (hd : decode cc pc = .ok (.caload, 1)) (kk : VX QF G p l e s m args below meth c d z0 u0 nL X (pc + 1) lv (.int (aI σ a i.toNatClampNeg) :: st) σ) : VX QF G p l e s m args below meth c d z0 u0 nL X pc lv (.int i :: .ref a :: st) σ := fun r σ' h =>
  ⟨(kk r σ' h).1, fun H locs ls h1 h2 hR hL hl => by
    have hq := (hR.2.2.2.2.2 a).2 4 hk
    have hlt : i.toNatClampNeg < aN σ a := Nat.not_le.mp fun q => hin (Or.inr q)
    exact W.cald (v := .int (aI σ a i.toNatClampNeg)) C.1 C.2.1 hq ((C.2.2.2.2.2.1.1.2 3 _ rfl).1 (aN σ a) _) (fun q => by cases q) (by rw [arrV_size]; exact hin) (by rw [arrV_read _ _ hlt]; rfl) rfl rfl hd ((kk r σ' h).2 H locs ls h1 h2 hR hL hl)⟩
theorem x_aldB (C : Cx G p s m args meth c cc nL own ret) {a : Nat} {i : Int32} (hk : aK σ a = 105) (hin : vp_in i (aN σ a)) (hd : decode cc pc = .ok (.baload, 1)) (kk : VX QF G p l e s m args below meth c d z0 u0 nL X (pc + 1) lv (.int (aI σ a i.toNatClampNeg) :: st) σ) : VX QF G p l e s m args below meth c d z0 u0 nL X pc lv (.int i :: .ref a :: st) σ := fun r σ' h =>
  ⟨(kk r σ' h).1, fun H locs ls h1 h2 hR hL hl => by
    have hq := (hR.2.2.2.2.2 a).2 5 hk
    have hlt : i.toNatClampNeg < aN σ a := Nat.not_le.mp fun q => hin (Or.inr q)
    exact W.bald (v := .int (aI σ a i.toNatClampNeg)) C.1 C.2.1 hq ((C.2.2.2.2.2.1.1.2 4 _ rfl).1 (aN σ a) _) (fun q => by cases q) (by rw [arrV_size]; exact hin) (by rw [arrV_read _ _ hlt]; rfl) rfl rfl hd ((kk r σ' h).2 H locs ls h1 h2 hR hL hl)⟩
theorem x_astI (C : Cx G p s m args meth c cc nL own ret) {a : Nat} {i : Int32} {v : Int32} (hk : aK σ a = 101) (hin : vp_in i (aN σ a)) (hd : decode cc pc = .ok (.iastore, 1)) (kk : VX QF G p l e s m args below meth c d z0 u0 nL X (pc + 1) lv st (sI σ a i.toNatClampNeg v)) : VX QF G p l e s m args below meth c d z0 u0 nL X pc lv (.int v :: .int i :: .ref a :: st) σ := fun r σ' h =>
  ⟨(kk r σ' h).1, fun H locs ls h1 h2 hR hL hl => by
    have hq := (hR.2.2.2.2.2 a).2 1 hk
    refine W.iast C.1 C.2.1 hq ((C.2.2.2.2.2.1.1.2 0 _ rfl).1 (aN σ a) _) (fun q => by cases q) (by rw [arrV_size]; exact hin) rfl rfl hd fun H' e1 e2 e3 => ?_
    refine (kk r σ' h).2 H' _ ls h1 h2 (rp_ast (σ1 := sI σ a i.toNatClampNeg v) (t := 1) hR hk e1 e2 e3 (fun _ => rfl) (fun _ => rfl) rfl ?_ ?_ (oth_I σ a _ _)) ?_ hl
    · show Value.int (up2 _ a _ v a _) = _; rw [up2_s]; try rfl
    · intro j hj
      show Value.int (up2 _ a _ v a j) = _; rw [up2_k _ _ _ hj]; rfl
    · intro q hq
      rcases List.mem_append.mp hq with hq | hq
      · exact hL q hq
      · rw [List.mem_singleton.mp hq]
        exact (hR.2.2.2.2.1 a (by rw [hk]; decide)).1⟩
theorem x_astJ (C : Cx G p s m args meth c cc nL own ret) {a : Nat} {i : Int32} {v : Int64} (hk : aK σ a = 102) (hin : vp_in i (aN σ a)) (hd : decode cc pc = .ok (.lastore, 1)) (kk : VX QF G p l e s m args below meth c d z0 u0 nL X (pc + 1) lv st (sL σ a i.toNatClampNeg v)) : VX QF G p l e s m args below meth c d z0 u0 nL X pc lv (.long v :: .int i :: .ref a :: st) σ := fun r σ' h =>
  ⟨(kk r σ' h).1, fun H locs ls h1 h2 hR hL hl => by
    have hq := (hR.2.2.2.2.2 a).2 2 hk
    refine W.last C.1 C.2.1 hq ((C.2.2.2.2.2.1.1.2 1 _ rfl).1 (aN σ a) _) (fun q => by cases q) (by rw [arrV_size]; exact hin) rfl rfl hd fun H' e1 e2 e3 => ?_
    refine (kk r σ' h).2 H' _ ls h1 h2 (rp_ast (σ1 := sL σ a i.toNatClampNeg v) (t := 2) hR hk e1 e2 e3 (fun _ => rfl) (fun _ => rfl) rfl ?_ ?_ (oth_L σ a _ _)) ?_ hl
    · show Value.long (up2 _ a _ v a _) = _; rw [up2_s]; try rfl
    · intro j hj
      show Value.long (up2 _ a _ v a j) = _; rw [up2_k _ _ _ hj]; rfl
    · intro q hq
      rcases List.mem_append.mp hq with hq | hq
      · exact hL q hq
      · rw [List.mem_singleton.mp hq]
        exact (hR.2.2.2.2.1 a (by rw [hk]; decide)).1⟩
theorem x_astZ (C : Cx G p s m args meth c cc nL own ret) {a : Nat} {i : Int32} {v : Int32} (hk : aK σ a = 103) (hin : vp_in i (aN σ a)) (hd : decode cc pc = .ok (.bastore, 1)) (kk : VX QF G p l e s m args below meth c d z0 u0 nL X (pc + 1) lv st (sI σ a i.toNatClampNeg (vp_nar .boolean v))) : VX QF G p l e s m args below meth c d z0 u0 nL X pc lv (.int v :: .int i :: .ref a :: st) σ := fun r σ' h =>
  ⟨(kk r σ' h).1, fun H locs ls h1 h2 hR hL hl => by
    have hq := (hR.2.2.2.2.2 a).2 3 hk
    refine W.zast C.1 C.2.1 hq ((C.2.2.2.2.2.1.1.2 2 _ rfl).1 (aN σ a) _) (fun q => by cases q) (by rw [arrV_size]; exact hin) rfl rfl hd fun H' e1 e2 e3 => ?_
    refine (kk r σ' h).2 H' _ ls h1 h2 (rp_ast (σ1 := sI σ a i.toNatClampNeg (vp_nar .boolean v)) (t := 3) hR hk e1 e2 e3 (fun _ => rfl) (fun _ => rfl) rfl ?_ ?_ (oth_I σ a _ _)) ?_ hl
    · show Value.int (up2 _ a _ (vp_nar .boolean v) a _) = _; rw [up2_s]; try rfl
    · intro j hj
      show Value.int (up2 _ a _ (vp_nar .boolean v) a j) = _; rw [up2_k _ _ _ hj]; rfl
    · intro q hq
      rcases List.mem_append.mp hq with hq | hq
      · exact hL q hq
      · rw [List.mem_singleton.mp hq]
        exact (hR.2.2.2.2.1 a (by rw [hk]; decide)).1⟩
theorem x_astC (C : Cx G p s m args meth c cc nL own ret) {a : Nat} {i : Int32} {v : Int32} (hk : aK σ a = 104) (hin : vp_in i (aN σ a)) (hd : decode cc pc = .ok (.castore, 1)) (kk : VX QF G p l e s m args below meth c d z0 u0 nL X (pc + 1) lv st (sI σ a i.toNatClampNeg (vp_nar .char v))) : VX QF G p l e s m args below meth c d z0 u0 nL X pc lv (.int v :: .int i :: .ref a :: st) σ := fun r σ' h =>
  ⟨(kk r σ' h).1, fun H locs ls h1 h2 hR hL hl => by
    have hq := (hR.2.2.2.2.2 a).2 4 hk
    refine W.cast C.1 C.2.1 hq ((C.2.2.2.2.2.1.1.2 3 _ rfl).1 (aN σ a) _) (fun q => by cases q) (by rw [arrV_size]; exact hin) rfl rfl hd fun H' e1 e2 e3 => ?_
    refine (kk r σ' h).2 H' _ ls h1 h2 (rp_ast (σ1 := sI σ a i.toNatClampNeg (vp_nar .char v)) (t := 4) hR hk e1 e2 e3 (fun _ => rfl) (fun _ => rfl) rfl ?_ ?_ (oth_I σ a _ _)) ?_ hl
    · show Value.int (up2 _ a _ (vp_nar .char v) a _) = _; rw [up2_s]; try rfl
    · intro j hj
      show Value.int (up2 _ a _ (vp_nar .char v) a j) = _; rw [up2_k _ _ _ hj]; rfl
    · intro q hq
      rcases List.mem_append.mp hq with hq | hq
      · exact hL q hq
      · rw [List.mem_singleton.mp hq]
        exact (hR.2.2.2.2.1 a (by rw [hk]; decide)).1⟩
theorem x_astB (C : Cx G p s m args meth c cc nL own ret) {a : Nat} {i : Int32} {v : Int32} (hk : aK σ a = 105) (hin : vp_in i (aN σ a)) (hd : decode cc pc = .ok (.bastore, 1)) (kk : VX QF G p l e s m args below meth c d z0 u0 nL X (pc + 1) lv st (sI σ a i.toNatClampNeg (vp_nar .byte v))) : VX QF G p l e s m args below meth c d z0 u0 nL X pc lv (.int v :: .int i :: .ref a :: st) σ := fun r σ' h =>
  ⟨(kk r σ' h).1, fun H locs ls h1 h2 hR hL hl => by
    have hq := (hR.2.2.2.2.2 a).2 5 hk
    refine W.bast C.1 C.2.1 hq ((C.2.2.2.2.2.1.1.2 4 _ rfl).1 (aN σ a) _) (fun q => by cases q) (by rw [arrV_size]; exact hin) rfl rfl hd fun H' e1 e2 e3 => ?_
    refine (kk r σ' h).2 H' _ ls h1 h2 (rp_ast (σ1 := sI σ a i.toNatClampNeg (vp_nar .byte v)) (t := 5) hR hk e1 e2 e3 (fun _ => rfl) (fun _ => rfl) rfl ?_ ?_ (oth_I σ a _ _)) ?_ hl
    · show Value.int (up2 _ a _ (vp_nar .byte v) a _) = _; rw [up2_s]; try rfl
    · intro j hj
      show Value.int (up2 _ a _ (vp_nar .byte v) a j) = _; rw [up2_k _ _ _ hj]; rfl
    · intro q hq
      rcases List.mem_append.mp hq with hq | hq
      · exact hL q hq
      · rw [List.mem_singleton.mp hq]
        exact (hR.2.2.2.2.1 a (by rw [hk]; decide)).1⟩
theorem x_alen (C : Cx G p s m args meth c cc nL own ret) {a t : Nat} (hk : aK σ a = 100 + (t + 1)) (ht : t < 5) (hd : decode cc pc = .ok (.arraylength, 1)) (kk : VX QF G p l e s m args below meth c d z0 u0 nL X (pc + 1) lv (.int (nI (aN σ a)) :: st) σ) : VX QF G p l e s m args below meth c d z0 u0 nL X pc lv (.ref a :: st) σ := fun r σ' h =>
  ⟨(kk r σ' h).1, fun H locs ls h1 h2 hR hL hl => by
    have hq := (hR.2.2.2.2.2 a).2 (t + 1) hk
    have hA : ∃ ty, (tysA G.1.2)[t]? = some (G.1.2 (t + 1), ty) := by
      rcases (show t = 0 ∨ t = 1 ∨ t = 2 ∨ t = 3 ∨ t = 4 by omega) with rfl | rfl | rfl | rfl | rfl <;> exact ⟨_, rfl⟩
    obtain ⟨ty, hty⟩ := hA
    exact W.alen (n := nI (aN σ a)) C.1 C.2.1 hq ((C.2.2.2.2.2.1.1.2 t _ hty).1 (aN σ a) _) (by rw [arrV_size]; rfl) rfl rfl hd ((kk r σ' h).2 H locs ls h1 h2 hR hL hl)⟩
end HR
