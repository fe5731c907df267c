theorem isB_narrowB {v : Int32} (h : isB v = true) : narrow .byte (.int v) = .int v := by
  rcases isB_iff.mp h with rfl | rfl <;> rfl
theorem fV_nw {ci : Nat} (σ : AM) (kd n q j : Nat) (h : q ≠ aZ σ) : fV ci (nw σ kd n) q j = fV ci σ q j := by
  have h1 : aI (nw σ kd n) q j = aI σ q j := if_neg h
  have h2 : aL (nw σ kd n) q j = aL σ q j := if_neg h
  have h3 : aR (nw σ kd n) q j = aR σ q j := if_neg h
  unfold fV; rw [h1, h2, h3]
theorem aV_nw (t : Nat) (σ : AM) (kd n q j : Nat) (h : q ≠ aZ σ) : aV t (nw σ kd n) q j = aV t σ q j := by
  have h1 : aI (nw σ kd n) q j = aI σ q j := if_neg h
  have h2 : aL (nw σ kd n) q j = aL σ q j := if_neg h
  unfold aV; rw [h1, h2]
/-- a new cell at the heap's end -/
theorem rp_new {G : GX} {σ : AM} {H H1 : Heap} {kd n : Nat} (hR : RP G σ H) (hkd : kd ≠ 0) (z1 : H1.size = H.size + 1) (o1 : ∀ q, q < H.size → H1[q]? = H[q]?) (hn : CE G.1.1 G.1.2 (nw σ kd n) H1 (aZ σ)) : RP G (nw σ kd n) H1 := by
  obtain ⟨r1, r2, r3, r4, r5, r6⟩ := hR
  refine ⟨r1, by rw [z1, r2]; rfl, by rw [aZ_nw]; omega, fun q hq => by rw [o1 q (by omega)]; exact r4 q hq, fun q hq => ?_, fun q => ?_⟩
  · rw [aK_nw] at hq
    rw [aZ_nw]
    by_cases h : q = aZ σ
    · omega
    · rw [if_neg h] at hq
      have := r5 q hq
      omega
  · by_cases h : q = aZ σ
    · rw [h]; exact hn
    · have hk : aK (nw σ kd n) q = aK σ q := by rw [aK_nw, if_neg h]
      refine ⟨fun cj r' hk' hc' => ?_, fun t ht => ?_⟩
      · rw [hk] at hk'
        have hq := r5 q (by rw [hk']; exact Nat.succ_ne_zero cj)
        exact (((r6 q).1 cj r' hk' hc').kept (o1 q (by omega))).to (fun j _ => (fV_nw σ kd n q j h).symm)
      · rw [hk] at ht
        have hq := r5 q (by rw [ht]; omega)
        rw [o1 q (by omega), (r6 q).2 t ht, show aN (nw σ kd n) q = aN σ q by rw [aN_nw, if_neg h], show aV t (nw σ kd n) q = aV t σ q from funext fun j => aV_nw t σ kd n q j h]

section NR
variable {ρ : Type} {QF : ρ → AM → State → Prop} {G : GX} {p : Program} {l : Launch} {e : Env} {s : State} {m : MethodId} {args : Array Value} {below : List Frame} {meth : Method} {c : Code} {d z0 u0 nL : Nat} {X : Option (ρ × AM)} {pc : Nat} {lv : List (Nat × Value)} {st : List Value} {σ : AM} {cc : ByteArray} {own : String} {ret : Option FieldType}
theorem x_newaI (C : Cx G p s m args meth c cc nL own ret) {n : Int32} (hw : Cond.arrayClass .int ∈ lw_ok) (hn : ¬ n < 0) (hN : n.toNatClampNeg ≤ 1000000) (hd : decode cc pc = .ok (.newarray .int, 2)) (kk : VX QF G p l e s m args below meth c d z0 u0 nL X (pc + 2) lv (.ref (aZ σ) :: st) (nw σ 101 n.toNatClampNeg)) : VX QF G p l e s m args below meth c d z0 u0 nL X pc lv (.int n :: st) σ := fun r σ' h => by
  obtain ⟨⟨k1, k2⟩, kk2⟩ := kk r σ' h
  rw [aZ_nw] at k1
  rw [aU_nw] at k2
  refine ⟨⟨by omega, by omega⟩, fun H locs ls h1 h2 hR hL hl => ?_⟩
  refine va_newaK (atype := .int) C.1 C.2.1 (C.2.2.2.2.1 (Cond.arrayClass .int) hw) rfl hd rfl hn rfl (by show _ * 4 ≤ _; omega) (by show _ ≤ aZ σ' - z0; omega) (by show _ ≤ aU σ' - u0; omega) hR.2.1 fun H1 cA e1 z1 o1 hAr hNm => ?_
  have hcy : cA = G.1.2 1 := Option.some.inj (hNm.symm.trans (C.2.2.2.2.2.1.1.2 0 _ rfl).2)
  subst hcy
  have kq := kk2 H1 locs ls (by rw [aZ_nw]; omega) (by rw [aU_nw]; omega) (rp_new hR (by decide) (by rw [z1, hR.2.1]) (fun q hq => o1 q (by rw [← hR.2.1]; exact hq)) ⟨fun cj r' hk' hc' => ?_, fun t' ht => ?_⟩) hL hl
  · rw [aZ_nw, aU_nw, show aZ σ + 1 - z0 = aZ σ - z0 + 1 by omega, show aU σ + n.toNatClampNeg - u0 = aU σ - u0 + n.toNatClampNeg by omega] at kq
    exact kq
  · rw [aK_nw, if_pos rfl] at hk'
    have hlt : cj < clA.length := (List.getElem?_eq_some_iff.mp hc').1
    have : clA.length = 12 := rfl
    omega
  · rw [aK_nw, if_pos rfl] at ht
    have htt : t' = 1 := by omega
    subst htt
    rw [e1, aN_nw, if_pos rfl]
    congr 1
    congr 1
    funext j
    show _ = Value.int (if aZ σ = aZ σ then 0 else _)
    rw [if_pos rfl]
    rfl
theorem x_newaJ (C : Cx G p s m args meth c cc nL own ret) {n : Int32} (hw : Cond.arrayClass .long ∈ lw_ok) (hn : ¬ n < 0) (hN : n.toNatClampNeg ≤ 1000000) (hd : decode cc pc = .ok (.newarray .long, 2)) (kk : VX QF G p l e s m args below meth c d z0 u0 nL X (pc + 2) lv (.ref (aZ σ) :: st) (nw σ 102 n.toNatClampNeg)) : VX QF G p l e s m args below meth c d z0 u0 nL X pc lv (.int n :: st) σ := fun r σ' h => by
  obtain ⟨⟨k1, k2⟩, kk2⟩ := kk r σ' h
  rw [aZ_nw] at k1
  rw [aU_nw] at k2
  refine ⟨⟨by omega, by omega⟩, fun H locs ls h1 h2 hR hL hl => ?_⟩
  refine va_newaK (atype := .long) C.1 C.2.1 (C.2.2.2.2.1 (Cond.arrayClass .long) hw) rfl hd rfl hn rfl (by show _ * 8 ≤ _; omega) (by show _ ≤ aZ σ' - z0; omega) (by show _ ≤ aU σ' - u0; omega) hR.2.1 fun H1 cA e1 z1 o1 hAr hNm => ?_
  have hcy : cA = G.1.2 2 := Option.some.inj (hNm.symm.trans (C.2.2.2.2.2.1.1.2 1 _ rfl).2)
  subst hcy
  have kq := kk2 H1 locs ls (by rw [aZ_nw]; omega) (by rw [aU_nw]; omega) (rp_new hR (by decide) (by rw [z1, hR.2.1]) (fun q hq => o1 q (by rw [← hR.2.1]; exact hq)) ⟨fun cj r' hk' hc' => ?_, fun t' ht => ?_⟩) hL hl
  · rw [aZ_nw, aU_nw, show aZ σ + 1 - z0 = aZ σ - z0 + 1 by omega, show aU σ + n.toNatClampNeg - u0 = aU σ - u0 + n.toNatClampNeg by omega] at kq
    exact kq
  · rw [aK_nw, if_pos rfl] at hk'
    have hlt : cj < clA.length := (List.getElem?_eq_some_iff.mp hc').1
    have : clA.length = 12 := rfl
    omega
  · rw [aK_nw, if_pos rfl] at ht
    have htt : t' = 2 := by omega
    subst htt
    rw [e1, aN_nw, if_pos rfl]
    congr 1
    congr 1
    funext j
    show _ = Value.long (if aZ σ = aZ σ then 0 else _)
    rw [if_pos rfl]
    rfl
theorem x_newaZ (C : Cx G p s m args meth c cc nL own ret) {n : Int32} (hw : Cond.arrayClass .boolean ∈ lw_ok) (hn : ¬ n < 0) (hN : n.toNatClampNeg ≤ 1000000) (hd : decode cc pc = .ok (.newarray .boolean, 2)) (kk : VX QF G p l e s m args below meth c d z0 u0 nL X (pc + 2) lv (.ref (aZ σ) :: st) (nw σ 103 n.toNatClampNeg)) : VX QF G p l e s m args below meth c d z0 u0 nL X pc lv (.int n :: st) σ := fun r σ' h => by
  obtain ⟨⟨k1, k2⟩, kk2⟩ := kk r σ' h
  rw [aZ_nw] at k1
  rw [aU_nw] at k2
  refine ⟨⟨by omega, by omega⟩, fun H locs ls h1 h2 hR hL hl => ?_⟩
  refine va_newaK (atype := .boolean) C.1 C.2.1 (C.2.2.2.2.1 (Cond.arrayClass .boolean) hw) rfl hd rfl hn rfl (by show _ * 1 ≤ _; omega) (by show _ ≤ aZ σ' - z0; omega) (by show _ ≤ aU σ' - u0; omega) hR.2.1 fun H1 cA e1 z1 o1 hAr hNm => ?_
  have hcy : cA = G.1.2 3 := Option.some.inj (hNm.symm.trans (C.2.2.2.2.2.1.1.2 2 _ rfl).2)
  subst hcy
  have kq := kk2 H1 locs ls (by rw [aZ_nw]; omega) (by rw [aU_nw]; omega) (rp_new hR (by decide) (by rw [z1, hR.2.1]) (fun q hq => o1 q (by rw [← hR.2.1]; exact hq)) ⟨fun cj r' hk' hc' => ?_, fun t' ht => ?_⟩) hL hl
  · rw [aZ_nw, aU_nw, show aZ σ + 1 - z0 = aZ σ - z0 + 1 by omega, show aU σ + n.toNatClampNeg - u0 = aU σ - u0 + n.toNatClampNeg by omega] at kq
    exact kq
  · rw [aK_nw, if_pos rfl] at hk'
    have hlt : cj < clA.length := (List.getElem?_eq_some_iff.mp hc').1
    have : clA.length = 12 := rfl
    omega
  · rw [aK_nw, if_pos rfl] at ht
    have htt : t' = 3 := by omega
    subst htt
    rw [e1, aN_nw, if_pos rfl]
    congr 1
    congr 1
    funext j
    show _ = Value.int (if aZ σ = aZ σ then 0 else _)
    rw [if_pos rfl]
    rfl
theorem x_newaC (C : Cx G p s m args meth c cc nL own ret) {n : Int32} (hw : Cond.arrayClass .char ∈ lw_ok) (hn : ¬ n < 0) (hN : n.toNatClampNeg ≤ 1000000) (hd : decode cc pc = .ok (.newarray .char, 2)) (kk : VX QF G p l e s m args below meth c d z0 u0 nL X (pc + 2) lv (.ref (aZ σ) :: st) (nw σ 104 n.toNatClampNeg)) : VX QF G p l e s m args below meth c d z0 u0 nL X pc lv (.int n :: st) σ := fun r σ' h => by
  obtain ⟨⟨k1, k2⟩, kk2⟩ := kk r σ' h
  rw [aZ_nw] at k1
  rw [aU_nw] at k2
  refine ⟨⟨by omega, by omega⟩, fun H locs ls h1 h2 hR hL hl => ?_⟩
  refine va_newaK (atype := .char) C.1 C.2.1 (C.2.2.2.2.1 (Cond.arrayClass .char) hw) rfl hd rfl hn rfl (by show _ * 2 ≤ _; omega) (by show _ ≤ aZ σ' - z0; omega) (by show _ ≤ aU σ' - u0; omega) hR.2.1 fun H1 cA e1 z1 o1 hAr hNm => ?_
  have hcy : cA = G.1.2 4 := Option.some.inj (hNm.symm.trans (C.2.2.2.2.2.1.1.2 3 _ rfl).2)
  subst hcy
  have kq := kk2 H1 locs ls (by rw [aZ_nw]; omega) (by rw [aU_nw]; omega) (rp_new hR (by decide) (by rw [z1, hR.2.1]) (fun q hq => o1 q (by rw [← hR.2.1]; exact hq)) ⟨fun cj r' hk' hc' => ?_, fun t' ht => ?_⟩) hL hl
  · rw [aZ_nw, aU_nw, show aZ σ + 1 - z0 = aZ σ - z0 + 1 by omega, show aU σ + n.toNatClampNeg - u0 = aU σ - u0 + n.toNatClampNeg by omega] at kq
    exact kq
  · rw [aK_nw, if_pos rfl] at hk'
    have hlt : cj < clA.length := (List.getElem?_eq_some_iff.mp hc').1
    have : clA.length = 12 := rfl
    omega
  · rw [aK_nw, if_pos rfl] at ht
    have htt : t' = 4 := by omega
    subst htt
    rw [e1, aN_nw, if_pos rfl]
    congr 1
    congr 1
    funext j
    show _ = Value.int (if aZ σ = aZ σ then 0 else _)
    rw [if_pos rfl]
    rfl
theorem x_newaB (C : Cx G p s m args meth c cc nL own ret) {n : Int32} (hw : Cond.arrayClass .byte ∈ lw_ok) (hn : ¬ n < 0) (hN : n.toNatClampNeg ≤ 1000000) (hd : decode cc pc = .ok (.newarray .byte, 2)) (kk : VX QF G p l e s m args below meth c d z0 u0 nL X (pc + 2) lv (.ref (aZ σ) :: st) (nw σ 105 n.toNatClampNeg)) : VX QF G p l e s m args below meth c d z0 u0 nL X pc lv (.int n :: st) σ := fun r σ' h => by
  obtain ⟨⟨k1, k2⟩, kk2⟩ := kk r σ' h
  rw [aZ_nw] at k1
  rw [aU_nw] at k2
  refine ⟨⟨by omega, by omega⟩, fun H locs ls h1 h2 hR hL hl => ?_⟩
  refine va_newaK (atype := .byte) C.1 C.2.1 (C.2.2.2.2.1 (Cond.arrayClass .byte) hw) rfl hd rfl hn rfl (by show _ * 1 ≤ _; omega) (by show _ ≤ aZ σ' - z0; omega) (by show _ ≤ aU σ' - u0; omega) hR.2.1 fun H1 cA e1 z1 o1 hAr hNm => ?_
  have hcy : cA = G.1.2 5 := Option.some.inj (hNm.symm.trans (C.2.2.2.2.2.1.1.2 4 _ rfl).2)
  subst hcy
  have kq := kk2 H1 locs ls (by rw [aZ_nw]; omega) (by rw [aU_nw]; omega) (rp_new hR (by decide) (by rw [z1, hR.2.1]) (fun q hq => o1 q (by rw [← hR.2.1]; exact hq)) ⟨fun cj r' hk' hc' => ?_, fun t' ht => ?_⟩) hL hl
  · rw [aZ_nw, aU_nw, show aZ σ + 1 - z0 = aZ σ - z0 + 1 by omega, show aU σ + n.toNatClampNeg - u0 = aU σ - u0 + n.toNatClampNeg by omega] at kq
    exact kq
  · rw [aK_nw, if_pos rfl] at hk'
    have hlt : cj < clA.length := (List.getElem?_eq_some_iff.mp hc').1
    have : clA.length = 12 := rfl
    omega
  · rw [aK_nw, if_pos rfl] at ht
    have htt : t' = 5 := by omega
    subst htt
    rw [e1, aN_nw, if_pos rfl]
    congr 1
    congr 1
    funext j
    show _ = Value.int (if aZ σ = aZ σ then 0 else _)
    rw [if_pos rfl]
    rfl
theorem x_new (C : Cx G p s m args meth c cc nL own ret) {ci index : Nat} {C' : String} {T : u_T} {N : Nat} {Y : Nat → FieldType} (hc : clA[ci]? = some (C', T, N)) (hin : ∀ w ∈ u_ws C' T N, w ∈ lw_ok) (hty : ∀ k, k < N → parseFieldDescriptor (T k).2.2.1 = some (Y k)) (hdf : ∀ k, k < N → defaultValue (Y k) = if ftk ci k = 0 then .int 0 else if ftk ci k = 1 then .long 0 else .null) (hw : Cond.classLink own index C' ∈ lw_ok) (hw2 : Cond.instantiable C' N ∈ lw_ok) (hw3 : Cond.initialized C' ∈ lw_ok) (hd : decode cc pc = .ok (.new index, 3)) (kk : VX QF G p l e s m args below meth c d z0 u0 nL X (pc + 3) lv (.ref (aZ σ) :: st) (nw σ (ci + 1) N)) : VX QF G p l e s m args below meth c d z0 u0 nL X pc lv st σ := fun r σ' h => by
  obtain ⟨⟨k1, k2⟩, kk2⟩ := kk r σ' h
  rw [aZ_nw] at k1
  rw [aU_nw] at k2
  refine ⟨⟨by omega, by omega⟩, fun H locs ls h1 h2 hR hL hl => ?_⟩
  have hKn := C.2.2.2.2.2.1.1.1 ci _ hc
  refine W.newcK C.1 C.2.1 C.2.2.2.1 (C.2.2.2.2.1 _ hw) (C.2.2.2.2.1 _ hw2) (C.2.2.2.2.1 _ hw3) rfl hd (by show _ ≤ aZ σ' - z0; omega) (by show _ ≤ aU σ' - u0; omega) hKn.2.1 hR.2.1 fun H1 kC hkC e1 z1 o1 => ?_
  have kq := kk2 H1 locs ls (by rw [aZ_nw]; omega) (by rw [aU_nw]; omega) (rp_new hR (Nat.succ_ne_zero ci) (by rw [z1, hR.2.1]) (fun q hq => o1 q (by rw [← hR.2.1]; exact hq)) ⟨fun cj r' hk' hc' => ?_, fun t' ht => ?_⟩) hL hl
  · rw [aZ_nw, aU_nw, show aZ σ + 1 - z0 = aZ σ - z0 + 1 by omega, show aU σ + N - u0 = aU σ - u0 + N by omega] at kq
    exact kq
  · rw [aK_nw, if_pos rfl] at hk'
    have hcc : cj = ci := by omega
    subst hcc
    have hrr := Option.some.inj (hc'.symm.trans hc)
    subst hrr
    refine (u_born Y C.2.2.2.2.1 hin hKn hkC e1 hty).to (fun j hj => ?_)
    rw [hdf j hj]
    unfold fV
    rw [aI_nw, if_pos rfl, aL_nw, if_pos rfl, aR_nw, if_pos rfl]
    rfl
  · rw [aK_nw, if_pos rfl] at ht
    have hlt : ci < clA.length := (List.getElem?_eq_some_iff.mp hc).1
    have : clA.length = 12 := rfl
    omega
/-- behind a call -/
theorem q_call {p : Program} {l : Launch} {e : Env} {R : Room} {s : State} {m : MethodId} {args : Array Value} {below : List Frame} {meth : Method} {c : Code} {H : Heap} {locs : List Loc} {cells slots mc ms : Nat} {Q : State → Prop} {pc : Nat} {ls : Array Slot} {st0 rest : List Value} {ρ : Type} {enc : ρ → Option Value} {G : GX} {r : ρ} {σ' : AM} {a : Array Value}
    (hr : va_Run p l e R s m args below meth c H locs cells slots mc ms (F0 m pc ls st0) rest (QC enc G r σ' a) (fun q => G.2.1 ≤ q)) (hL : ∀ q ∈ locs, G.2.1 ≤ q.base)
    (kk : ∀ (H1 : Heap) (locs1 : List Loc), RP G σ' H1 → (∀ q ∈ locs1, G.2.1 ≤ q.base) → W p l e R s m args below meth c H1 locs1 (cells + mc) (slots + ms) Q (F0 m (pc + 3) ls ((enc r).toList ++ rest))) : W p l e R s m args below meth c H locs cells slots Q (F0 m pc ls st0) := by
  intro T hT X
  obtain ⟨v, st₀, t, T', L, h0, X', hL2, e1, e2, ⟨hv, hb⟩, st⟩ := hr T hT X
  have hv' : v = enc r := Outcome.returned.inj hv
  subst hv'
  obtain ⟨t2, a1, b1⟩ := kk T'.heap (locs ++ L) (by rw [e1]; exact hb) (fun q hq => (List.mem_append.mp hq).elim (hL q) (hL2 q)) T' rfl X'
  exact ⟨t2, st t2 a1, b1⟩
theorem pc_blind {G : GX} {σ : AM} {As : List Value} : FrameBlind (va_Pc As (fun U => RP G σ U.heap ∧ KK G U)) := fun a U g mk q => ⟨q.1, q.2.1, q.2.2.call⟩
theorem ok_in {y : MethodName} {cc : ByteArray} {nL : Nat} {ret : Option FieldType} (h : Cond.code y cc nL ret ∈ lw_ok) : GoodIn lw_ok (Cond.code y cc nL ret :: lw_ok) := by
  intro w hw
  rcases List.mem_cons.mp hw with rfl | hw
  · exact ⟨h, ok_good h⟩
  · exact ⟨hw, ok_good hw⟩
theorem x_callS (C : Cx G p s m args meth c cc nL own ret) {τ : Type} {en2 : τ → Option Value} {d2 index n : Nat} {y : MethodName} {bytes : ByteArray} {maxL : Nat} {rt : Option FieldType} {As : List Value} {Y : Option (τ × AM)} {S : Type} {g : S → Option (ρ × AM)} {f : τ → AM → S ⊕ Option (ρ × AM)} (hY : CT en2 G l d2 y bytes maxL rt (As) σ Y) (hstt : Cond.static y ∈ lw_ok) (hlink : Cond.methodLink own index y ∈ lw_ok) (hcode : Cond.code y bytes maxL rt ∈ lw_ok) (hini : Cond.initialized y.cls ∈ lw_ok)
    (hy : y.cls ≠ "java/lang/invoke/MethodHandle" ∧ y.cls ≠ "java/lang/invoke/VarHandle" ∧ (parseMethodDescriptor y.desc).map (fun d => d.parameters.length) = some n) (hn : As.length = n) (hd2 : d2 + 1 ≤ d) (hmx : maxL ≤ 22) {rest : List Value} {st0 : List Value} (hst : st0 = As.reverse ++ rest) (hrm : (rest.map fun v => v.category).sum ≤ 8)
    (hd : decode cc pc = .ok (.invokestatic index, 3)) (kk : ∀ (r2 : τ) (σ2 : AM), VX QF G p l e s m args below meth c d z0 u0 nL (lpK g (f r2 σ2)) (pc + 3) lv ((en2 r2).toList ++ rest) σ2) : VX QF G p l e s m args below meth c d z0 u0 nL (lpK g (bndT Y f)) pc lv st0 σ := fun r σ' h => by
  subst hst
  cases hYe : Y with
  | none => rw [hYe] at h; cases h
  | some q =>
    obtain ⟨r2, σ2⟩ := q
    rw [hYe] at h
    obtain ⟨⟨m1, m2⟩, hM⟩ := hY r2 σ2 hYe
    obtain ⟨⟨k1, k2⟩, kk2⟩ := kk r2 σ2 r σ' h
    refine ⟨⟨by omega, by omega⟩, fun H locs ls h1 h2 hR hL hl => ?_⟩
    have cb : CallB (RM d z0 u0 σ') s args own index y bytes maxL rt (Cond.code y bytes maxL rt :: lw_ok) (RM d2 (aZ σ) (aU σ) σ2) (aZ σ2 - aZ σ) (aU σ2 - aU σ) n := callB_of n C.2.2.2.2.1 (ok_in hcode) rfl rfl rfl (C.2.2.2.2.1 _ hini) (C.2.2.2.2.1 _ hlink) hy ⟨by show d2 + 1 ≤ d; exact hd2, by show 8 + (maxL + 11) + 41 * d2 ≤ 41 * d; omega⟩
    have hrun := va_runS (e := e) (below := below) (meth := meth) (rest := rest) (g := F0 m pc ls (As.reverse ++ rest)) (locs := locs) ⟨C.1, C.2.1, C.2.2.1, C.2.2.2.1, C.2.2.2.2.1⟩ hM ⟨cb, C.2.2.2.2.1 _ hstt⟩ ⟨pc_blind, fun U hU hW => ⟨rfl, by rw [hU]; exact hR, C.2.2.2.2.2.1.moved hW⟩⟩ rfl hn hl.1 rfl (by show 2 * 0 + _ ≤ 8; omega) hd ⟨by show aZ σ - z0 + (aZ σ2 - aZ σ) ≤ aZ σ' - z0; omega, by show aU σ - u0 + (aU σ2 - aU σ) ≤ aU σ' - u0; omega⟩
    refine q_call hrun hL (fun H1 locs1 hR1 hL1 => ?_)
    have kq := kk2 H1 locs1 ls (by omega) (by omega) hR1 hL1 hl
    rw [show aZ σ - z0 + (aZ σ2 - aZ σ) = aZ σ2 - z0 by omega, show aU σ - u0 + (aU σ2 - aU σ) = aU σ2 - u0 by omega]
    exact kq
theorem x_callV (C : Cx G p s m args meth c cc nL own ret) {τ : Type} {en2 : τ → Option Value} {d2 index n : Nat} {y : MethodName} {bytes : ByteArray} {maxL : Nat} {rt : Option FieldType} {b ci : Nat} {C' : String} {T : u_T} {N : Nat} {As : List Value} {Y : Option (τ × AM)} {S : Type} {g : S → Option (ρ × AM)} {f : τ → AM → S ⊕ Option (ρ × AM)} (hY : CT en2 G l d2 y bytes maxL rt (Value.ref b :: As) σ Y) (hb : aK σ b = ci + 1) (hcl : clA[ci]? = some (C', T, N)) (hinst : Cond.instanceMethod y ∈ lw_ok) (hsel : Cond.selects C' y y ∈ lw_ok) (hlink : Cond.methodLink own index y ∈ lw_ok) (hcode : Cond.code y bytes maxL rt ∈ lw_ok) (hini : Cond.initialized y.cls ∈ lw_ok)
    (hy : y.cls ≠ "java/lang/invoke/MethodHandle" ∧ y.cls ≠ "java/lang/invoke/VarHandle" ∧ (parseMethodDescriptor y.desc).map (fun d => d.parameters.length) = some n) (hn : As.length = n) (hd2 : d2 + 1 ≤ d) (hmx : maxL ≤ 22) {rest : List Value} {st0 : List Value} (hst : st0 = As.reverse ++ Value.ref b :: rest) (hrm : (rest.map fun v => v.category).sum ≤ 8)
    (hd : decode cc pc = .ok (.invokevirtual index, 3)) (kk : ∀ (r2 : τ) (σ2 : AM), VX QF G p l e s m args below meth c d z0 u0 nL (lpK g (f r2 σ2)) (pc + 3) lv ((en2 r2).toList ++ rest) σ2) : VX QF G p l e s m args below meth c d z0 u0 nL (lpK g (bndT Y f)) pc lv st0 σ := fun r σ' h => by
  subst hst
  cases hYe : Y with
  | none => rw [hYe] at h; cases h
  | some q =>
    obtain ⟨r2, σ2⟩ := q
    rw [hYe] at h
    obtain ⟨⟨m1, m2⟩, hM⟩ := hY r2 σ2 hYe
    obtain ⟨⟨k1, k2⟩, kk2⟩ := kk r2 σ2 r σ' h
    refine ⟨⟨by omega, by omega⟩, fun H locs ls h1 h2 hR hL hl => ?_⟩
    have cb : CallB (RM d z0 u0 σ') s args own index y bytes maxL rt (Cond.code y bytes maxL rt :: lw_ok) (RM d2 (aZ σ) (aU σ) σ2) (aZ σ2 - aZ σ) (aU σ2 - aU σ) n := callB_of n C.2.2.2.2.1 (ok_in hcode) rfl rfl rfl (C.2.2.2.2.1 _ hini) (C.2.2.2.2.1 _ hlink) hy ⟨by show d2 + 1 ≤ d; exact hd2, by show 8 + (maxL + 11) + 41 * d2 ≤ 41 * d; omega⟩
    have hcB : ∃ cellB : Cell, H[b]? = some cellB ∧ cellB.vm.isStatics = false ∧ s.vm.findClass C' = some cellB.cls := by
      obtain ⟨cell, q1, q2, q3, q4⟩ := (hR.2.2.2.2.2 b).1 ci _ hb hcl
      exact ⟨cell, q1, by rw [q3]; rfl, by rw [q2]; exact (C.2.2.2.2.2.1.1.1 ci _ hcl).2.1⟩
    have hrun := va_runV (e := e) (below := below) (meth := meth) (rest := rest) (g := F0 m pc ls (As.reverse ++ Value.ref b :: rest)) (locs := locs) ⟨C.1, C.2.1, C.2.2.1, C.2.2.2.1, C.2.2.2.2.1⟩ hM ⟨cb, C.2.2.2.2.1 _ hinst, C.2.2.2.2.1 _ hsel⟩ ⟨pc_blind, hcB, fun U hU hW => ⟨rfl, by rw [hU]; exact hR, C.2.2.2.2.2.1.moved hW⟩⟩ rfl hn hl.1 rfl (by show 2 * 0 + _ ≤ 8; omega) hd ⟨by show aZ σ - z0 + (aZ σ2 - aZ σ) ≤ aZ σ' - z0; omega, by show aU σ - u0 + (aU σ2 - aU σ) ≤ aU σ' - u0; omega⟩
    refine q_call hrun hL (fun H1 locs1 hR1 hL1 => ?_)
    have kq := kk2 H1 locs1 ls (by omega) (by omega) hR1 hL1 hl
    rw [show aZ σ - z0 + (aZ σ2 - aZ σ) = aZ σ2 - z0 by omega, show aU σ - u0 + (aU σ2 - aU σ) = aU σ2 - u0 by omega]
    exact kq
theorem x_callI (C : Cx G p s m args meth c cc nL own ret) {τ : Type} {en2 : τ → Option Value} {d2 index n : Nat} {y : MethodName} {bytes : ByteArray} {maxL : Nat} {rt : Option FieldType} {b ci : Nat} {C' : String} {T : u_T} {N : Nat} {As : List Value} {Y : Option (τ × AM)} {S : Type} {g : S → Option (ρ × AM)} {f : τ → AM → S ⊕ Option (ρ × AM)} (hY : CT en2 G l d2 y bytes maxL rt (Value.ref b :: As) σ Y) (hb : aK σ b = ci + 1) (hcl : clA[ci]? = some (C', T, N)) (hinst : Cond.instanceMethod y ∈ lw_ok) (hnm : y.name = "<init>") (hrt : rt = none) (hlink : Cond.methodLink own index y ∈ lw_ok) (hcode : Cond.code y bytes maxL rt ∈ lw_ok) (hini : Cond.initialized y.cls ∈ lw_ok)
    (hy : y.cls ≠ "java/lang/invoke/MethodHandle" ∧ y.cls ≠ "java/lang/invoke/VarHandle" ∧ (parseMethodDescriptor y.desc).map (fun d => d.parameters.length) = some n) (hn : As.length = n) (hd2 : d2 + 1 ≤ d) (hmx : maxL ≤ 22) {rest : List Value} {st0 : List Value} (hst : st0 = As.reverse ++ Value.ref b :: rest) (hrm : (rest.map fun v => v.category).sum ≤ 8)
    (hd : decode cc pc = .ok (.invokespecial index, 3)) (kk : ∀ (r2 : τ) (σ2 : AM), VX QF G p l e s m args below meth c d z0 u0 nL (lpK g (f r2 σ2)) (pc + 3) lv ((en2 r2).toList ++ rest) σ2) : VX QF G p l e s m args below meth c d z0 u0 nL (lpK g (bndT Y f)) pc lv st0 σ := fun r σ' h => by
  subst hst
  cases hYe : Y with
  | none => rw [hYe] at h; cases h
  | some q =>
    obtain ⟨r2, σ2⟩ := q
    rw [hYe] at h
    obtain ⟨⟨m1, m2⟩, hM⟩ := hY r2 σ2 hYe
    obtain ⟨⟨k1, k2⟩, kk2⟩ := kk r2 σ2 r σ' h
    refine ⟨⟨by omega, by omega⟩, fun H locs ls h1 h2 hR hL hl => ?_⟩
    have cb : CallB (RM d z0 u0 σ') s args own index y bytes maxL rt (Cond.code y bytes maxL rt :: lw_ok) (RM d2 (aZ σ) (aU σ) σ2) (aZ σ2 - aZ σ) (aU σ2 - aU σ) n := callB_of n C.2.2.2.2.1 (ok_in hcode) rfl rfl rfl (C.2.2.2.2.1 _ hini) (C.2.2.2.2.1 _ hlink) hy ⟨by show d2 + 1 ≤ d; exact hd2, by show 8 + (maxL + 11) + 41 * d2 ≤ 41 * d; omega⟩
    subst hrt
    have hrun := va_runI (e := e) (below := below) (meth := meth) (rest := rest) (g := F0 m pc ls (As.reverse ++ Value.ref b :: rest)) (locs := locs) ⟨C.1, C.2.1, C.2.2.1, C.2.2.2.1, C.2.2.2.2.1⟩ hM ⟨cb, hnm, C.2.2.2.2.1 _ hinst⟩ ⟨pc_blind, fun U hU hW => ⟨rfl, by rw [hU]; exact hR, C.2.2.2.2.2.1.moved hW⟩⟩ rfl hn hl.1 rfl (by show 2 * 0 + _ ≤ 8; omega) hd ⟨by show aZ σ - z0 + (aZ σ2 - aZ σ) ≤ aZ σ' - z0; omega, by show aU σ - u0 + (aU σ2 - aU σ) ≤ aU σ' - u0; omega⟩
    refine q_call hrun hL (fun H1 locs1 hR1 hL1 => ?_)
    have kq := kk2 H1 locs1 ls (by omega) (by omega) hR1 hL1 hl
    rw [show aZ σ - z0 + (aZ σ2 - aZ σ) = aZ σ2 - z0 by omega, show aU σ - u0 + (aU σ2 - aU σ) = aU σ2 - u0 by omega]
    exact kq
theorem x_obj (C : Cx G p s m args meth c cc nL own ret) {a ci index : Nat} (hk : aK σ a = ci + 1) (hlink : Cond.methodLink own index objectInit ∈ lw_ok) (hinst : Cond.instanceMethod objectInit ∈ lw_ok) (hcode : Cond.code objectInit ⟨#[0xb1]⟩ 1 none ∈ lw_ok) (hd1 : 1 ≤ d) (hrm : (st.map fun v => v.category).sum ≤ 8) (hd : decode cc pc = .ok (.invokespecial index, 3)) (kk : VX QF G p l e s m args below meth c d z0 u0 nL X (pc + 3) lv st σ) : VX QF G p l e s m args below meth c d z0 u0 nL X pc lv (.ref a :: st) σ := fun r σ' h =>
  ⟨(kk r σ' h).1, fun H locs ls h1 h2 hR hL hl => by
    exact W.objInit C.1 C.2.1 C.2.2.2.1 (C.2.2.2.2.1 _ hlink) (C.2.2.2.2.1 _ hinst) (C.2.2.2.2.1 _ hcode) rfl (hl.1.trans C.2.2.1.symm) rfl hd (by show 1 ≤ d; exact hd1) (by show 2 * 0 + _ + 12 ≤ 41 * d; omega) ((kk r σ' h).2 H locs ls h1 h2 hR hL hl)⟩
end NR
theorem refV_or (v : Nat) : refV v = .null ∨ ∃ a, refV v = .ref a := by
  by_cases h : v = 0
  · exact Or.inl (if_pos h)
  · exact Or.inr ⟨v, if_neg h⟩
abbrev eI : Int32 → Option Value := fun v => some (.int v)
abbrev eJ : Int64 → Option Value := fun v => some (.long v)
abbrev eV : Unit → Option Value := fun _ => none
abbrev eR : Nat → Option Value := fun v => some (.ref v)
section SR
variable {ρ : Type} {QF : ρ → AM → State → Prop} {G : GX} {p : Program} {l : Launch} {e : Env} {s : State} {m : MethodId} {args : Array Value} {below : List Frame} {meth : Method} {c : Code} {d z0 u0 nL : Nat} {X : Option (ρ × AM)} {pc : Nat} {lv : List (Nat × Value)} {st : List Value} {σ : AM} {cc : ByteArray} {own : String} {ret : Option FieldType}
theorem x_callSI (C : Cx G p s m args meth c cc nL own ret) {d2 index n : Nat} {y : MethodName} {bytes : ByteArray} {maxL : Nat} {rt : Option FieldType} {As : List Value} {Y : Option (Int32 × AM)} {S : Type} {g : S → Option (ρ × AM)} {f : Int32 → AM → S ⊕ Option (ρ × AM)} (hY : CT eI G l d2 y bytes maxL rt (As) σ Y) (hstt : Cond.static y ∈ lw_ok) (hlink : Cond.methodLink own index y ∈ lw_ok) (hcode : Cond.code y bytes maxL rt ∈ lw_ok) (hini : Cond.initialized y.cls ∈ lw_ok)
    (hy : y.cls ≠ "java/lang/invoke/MethodHandle" ∧ y.cls ≠ "java/lang/invoke/VarHandle" ∧ (parseMethodDescriptor y.desc).map (fun d => d.parameters.length) = some n) (hn : As.length = n) (hd2 : d2 + 1 ≤ d) (hmx : maxL ≤ 22) {rest : List Value} {st0 : List Value} (hst : st0 = As.reverse ++ rest) (hrm : (rest.map fun v => v.category).sum ≤ 8)
    (hd : decode cc pc = .ok (.invokestatic index, 3)) (kk : ∀ (r2 : Int32) (σ2 : AM), VX QF G p l e s m args below meth c d z0 u0 nL (lpK g (f r2 σ2)) (pc + 3) lv (.int r2 :: rest) σ2) : VX QF G p l e s m args below meth c d z0 u0 nL (lpK g (bndT Y f)) pc lv st0 σ := x_callS C (en2 := eI) hY hstt hlink hcode hini hy hn hd2 hmx hst hrm hd kk
theorem x_callSJ (C : Cx G p s m args meth c cc nL own ret) {d2 index n : Nat} {y : MethodName} {bytes : ByteArray} {maxL : Nat} {rt : Option FieldType} {As : List Value} {Y : Option (Int64 × AM)} {S : Type} {g : S → Option (ρ × AM)} {f : Int64 → AM → S ⊕ Option (ρ × AM)} (hY : CT eJ G l d2 y bytes maxL rt (As) σ Y) (hstt : Cond.static y ∈ lw_ok) (hlink : Cond.methodLink own index y ∈ lw_ok) (hcode : Cond.code y bytes maxL rt ∈ lw_ok) (hini : Cond.initialized y.cls ∈ lw_ok)
    (hy : y.cls ≠ "java/lang/invoke/MethodHandle" ∧ y.cls ≠ "java/lang/invoke/VarHandle" ∧ (parseMethodDescriptor y.desc).map (fun d => d.parameters.length) = some n) (hn : As.length = n) (hd2 : d2 + 1 ≤ d) (hmx : maxL ≤ 22) {rest : List Value} {st0 : List Value} (hst : st0 = As.reverse ++ rest) (hrm : (rest.map fun v => v.category).sum ≤ 8)
    (hd : decode cc pc = .ok (.invokestatic index, 3)) (kk : ∀ (r2 : Int64) (σ2 : AM), VX QF G p l e s m args below meth c d z0 u0 nL (lpK g (f r2 σ2)) (pc + 3) lv (.long r2 :: rest) σ2) : VX QF G p l e s m args below meth c d z0 u0 nL (lpK g (bndT Y f)) pc lv st0 σ := x_callS C (en2 := eJ) hY hstt hlink hcode hini hy hn hd2 hmx hst hrm hd kk
theorem x_callSV (C : Cx G p s m args meth c cc nL own ret) {d2 index n : Nat} {y : MethodName} {bytes : ByteArray} {maxL : Nat} {rt : Option FieldType} {As : List Value} {Y : Option (Unit × AM)} {S : Type} {g : S → Option (ρ × AM)} {f : Unit → AM → S ⊕ Option (ρ × AM)} (hY : CT eV G l d2 y bytes maxL rt (As) σ Y) (hstt : Cond.static y ∈ lw_ok) (hlink : Cond.methodLink own index y ∈ lw_ok) (hcode : Cond.code y bytes maxL rt ∈ lw_ok) (hini : Cond.initialized y.cls ∈ lw_ok)
    (hy : y.cls ≠ "java/lang/invoke/MethodHandle" ∧ y.cls ≠ "java/lang/invoke/VarHandle" ∧ (parseMethodDescriptor y.desc).map (fun d => d.parameters.length) = some n) (hn : As.length = n) (hd2 : d2 + 1 ≤ d) (hmx : maxL ≤ 22) {rest : List Value} {st0 : List Value} (hst : st0 = As.reverse ++ rest) (hrm : (rest.map fun v => v.category).sum ≤ 8)
    (hd : decode cc pc = .ok (.invokestatic index, 3)) (kk : ∀ (r2 : Unit) (σ2 : AM), VX QF G p l e s m args below meth c d z0 u0 nL (lpK g (f r2 σ2)) (pc + 3) lv (rest) σ2) : VX QF G p l e s m args below meth c d z0 u0 nL (lpK g (bndT Y f)) pc lv st0 σ := x_callS C (en2 := eV) hY hstt hlink hcode hini hy hn hd2 hmx hst hrm hd kk
theorem x_callSR (C : Cx G p s m args meth c cc nL own ret) {d2 index n : Nat} {y : MethodName} {bytes : ByteArray} {maxL : Nat} {rt : Option FieldType} {As : List Value} {Y : Option (Nat × AM)} {S : Type} {g : S → Option (ρ × AM)} {f : Nat → AM → S ⊕ Option (ρ × AM)} (hY : CT eR G l d2 y bytes maxL rt (As) σ Y) (hstt : Cond.static y ∈ lw_ok) (hlink : Cond.methodLink own index y ∈ lw_ok) (hcode : Cond.code y bytes maxL rt ∈ lw_ok) (hini : Cond.initialized y.cls ∈ lw_ok)
    (hy : y.cls ≠ "java/lang/invoke/MethodHandle" ∧ y.cls ≠ "java/lang/invoke/VarHandle" ∧ (parseMethodDescriptor y.desc).map (fun d => d.parameters.length) = some n) (hn : As.length = n) (hd2 : d2 + 1 ≤ d) (hmx : maxL ≤ 22) {rest : List Value} {st0 : List Value} (hst : st0 = As.reverse ++ rest) (hrm : (rest.map fun v => v.category).sum ≤ 8)
    (hd : decode cc pc = .ok (.invokestatic index, 3)) (kk : ∀ (r2 : Nat) (σ2 : AM), VX QF G p l e s m args below meth c d z0 u0 nL (lpK g (f r2 σ2)) (pc + 3) lv (.ref r2 :: rest) σ2) : VX QF G p l e s m args below meth c d z0 u0 nL (lpK g (bndT Y f)) pc lv st0 σ := x_callS C (en2 := eR) hY hstt hlink hcode hini hy hn hd2 hmx hst hrm hd kk
theorem x_callVI (C : Cx G p s m args meth c cc nL own ret) {d2 index n : Nat} {y : MethodName} {bytes : ByteArray} {maxL : Nat} {rt : Option FieldType} {b ci : Nat} {C' : String} {T : u_T} {N : Nat} {As : List Value} {Y : Option (Int32 × AM)} {S : Type} {g : S → Option (ρ × AM)} {f : Int32 → AM → S ⊕ Option (ρ × AM)} (hY : CT eI G l d2 y bytes maxL rt (Value.ref b :: As) σ Y) (hb : aK σ b = ci + 1) (hcl : clA[ci]? = some (C', T, N)) (hinst : Cond.instanceMethod y ∈ lw_ok) (hsel : Cond.selects C' y y ∈ lw_ok) (hlink : Cond.methodLink own index y ∈ lw_ok) (hcode : Cond.code y bytes maxL rt ∈ lw_ok) (hini : Cond.initialized y.cls ∈ lw_ok)
    (hy : y.cls ≠ "java/lang/invoke/MethodHandle" ∧ y.cls ≠ "java/lang/invoke/VarHandle" ∧ (parseMethodDescriptor y.desc).map (fun d => d.parameters.length) = some n) (hn : As.length = n) (hd2 : d2 + 1 ≤ d) (hmx : maxL ≤ 22) {rest : List Value} {st0 : List Value} (hst : st0 = As.reverse ++ Value.ref b :: rest) (hrm : (rest.map fun v => v.category).sum ≤ 8)
    (hd : decode cc pc = .ok (.invokevirtual index, 3)) (kk : ∀ (r2 : Int32) (σ2 : AM), VX QF G p l e s m args below meth c d z0 u0 nL (lpK g (f r2 σ2)) (pc + 3) lv (.int r2 :: rest) σ2) : VX QF G p l e s m args below meth c d z0 u0 nL (lpK g (bndT Y f)) pc lv st0 σ := x_callV C (en2 := eI) hY hb hcl hinst hsel hlink hcode hini hy hn hd2 hmx hst hrm hd kk
theorem x_callVJ (C : Cx G p s m args meth c cc nL own ret) {d2 index n : Nat} {y : MethodName} {bytes : ByteArray} {maxL : Nat} {rt : Option FieldType} {b ci : Nat} {C' : String} {T : u_T} {N : Nat} {As : List Value} {Y : Option (Int64 × AM)} {S : Type} {g : S → Option (ρ × AM)} {f : Int64 → AM → S ⊕ Option (ρ × AM)} (hY : CT eJ G l d2 y bytes maxL rt (Value.ref b :: As) σ Y) (hb : aK σ b = ci + 1) (hcl : clA[ci]? = some (C', T, N)) (hinst : Cond.instanceMethod y ∈ lw_ok) (hsel : Cond.selects C' y y ∈ lw_ok) (hlink : Cond.methodLink own index y ∈ lw_ok) (hcode : Cond.code y bytes maxL rt ∈ lw_ok) (hini : Cond.initialized y.cls ∈ lw_ok)
    (hy : y.cls ≠ "java/lang/invoke/MethodHandle" ∧ y.cls ≠ "java/lang/invoke/VarHandle" ∧ (parseMethodDescriptor y.desc).map (fun d => d.parameters.length) = some n) (hn : As.length = n) (hd2 : d2 + 1 ≤ d) (hmx : maxL ≤ 22) {rest : List Value} {st0 : List Value} (hst : st0 = As.reverse ++ Value.ref b :: rest) (hrm : (rest.map fun v => v.category).sum ≤ 8)
    (hd : decode cc pc = .ok (.invokevirtual index, 3)) (kk : ∀ (r2 : Int64) (σ2 : AM), VX QF G p l e s m args below meth c d z0 u0 nL (lpK g (f r2 σ2)) (pc + 3) lv (.long r2 :: rest) σ2) : VX QF G p l e s m args below meth c d z0 u0 nL (lpK g (bndT Y f)) pc lv st0 σ := x_callV C (en2 := eJ) hY hb hcl hinst hsel hlink hcode hini hy hn hd2 hmx hst hrm hd kk
theorem x_callVV (C : Cx G p s m args meth c cc nL own ret) {d2 index n : Nat} {y : MethodName} {bytes : ByteArray} {maxL : Nat} {rt : Option FieldType} {b ci : Nat} {C' : String} {T : u_T} {N : Nat} {As : List Value} {Y : Option (Unit × AM)} {S : Type} {g : S → Option (ρ × AM)} {f : Unit → AM → S ⊕ Option (ρ × AM)} (hY : CT eV G l d2 y bytes maxL rt (Value.ref b :: As) σ Y) (hb : aK σ b = ci + 1) (hcl : clA[ci]? = some (C', T, N)) (hinst : Cond.instanceMethod y ∈ lw_ok) (hsel : Cond.selects C' y y ∈ lw_ok) (hlink : Cond.methodLink own index y ∈ lw_ok) (hcode : Cond.code y bytes maxL rt ∈ lw_ok) (hini : Cond.initialized y.cls ∈ lw_ok)
    (hy : y.cls ≠ "java/lang/invoke/MethodHandle" ∧ y.cls ≠ "java/lang/invoke/VarHandle" ∧ (parseMethodDescriptor y.desc).map (fun d => d.parameters.length) = some n) (hn : As.length = n) (hd2 : d2 + 1 ≤ d) (hmx : maxL ≤ 22) {rest : List Value} {st0 : List Value} (hst : st0 = As.reverse ++ Value.ref b :: rest) (hrm : (rest.map fun v => v.category).sum ≤ 8)
    (hd : decode cc pc = .ok (.invokevirtual index, 3)) (kk : ∀ (r2 : Unit) (σ2 : AM), VX QF G p l e s m args below meth c d z0 u0 nL (lpK g (f r2 σ2)) (pc + 3) lv (rest) σ2) : VX QF G p l e s m args below meth c d z0 u0 nL (lpK g (bndT Y f)) pc lv st0 σ := x_callV C (en2 := eV) hY hb hcl hinst hsel hlink hcode hini hy hn hd2 hmx hst hrm hd kk
theorem x_callVR (C : Cx G p s m args meth c cc nL own ret) {d2 index n : Nat} {y : MethodName} {bytes : ByteArray} {maxL : Nat} {rt : Option FieldType} {b ci : Nat} {C' : String} {T : u_T} {N : Nat} {As : List Value} {Y : Option (Nat × AM)} {S : Type} {g : S → Option (ρ × AM)} {f : Nat → AM → S ⊕ Option (ρ × AM)} (hY : CT eR G l d2 y bytes maxL rt (Value.ref b :: As) σ Y) (hb : aK σ b = ci + 1) (hcl : clA[ci]? = some (C', T, N)) (hinst : Cond.instanceMethod y ∈ lw_ok) (hsel : Cond.selects C' y y ∈ lw_ok) (hlink : Cond.methodLink own index y ∈ lw_ok) (hcode : Cond.code y bytes maxL rt ∈ lw_ok) (hini : Cond.initialized y.cls ∈ lw_ok)
    (hy : y.cls ≠ "java/lang/invoke/MethodHandle" ∧ y.cls ≠ "java/lang/invoke/VarHandle" ∧ (parseMethodDescriptor y.desc).map (fun d => d.parameters.length) = some n) (hn : As.length = n) (hd2 : d2 + 1 ≤ d) (hmx : maxL ≤ 22) {rest : List Value} {st0 : List Value} (hst : st0 = As.reverse ++ Value.ref b :: rest) (hrm : (rest.map fun v => v.category).sum ≤ 8)
    (hd : decode cc pc = .ok (.invokevirtual index, 3)) (kk : ∀ (r2 : Nat) (σ2 : AM), VX QF G p l e s m args below meth c d z0 u0 nL (lpK g (f r2 σ2)) (pc + 3) lv (.ref r2 :: rest) σ2) : VX QF G p l e s m args below meth c d z0 u0 nL (lpK g (bndT Y f)) pc lv st0 σ := x_callV C (en2 := eR) hY hb hcl hinst hsel hlink hcode hini hy hn hd2 hmx hst hrm hd kk
theorem x_callIV (C : Cx G p s m args meth c cc nL own ret) {d2 index n : Nat} {y : MethodName} {bytes : ByteArray} {maxL : Nat} {rt : Option FieldType} {b ci : Nat} {C' : String} {T : u_T} {N : Nat} {As : List Value} {Y : Option (Unit × AM)} {S : Type} {g : S → Option (ρ × AM)} {f : Unit → AM → S ⊕ Option (ρ × AM)} (hY : CT eV G l d2 y bytes maxL rt (Value.ref b :: As) σ Y) (hb : aK σ b = ci + 1) (hcl : clA[ci]? = some (C', T, N)) (hinst : Cond.instanceMethod y ∈ lw_ok) (hnm : y.name = "<init>") (hrt : rt = none) (hlink : Cond.methodLink own index y ∈ lw_ok) (hcode : Cond.code y bytes maxL rt ∈ lw_ok) (hini : Cond.initialized y.cls ∈ lw_ok)
    (hy : y.cls ≠ "java/lang/invoke/MethodHandle" ∧ y.cls ≠ "java/lang/invoke/VarHandle" ∧ (parseMethodDescriptor y.desc).map (fun d => d.parameters.length) = some n) (hn : As.length = n) (hd2 : d2 + 1 ≤ d) (hmx : maxL ≤ 22) {rest : List Value} {st0 : List Value} (hst : st0 = As.reverse ++ Value.ref b :: rest) (hrm : (rest.map fun v => v.category).sum ≤ 8)
    (hd : decode cc pc = .ok (.invokespecial index, 3)) (kk : ∀ (r2 : Unit) (σ2 : AM), VX QF G p l e s m args below meth c d z0 u0 nL (lpK g (f r2 σ2)) (pc + 3) lv (rest) σ2) : VX QF G p l e s m args below meth c d z0 u0 nL (lpK g (bndT Y f)) pc lv st0 σ := x_callI C (en2 := eV) hY hb hcl hinst hnm hrt hlink hcode hini hy hn hd2 hmx hst hrm hd kk
end SR
section RR
variable {G : GX} {p : Program} {l : Launch} {e : Env} {s : State} {m : MethodId} {args : Array Value} {below : List Frame} {meth : Method} {c : Code} {d z0 u0 nL : Nat} {pc : Nat} {lv : List (Nat × Value)} {st : List Value} {σ : AM} {cc : ByteArray} {own : String} {ret : Option FieldType}
theorem x_iret  (C : Cx G p s m args meth c cc nL own (some .int)) {v : Int32}  {S : Type} {g : S → Option (Int32 × AM)} (hd : decode cc pc = .ok (.ireturn, 1)) : VX (QM eI G args s below z0 u0) G p l e s m args below meth c d z0 u0 nL (lpK g (.inr (some (v, σ)))) pc lv ([.int v]) σ := fun r σ' h => by
  have h' : some (v, σ) = some (r, σ') := h
  cases h'
  exact ⟨⟨Nat.le_refl _, Nat.le_refl _⟩, fun H locs ls h1 h2 hR hL hl => W.iret C.1 C.2.1 C.2.2.2.2.2.2.2 (fun t ht hW => ⟨rfl, by rw [ht]; exact hR⟩) (fun q hq => hL q hq) hd C.2.2.2.2.2.2.1⟩
theorem x_zret {rt : FieldType} (C : Cx G p s m args meth c cc nL own (some rt)) {v : Int32} (hz : narrow rt (.int v) = .int v) {S : Type} {g : S → Option (Int32 × AM)} (hd : decode cc pc = .ok (.ireturn, 1)) : VX (QM eI G args s below z0 u0) G p l e s m args below meth c d z0 u0 nL (lpK g (.inr (some (v, σ)))) pc lv ([.int v]) σ := fun r σ' h => by
  have h' : some (v, σ) = some (r, σ') := h
  cases h'
  exact ⟨⟨Nat.le_refl _, Nat.le_refl _⟩, fun H locs ls h1 h2 hR hL hl => W.zret C.1 C.2.1 C.2.2.2.2.2.2.2 hz (fun t ht hW => ⟨rfl, by rw [ht]; exact hR⟩) (fun q hq => hL q hq) hd C.2.2.2.2.2.2.1⟩
theorem x_lret  (C : Cx G p s m args meth c cc nL own (some .long)) {v : Int64}  {S : Type} {g : S → Option (Int64 × AM)} (hd : decode cc pc = .ok (.lreturn, 1)) : VX (QM eJ G args s below z0 u0) G p l e s m args below meth c d z0 u0 nL (lpK g (.inr (some (v, σ)))) pc lv ([.long v]) σ := fun r σ' h => by
  have h' : some (v, σ) = some (r, σ') := h
  cases h'
  exact ⟨⟨Nat.le_refl _, Nat.le_refl _⟩, fun H locs ls h1 h2 hR hL hl => W.lret C.1 C.2.1 C.2.2.2.2.2.2.2 (fun t ht hW => ⟨rfl, by rw [ht]; exact hR⟩) (fun q hq => hL q hq) hd C.2.2.2.2.2.2.1⟩
theorem x_vret  (C : Cx G p s m args meth c cc nL own (none)) {v : Unit}  {S : Type} {g : S → Option (Unit × AM)} (hd : decode cc pc = .ok (.return_, 1)) : VX (QM eV G args s below z0 u0) G p l e s m args below meth c d z0 u0 nL (lpK g (.inr (some (v, σ)))) pc lv ([]) σ := fun r σ' h => by
  have h' : some (v, σ) = some (r, σ') := h
  cases h'
  exact ⟨⟨Nat.le_refl _, Nat.le_refl _⟩, fun H locs ls h1 h2 hR hL hl => W.vret C.1 C.2.1 C.2.2.2.2.2.2.2 (fun t ht hW => ⟨rfl, by rw [ht]; exact hR⟩) (fun q hq => hL q hq) hd C.2.2.2.2.2.2.1⟩
theorem x_aret {rt : FieldType} (hrt : (∃ n, rt = .object n) ∨ ∃ t, rt = .array t) (C : Cx G p s m args meth c cc nL own (some rt)) {v : Nat}  {S : Type} {g : S → Option (Nat × AM)} (hd : decode cc pc = .ok (.areturn, 1)) : VX (QM eR G args s below z0 u0) G p l e s m args below meth c d z0 u0 nL (lpK g (.inr (some (v, σ)))) pc lv ([.ref v]) σ := fun r σ' h => by
  have h' : some (v, σ) = some (r, σ') := h
  cases h'
  exact ⟨⟨Nat.le_refl _, Nat.le_refl _⟩, fun H locs ls h1 h2 hR hL hl => W.aret C.1 C.2.1 C.2.2.2.2.2.2.2 hrt (Or.inr ⟨v, rfl⟩) (fun t ht hW => ⟨rfl, by rw [ht]; exact hR⟩) (fun q hq => hL q hq) hd C.2.2.2.2.2.2.1⟩
end RR
def mw {ρ : Type} (σ : AM) (x : Option (ρ × AM)) : Option (ρ × AM) := x.bind fun q => if aZ σ ≤ aZ q.2 ∧ aU σ ≤ aU q.2 then some q else none
theorem mw_some {ρ : Type} {σ : AM} {x : Option (ρ × AM)} {r : ρ} {σ' : AM} (h : mw σ x = some (r, σ')) : x = some (r, σ') ∧ aZ σ ≤ aZ σ' ∧ aU σ ≤ aU σ' := by
  cases x with
  | none => cases h
  | some q =>
    have h' : (if aZ σ ≤ aZ q.2 ∧ aU σ ≤ aU q.2 then some q else none) = some (r, σ') := h
    split at h'
    · cases h'; exact ⟨rfl, by assumption⟩
    · cases h'
theorem mw_of {ρ : Type} {σ : AM} {r : ρ} {σ' : AM} (h1 : aZ σ ≤ aZ σ') (h2 : aU σ ≤ aU σ') : mw σ (some (r, σ')) = some (r, σ') := if_pos ⟨h1, h2⟩
/-- a method's contract out of its walk -/
theorem ct_of {ρ : Type} {enc : ρ → Option Value} {G : GX} {l : Launch} {d : Nat} {y : MethodName} {cc : ByteArray} {nL : Nat} {ret : Option FieldType} {As : List Value} {σ : AM} {X : Option (ρ × AM)} (hy : plainName y.cls = true) (hlen : (lg_sl As).length ≤ nL)
    (h : ∀ (p : Program) (e : Env) (s : State) (m : MethodId) (args : Array Value) (below : List Frame) (meth : Method) (c : Code), Cx G p s m args meth c cc nL y.cls ret → meth.name = y.name → VX (QM enc G args s below (aZ σ) (aU σ)) G p l e s m args below meth c d (aZ σ) (aU σ) nL X 0 (lv_args 0 As) [] σ) : CT enc G l d y cc nL ret As σ (mw σ X) := by
  intro r σ' hX0
  obtain ⟨hX, hmono⟩ := mw_some hX0
  constructor
  · exact hmono
  · refine Met.ofW (cc := cc) (maxL := nL) (ret := ret) hy rfl ?_
    intro p e s m args below meth c s₁ B hml hv
    obtain ⟨rfl, hR, hK⟩ := hv
    have hts := atoms_spec (ws := .code y cc nL ret :: lw_ok) B.pre
    have hown : s.vm.findClass y.cls = some m.cls := findClass_of_methodNamed B.named
    have C : Cx G p s m As.toArray meth c cc nL y.cls ret := ⟨B.exec, B.bytes, hml, hown, fun w hw => hts w (List.mem_cons_of_mem _ hw), hK, B.notSynchronized, B.returns⟩
    have k := (h p e s m As.toArray below meth c C (name_of_methodNamed B.named B.method).1 r σ' hX).2
    have hl := lv_entry As (n := nL) hlen
    rw [lg_entry_eq]
    have kq := k s.heap [] _ (Nat.le_refl _) (Nat.le_refl _) hR (fun q hq => absurd hq List.not_mem_nil) hl
    rw [Nat.sub_self, Nat.sub_self] at kq
    exact kq
