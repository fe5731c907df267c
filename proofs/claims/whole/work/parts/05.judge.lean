abbrev tysA (cy : Nat → ClassId) : List (ClassId × FieldType) := [(cy 1, .int), (cy 2, .long), (cy 3, .boolean), (cy 4, .char), (cy 5, .byte)]
def fV (ci : Nat) (σ : AM) (q k : Nat) : Value := if ftk ci k = 0 then .int (aI σ q k) else if ftk ci k = 1 then .long (aL σ q k) else refV (aR σ q k)
def aV (t : Nat) (σ : AM) (q j : Nat) : Value := if t = 2 then .long (aL σ q j) else .int (aI σ q j)
def CE (D : va_G) (cy : Nat → ClassId) (σ : AM) (H : Heap) (q : Nat) : Prop :=
  (∀ (ci : Nat) (r : vw_C), aK σ q = ci + 1 → clA[ci]? = some r → t_OB q (D.1 ci) r.2.2 (D.2 ci) H (fV ci σ q)) ∧ ∀ t : Nat, aK σ q = 100 + t → H[q]? = some (arrV (cy t) (aN σ q) (aV t σ q))
/-- what is fixed for a launch: where the classes stand, the arrays' classes, the first new cell, the heap at the law's start -/
abbrev GX : Type := (va_G × (Nat → ClassId)) × Nat × Heap × (Nat → Nat)
def RP (G : GX) (σ : AM) (H : Heap) : Prop :=
  0 < G.2.1 ∧ H.size = aZ σ ∧ G.2.1 ≤ aZ σ ∧ (∀ q, q < G.2.1 → H[q]? = G.2.2.1[q]?) ∧ (∀ q, aK σ q ≠ 0 → G.2.1 ≤ q ∧ q < aZ σ) ∧ ∀ q, CE G.1.1 G.1.2 σ H q
/-- the static tables that nobody writes, where they stand at the law's start -/
def tbWORDS : Nat → Int64 := fun j => match j with
  | 0 => 499967946343
  | 1 => 1836020596
  | 2 => 6447474
  | 3 => 418430873463
  | 4 => 1668248436
  | 5 => 7237492
  | 6 => 6385252
  | 7 => 28530
  | 8 => 7566701
  | _ => 1936292453
def tbWITHOUT : Nat → Int64 := fun j => match j with
  | 0 => 6148914691236517205
  | 1 => 3689348814741910323
  | 2 => 1085102592571150095
  | 3 => 71777214294589695
  | 4 => 281470681808895
  | _ => 4294967295
def tbOF_SIZE : Nat → Int64 := fun j => match j with
  | 0 => 1
  | 1 => 4295033110
  | 2 => 282668995843688
  | 3 => 78274679833913472
  | 4 => 1614655367130677248
  | 5 => 7530159316599308288
  | _ => (-9223372036854775808)
def tbFACTORIALS : Nat → Int32 := fun j => match j with
  | 0 => 1
  | 1 => 1
  | 2 => 2
  | 3 => 6
  | 4 => 24
  | 5 => 120
  | _ => 720
def tbSIGNS : Nat → Int32 := fun j => [40, 41, 60, 61, 43, 45, 42, 59].getD j 0
/-- the text constant of the reader: its cell, its bytes' cell -/
def TX (G : GX) (U : State) : Prop := vk_R "BellPlate$Reader" 95 "()<=+-*;" (G.2.2.2 4) U ∧ vk_S 1 [8] [[40, 41, 60, 61, 43, 45, 42, 59]] (fun _ => G.2.2.2 4) (fun _ => G.2.2.2 5) (fun q => G.2.1 ≤ q) U G.2.2.1 ∧ va_Z "java/lang/String" "COMPACT_STRINGS" "Z" (.int 1) (fun q => G.2.1 ≤ q) U G.2.2.1
theorem TX.moved {G : GX} {u U : State} (hW : u.WarmedH U.vm) (h : TX G u) : TX G U := ⟨h.1.warm hW, h.2.1.moved hW.alike, h.2.2.moved hW.alike⟩
theorem TX.same {G : GX} {u U : State} (hv : U.vm = u.vm) (h : TX G u) : TX G U := ⟨h.1.same hv, h.2.1.moved (by rw [hv]; exact Vm.Alike.refl _), h.2.2.moved (by rw [hv]; exact Vm.Alike.refl _)⟩
def ST (G : GX) (U : State) : Prop :=
  (va_Z "BellPlate$Reader" "WORDS" "[J" (.ref (G.2.2.2 0)) (fun q => G.2.1 ≤ q) U G.2.2.1 ∧ va_T .long (G.2.2.2 0) 10 (fun j => .long (tbWORDS j)) (fun q => G.2.1 ≤ q) U G.2.2.1) ∧
  (va_Z "BellPlate$Sets" "WITHOUT" "[J" (.ref (G.2.2.2 1)) (fun q => G.2.1 ≤ q) U G.2.2.1 ∧ va_T .long (G.2.2.2 1) 6 (fun j => .long (tbWITHOUT j)) (fun q => G.2.1 ≤ q) U G.2.2.1) ∧
  (va_Z "BellPlate$Sets" "OF_SIZE" "[J" (.ref (G.2.2.2 2)) (fun q => G.2.1 ≤ q) U G.2.2.1 ∧ va_T .long (G.2.2.2 2) 7 (fun j => .long (tbOF_SIZE j)) (fun q => G.2.1 ≤ q) U G.2.2.1) ∧
  (va_Z "BellPlate$Power" "FACTORIALS" "[I" (.ref (G.2.2.2 3)) (fun q => G.2.1 ≤ q) U G.2.2.1 ∧ va_T .int (G.2.2.2 3) 7 (fun j => .int (tbFACTORIALS j)) (fun q => G.2.1 ≤ q) U G.2.2.1)
theorem ST.moved {G : GX} {u U : State} (hvm : u.vm.Alike U.vm) (h : ST G u) : ST G U := by
  obtain ⟨⟨a1, a2⟩, ⟨b1, b2⟩, ⟨c1, c2⟩, d1, d2⟩ := h
  exact ⟨⟨a1.moved hvm, a2.moved hvm⟩, ⟨b1.moved hvm, b2.moved hvm⟩, ⟨c1.moved hvm, c2.moved hvm⟩, d1.moved hvm, d2.moved hvm⟩
/-- more that a launch fixes (the text constant that is searched), to be filled by the part on texts -/
def KK (G : GX) (U : State) : Prop := va_K G.1.1 clA (tysA G.1.2) U ∧ ST G U ∧ TX G U
theorem KK.moved {G : GX} {u U : State} (hW : u.WarmedH U.vm) (h : KK G u) : KK G U := ⟨va_K.moved hW.alike h.1, h.2.1.moved hW.alike, h.2.2.moved hW⟩
theorem KK.call {G : GX} {U : State} {g : JFrame} {mk : MethodId} {a : Array Value} (h : KK G U) : KK G (U.calling g mk a) := ⟨va_K.moved (u := U) (U := U.calling g mk a) (Vm.Alike.refl U.vm) h.1, h.2.1.moved (Vm.Alike.refl U.vm), h.2.2.same rfl⟩
def RM (d z0 u0 : Nat) (σ' : AM) : Room := { frames := d, cells := aZ σ' - z0, slots := aU σ' - u0, locals := 41 * d }
def QC {ρ : Type} (enc : ρ → Option Value) (G : GX) (r : ρ) (σ' : AM) : Array Value → State → Outcome → State → Prop := fun _ _ o t => o = .returned (enc r) ∧ RP G σ' t.heap
def Cx (G : GX) (p : Program) (s : State) (m : MethodId) (args : Array Value) (meth : Method) (c : Code) (cc : ByteArray) (nL : Nat) (own : String) (ret : Option FieldType) : Prop :=
  p.tables.exec = Jvm.exec ∧ c.code = cc ∧ c.maxLocals = nL ∧ s.vm.findClass own = some m.cls ∧ (∀ w ∈ lw_ok, w.before args s = true) ∧ KK G s ∧ meth.locks = false ∧ meth.sig.returnType = ret
def QM {ρ : Type} (enc : ρ → Option Value) (G : GX) (args : Array Value) (s : State) (below : List Frame) (z0 u0 : Nat) (r : ρ) (σ' : AM) : State → Prop := MQ below (QC enc G r σ') args s (aZ σ' - z0) (aU σ' - u0) (fun q => G.2.1 ≤ q)
def VX {ρ : Type} (QF : ρ → AM → State → Prop) (G : GX) (p : Program) (l : Launch) (e : Env) (s : State) (m : MethodId) (args : Array Value) (below : List Frame) (meth : Method) (c : Code) (d z0 u0 nL : Nat) (X : Option (ρ × AM)) (pc : Nat) (lv : List (Nat × Value)) (st : List Value) (σ : AM) : Prop :=
  ∀ (r : ρ) (σ' : AM), X = some (r, σ') → (aZ σ ≤ aZ σ' ∧ aU σ ≤ aU σ') ∧ ∀ (H : Heap) (locs : List Loc) (ls : Array Slot), z0 ≤ aZ σ → u0 ≤ aU σ → RP G σ H → (∀ q ∈ locs, G.2.1 ≤ q.base) → lv_has ls nL lv →
    W p l e (RM d z0 u0 σ') s m args below meth c H locs (aZ σ - z0) (aU σ - u0) (QF r σ') (F0 m pc ls st)
/-- a method's contract: where the pure function answers, the method answers so; at most d calls lie within -/
def CT {ρ : Type} (enc : ρ → Option Value) (G : GX) (l : Launch) (d : Nat) (y : MethodName) (cc : ByteArray) (nL : Nat) (ret : Option FieldType) (As : List Value) (σ : AM) (X : Option (ρ × AM)) : Prop :=
  ∀ (r : ρ) (σ' : AM), X = some (r, σ') → (aZ σ ≤ aZ σ' ∧ aU σ ≤ aU σ') ∧ Met l y (.code y cc nL ret :: lw_ok) (RM d (aZ σ) (aU σ) σ') (va_Pc As (fun U => RP G σ U.heap ∧ KK G U)) (QC enc G r σ') (aZ σ' - aZ σ) (aU σ' - aU σ) (fun q => G.2.1 ≤ q)

section JR
variable {ρ : Type} {QF : ρ → AM → State → Prop} {G : GX} {p : Program} {l : Launch} {e : Env} {s : State} {m : MethodId} {args : Array Value} {below : List Frame} {meth : Method} {c : Code} {d z0 u0 nL : Nat} {X : Option (ρ × AM)} {pc : Nat} {lv : List (Nat × Value)} {st : List Value} {σ : AM} {cc : ByteArray} {own : String} {ret : Option FieldType}
theorem x_of {X' : Option (ρ × AM)} (h : X = X') (k : VX QF G p l e s m args below meth c d z0 u0 nL X' pc lv st σ) : VX QF G p l e s m args below meth c d z0 u0 nL X pc lv st σ := h ▸ k
theorem x_chk {P : Prop} [Decidable P] {X' : Option (ρ × AM)} (k : P → VX QF G p l e s m args below meth c d z0 u0 nL X' pc lv st σ) : VX QF G p l e s m args below meth c d z0 u0 nL (if P then X' else none) pc lv st σ := by
  intro r σ' h
  by_cases hp : P
  · rw [if_pos hp] at h; exact k hp r σ' h
  · rw [if_neg hp] at h; cases h
theorem x_none : VX QF G p l e s m args below meth c d z0 u0 nL none pc lv st σ := by
  intro r σ' h; cases h
theorem x_lv {lv' : List (Nat × Value)} (ks : List Nat) (hl : lv_pick lv ks = lv') (k : VX QF G p l e s m args below meth c d z0 u0 nL X pc lv' st σ) : VX QF G p l e s m args below meth c d z0 u0 nL X pc lv st σ := fun r σ' h =>
  ⟨(k r σ' h).1, fun H locs ls h1 h2 hR hL hl' => (k r σ' h).2 H locs ls h1 h2 hR hL (lv_sub hl' ks hl)⟩
theorem x_st {st' : List Value} (h : st = st') (k : VX QF G p l e s m args below meth c d z0 u0 nL X pc lv st' σ) : VX QF G p l e s m args below meth c d z0 u0 nL X pc lv st σ := h ▸ k

theorem x_iconst (C : Cx G p s m args meth c cc nL own ret) {n : Int} {v : Int32} (hd : decode cc pc = .ok (.iconst n, 1)) (hv : Int32.ofInt n = v) (k : VX QF G p l e s m args below meth c d z0 u0 nL X (pc + 1) lv (.int v :: st) σ) : VX QF G p l e s m args below meth c d z0 u0 nL X pc lv (st) σ := fun r σ' h =>
  ⟨(k r σ' h).1, fun H locs ls h1 h2 hR hL hl => lv_iconst C.1 C.2.1 hd hv ((k r σ' h).2 H locs ls h1 h2 hR hL hl)⟩
theorem x_bipush (C : Cx G p s m args meth c cc nL own ret) {n : Int} {v : Int32} (hd : decode cc pc = .ok (.bipush n, 2)) (hv : (Int8.ofInt n).toInt32 = v) (k : VX QF G p l e s m args below meth c d z0 u0 nL X (pc + 2) lv (.int v :: st) σ) : VX QF G p l e s m args below meth c d z0 u0 nL X pc lv (st) σ := fun r σ' h =>
  ⟨(k r σ' h).1, fun H locs ls h1 h2 hR hL hl => lv_bipush C.1 C.2.1 hd hv ((k r σ' h).2 H locs ls h1 h2 hR hL hl)⟩
theorem x_sipush (C : Cx G p s m args meth c cc nL own ret) {n : Int} {v : Int32} (hd : decode cc pc = .ok (.sipush n, 3)) (hv : (Int16.ofInt n).toInt32 = v) (k : VX QF G p l e s m args below meth c d z0 u0 nL X (pc + 3) lv (.int v :: st) σ) : VX QF G p l e s m args below meth c d z0 u0 nL X pc lv (st) σ := fun r σ' h =>
  ⟨(k r σ' h).1, fun H locs ls h1 h2 hR hL hl => lv_sipush C.1 C.2.1 hd hv ((k r σ' h).2 H locs ls h1 h2 hR hL hl)⟩
theorem x_lconst (C : Cx G p s m args meth c cc nL own ret) {n : Fin 2} {v : Int64} (hd : decode cc pc = .ok (.lconst n, 1)) (hv : Int64.ofNat (n : Nat) = v) (k : VX QF G p l e s m args below meth c d z0 u0 nL X (pc + 1) lv (.long v :: st) σ) : VX QF G p l e s m args below meth c d z0 u0 nL X pc lv (st) σ := fun r σ' h =>
  ⟨(k r σ' h).1, fun H locs ls h1 h2 hR hL hl => lv_lconst C.1 C.2.1 hd hv ((k r σ' h).2 H locs ls h1 h2 hR hL hl)⟩
theorem x_ldc (C : Cx G p s m args meth c cc nL own ret) {index : Nat} {v : Int32} (hd : decode cc pc = .ok (.ldc index, 2)) (hw : Jvm.Cond.constant own index v ∈ lw_ok) (k : VX QF G p l e s m args below meth c d z0 u0 nL X (pc + 2) lv (.int v :: st) σ) : VX QF G p l e s m args below meth c d z0 u0 nL X pc lv (st) σ := fun r σ' h =>
  ⟨(k r σ' h).1, fun H locs ls h1 h2 hR hL hl => lv_ldc C.1 C.2.1 C.2.2.2.1 (C.2.2.2.2.1 _ hw) hd ((k r σ' h).2 H locs ls h1 h2 hR hL hl)⟩
theorem x_ldcw (C : Cx G p s m args meth c cc nL own ret) {index : Nat} {v : Int32} (hd : decode cc pc = .ok (.ldc_w index, 3)) (hw : Jvm.Cond.constant own index v ∈ lw_ok) (k : VX QF G p l e s m args below meth c d z0 u0 nL X (pc + 3) lv (.int v :: st) σ) : VX QF G p l e s m args below meth c d z0 u0 nL X pc lv (st) σ := fun r σ' h =>
  ⟨(k r σ' h).1, fun H locs ls h1 h2 hR hL hl => lv_ldcw C.1 C.2.1 C.2.2.2.1 (C.2.2.2.2.1 _ hw) hd ((k r σ' h).2 H locs ls h1 h2 hR hL hl)⟩
theorem x_ldc2 (C : Cx G p s m args meth c cc nL own ret) {index : Nat} {v : Int64} (hd : decode cc pc = .ok (.ldc2_w index, 3)) (hw : Jvm.Cond.constantLong own index v ∈ lw_ok) (k : VX QF G p l e s m args below meth c d z0 u0 nL X (pc + 3) lv (.long v :: st) σ) : VX QF G p l e s m args below meth c d z0 u0 nL X pc lv (st) σ := fun r σ' h =>
  ⟨(k r σ' h).1, fun H locs ls h1 h2 hR hL hl => lv_ldc2 C.1 C.2.1 C.2.2.2.1 (C.2.2.2.2.1 _ hw) hd ((k r σ' h).2 H locs ls h1 h2 hR hL hl)⟩
theorem x_iload_n (C : Cx G p s m args meth c cc nL own ret) {i : Fin 4} {x : Int32} (hd : decode cc pc = .ok (.iload_n i, 1)) (j : Nat) (hj : lv[j]? = some ((i : Nat), .int x)) (k : VX QF G p l e s m args below meth c d z0 u0 nL X (pc + 1) lv (.int x :: st) σ) : VX QF G p l e s m args below meth c d z0 u0 nL X pc lv (st) σ := fun r σ' h =>
  ⟨(k r σ' h).1, fun H locs ls h1 h2 hR hL hl => lv_iload_n C.1 C.2.1 hd rfl (lv_at hl j hj) ((k r σ' h).2 H locs ls h1 h2 hR hL hl)⟩
theorem x_iload (C : Cx G p s m args meth c cc nL own ret) {i : Nat} {x : Int32} (hd : decode cc pc = .ok (.iload i, 2)) (j : Nat) (hj : lv[j]? = some (i, .int x)) (k : VX QF G p l e s m args below meth c d z0 u0 nL X (pc + 2) lv (.int x :: st) σ) : VX QF G p l e s m args below meth c d z0 u0 nL X pc lv (st) σ := fun r σ' h =>
  ⟨(k r σ' h).1, fun H locs ls h1 h2 hR hL hl => lv_iload C.1 C.2.1 hd (lv_at hl j hj) ((k r σ' h).2 H locs ls h1 h2 hR hL hl)⟩
theorem x_lload_n (C : Cx G p s m args meth c cc nL own ret) {i : Fin 4} {x : Int64} (hd : decode cc pc = .ok (.lload_n i, 1)) (j : Nat) (hj : lv[j]? = some ((i : Nat), .long x)) (k : VX QF G p l e s m args below meth c d z0 u0 nL X (pc + 1) lv (.long x :: st) σ) : VX QF G p l e s m args below meth c d z0 u0 nL X pc lv (st) σ := fun r σ' h =>
  ⟨(k r σ' h).1, fun H locs ls h1 h2 hR hL hl => lv_lload_n C.1 C.2.1 hd rfl (lv_at hl j hj) ((k r σ' h).2 H locs ls h1 h2 hR hL hl)⟩
theorem x_lload (C : Cx G p s m args meth c cc nL own ret) {i : Nat} {x : Int64} (hd : decode cc pc = .ok (.lload i, 2)) (j : Nat) (hj : lv[j]? = some (i, .long x)) (k : VX QF G p l e s m args below meth c d z0 u0 nL X (pc + 2) lv (.long x :: st) σ) : VX QF G p l e s m args below meth c d z0 u0 nL X pc lv (st) σ := fun r σ' h =>
  ⟨(k r σ' h).1, fun H locs ls h1 h2 hR hL hl => lv_lload C.1 C.2.1 hd (lv_at hl j hj) ((k r σ' h).2 H locs ls h1 h2 hR hL hl)⟩
theorem x_aload_n (C : Cx G p s m args meth c cc nL own ret) {i : Fin 4} {x : Nat} (hd : decode cc pc = .ok (.aload_n i, 1)) (j : Nat) (hj : lv[j]? = some ((i : Nat), .ref x)) (k : VX QF G p l e s m args below meth c d z0 u0 nL X (pc + 1) lv (.ref x :: st) σ) : VX QF G p l e s m args below meth c d z0 u0 nL X pc lv (st) σ := fun r σ' h =>
  ⟨(k r σ' h).1, fun H locs ls h1 h2 hR hL hl => lv_aload_n C.1 C.2.1 hd rfl (lv_at hl j hj) ((k r σ' h).2 H locs ls h1 h2 hR hL hl)⟩
theorem x_aload (C : Cx G p s m args meth c cc nL own ret) {i : Nat} {x : Nat} (hd : decode cc pc = .ok (.aload i, 2)) (j : Nat) (hj : lv[j]? = some (i, .ref x)) (k : VX QF G p l e s m args below meth c d z0 u0 nL X (pc + 2) lv (.ref x :: st) σ) : VX QF G p l e s m args below meth c d z0 u0 nL X pc lv (st) σ := fun r σ' h =>
  ⟨(k r σ' h).1, fun H locs ls h1 h2 hR hL hl => lv_aload C.1 C.2.1 hd (lv_at hl j hj) ((k r σ' h).2 H locs ls h1 h2 hR hL hl)⟩
theorem x_istore_n (C : Cx G p s m args meth c cc nL own ret) {i : Nat} {j : Fin 4} {x : Int32} {lv' : List (Nat × Value)} (hd : decode cc pc = .ok (.istore_n j, 1)) (hn : i < nL) (hji : (j : Nat) = i) (hv : (i, Value.int x) :: lv.filter (fun q => !(q.1 == i) && !(q.1 + 1 == i && q.2.category == 2)) = lv') (k : VX QF G p l e s m args below meth c d z0 u0 nL X (pc + 1) lv' st σ) : VX QF G p l e s m args below meth c d z0 u0 nL X pc lv (Value.int x :: st) σ := fun r σ' h =>
  ⟨(k r σ' h).1, fun H locs ls h1 h2 hR hL hl => lv_istore_n C.1 C.2.1 hd hji hl hn hv (fun ls hl => (k r σ' h).2 H locs ls h1 h2 hR hL hl)⟩
theorem x_istore (C : Cx G p s m args meth c cc nL own ret) {i : Nat} {x : Int32} {lv' : List (Nat × Value)} (hd : decode cc pc = .ok (.istore i, 2)) (hn : i < nL) (hv : (i, Value.int x) :: lv.filter (fun q => !(q.1 == i) && !(q.1 + 1 == i && q.2.category == 2)) = lv') (k : VX QF G p l e s m args below meth c d z0 u0 nL X (pc + 2) lv' st σ) : VX QF G p l e s m args below meth c d z0 u0 nL X pc lv (Value.int x :: st) σ := fun r σ' h =>
  ⟨(k r σ' h).1, fun H locs ls h1 h2 hR hL hl => lv_istore C.1 C.2.1 hd hl hn hv (fun ls hl => (k r σ' h).2 H locs ls h1 h2 hR hL hl)⟩
theorem x_lstore_n (C : Cx G p s m args meth c cc nL own ret) {i : Nat} {j : Fin 4} {x : Int64} {lv' : List (Nat × Value)} (hd : decode cc pc = .ok (.lstore_n j, 1)) (hn : i + 1 < nL) (hji : (j : Nat) = i) (hv : (i, Value.long x) :: lv.filter (fun q => !(q.1 == i) && (!(q.1 == i + 1) && !(q.1 + 1 == i && q.2.category == 2))) = lv') (k : VX QF G p l e s m args below meth c d z0 u0 nL X (pc + 1) lv' st σ) : VX QF G p l e s m args below meth c d z0 u0 nL X pc lv (Value.long x :: st) σ := fun r σ' h =>
  ⟨(k r σ' h).1, fun H locs ls h1 h2 hR hL hl => lv_lstore_n C.1 C.2.1 hd hji hl hn hv (fun ls hl => (k r σ' h).2 H locs ls h1 h2 hR hL hl)⟩
theorem x_lstore (C : Cx G p s m args meth c cc nL own ret) {i : Nat} {x : Int64} {lv' : List (Nat × Value)} (hd : decode cc pc = .ok (.lstore i, 2)) (hn : i + 1 < nL) (hv : (i, Value.long x) :: lv.filter (fun q => !(q.1 == i) && (!(q.1 == i + 1) && !(q.1 + 1 == i && q.2.category == 2))) = lv') (k : VX QF G p l e s m args below meth c d z0 u0 nL X (pc + 2) lv' st σ) : VX QF G p l e s m args below meth c d z0 u0 nL X pc lv (Value.long x :: st) σ := fun r σ' h =>
  ⟨(k r σ' h).1, fun H locs ls h1 h2 hR hL hl => lv_lstore C.1 C.2.1 hd hl hn hv (fun ls hl => (k r σ' h).2 H locs ls h1 h2 hR hL hl)⟩
theorem x_astore_n (C : Cx G p s m args meth c cc nL own ret) {i : Nat} {j : Fin 4} {x : Nat} {lv' : List (Nat × Value)} (hd : decode cc pc = .ok (.astore_n j, 1)) (hn : i < nL) (hji : (j : Nat) = i) (hv : (i, Value.ref x) :: lv.filter (fun q => !(q.1 == i) && !(q.1 + 1 == i && q.2.category == 2)) = lv') (k : VX QF G p l e s m args below meth c d z0 u0 nL X (pc + 1) lv' st σ) : VX QF G p l e s m args below meth c d z0 u0 nL X pc lv (Value.ref x :: st) σ := fun r σ' h =>
  ⟨(k r σ' h).1, fun H locs ls h1 h2 hR hL hl => lv_astore_n C.1 C.2.1 hd hji hl hn hv (fun ls hl => (k r σ' h).2 H locs ls h1 h2 hR hL hl)⟩
theorem x_astore (C : Cx G p s m args meth c cc nL own ret) {i : Nat} {x : Nat} {lv' : List (Nat × Value)} (hd : decode cc pc = .ok (.astore i, 2)) (hn : i < nL) (hv : (i, Value.ref x) :: lv.filter (fun q => !(q.1 == i) && !(q.1 + 1 == i && q.2.category == 2)) = lv') (k : VX QF G p l e s m args below meth c d z0 u0 nL X (pc + 2) lv' st σ) : VX QF G p l e s m args below meth c d z0 u0 nL X pc lv (Value.ref x :: st) σ := fun r σ' h =>
  ⟨(k r σ' h).1, fun H locs ls h1 h2 hR hL hl => lv_astore C.1 C.2.1 hd hl hn hv (fun ls hl => (k r σ' h).2 H locs ls h1 h2 hR hL hl)⟩
theorem x_iinc (C : Cx G p s m args meth c cc nL own ret) {i : Nat} {n : Int} {x v : Int32} {lv' : List (Nat × Value)} (hd : decode cc pc = .ok (.iinc i n, 3)) (j : Nat) (hj : lv[j]? = some (i, .int x)) (hx : x + Int32.ofInt n = v) (hn : i < nL) (hv : (i, Value.int v) :: lv.filter (fun q => !(q.1 == i) && !(q.1 + 1 == i && q.2.category == 2)) = lv') (k : VX QF G p l e s m args below meth c d z0 u0 nL X (pc + 3) lv' st σ) : VX QF G p l e s m args below meth c d z0 u0 nL X pc lv st σ := fun r σ' h =>
  ⟨(k r σ' h).1, fun H locs ls h1 h2 hR hL hl => lv_iinc C.1 C.2.1 hd hl hj hx hn hv (fun ls hl => (k r σ' h).2 H locs ls h1 h2 hR hL hl)⟩
theorem x_iadd (C : Cx G p s m args meth c cc nL own ret) {x y : Int32} (hd : decode cc pc = .ok (.iadd, 1))  (k : VX QF G p l e s m args below meth c d z0 u0 nL X (pc + 1) lv (.int (x + y) :: st) σ) : VX QF G p l e s m args below meth c d z0 u0 nL X pc lv (.int y :: .int x :: st) σ := fun r σ' h =>
  ⟨(k r σ' h).1, fun H locs ls h1 h2 hR hL hl => lv_iadd C.1 C.2.1 hd ((k r σ' h).2 H locs ls h1 h2 hR hL hl)⟩
theorem x_isub (C : Cx G p s m args meth c cc nL own ret) {x y : Int32} (hd : decode cc pc = .ok (.isub, 1))  (k : VX QF G p l e s m args below meth c d z0 u0 nL X (pc + 1) lv (.int (x - y) :: st) σ) : VX QF G p l e s m args below meth c d z0 u0 nL X pc lv (.int y :: .int x :: st) σ := fun r σ' h =>
  ⟨(k r σ' h).1, fun H locs ls h1 h2 hR hL hl => lv_isub C.1 C.2.1 hd ((k r σ' h).2 H locs ls h1 h2 hR hL hl)⟩
theorem x_imul (C : Cx G p s m args meth c cc nL own ret) {x y : Int32} (hd : decode cc pc = .ok (.imul, 1))  (k : VX QF G p l e s m args below meth c d z0 u0 nL X (pc + 1) lv (.int (x * y) :: st) σ) : VX QF G p l e s m args below meth c d z0 u0 nL X pc lv (.int y :: .int x :: st) σ := fun r σ' h =>
  ⟨(k r σ' h).1, fun H locs ls h1 h2 hR hL hl => lv_imul C.1 C.2.1 hd ((k r σ' h).2 H locs ls h1 h2 hR hL hl)⟩
theorem x_iand (C : Cx G p s m args meth c cc nL own ret) {x y : Int32} (hd : decode cc pc = .ok (.iand, 1))  (k : VX QF G p l e s m args below meth c d z0 u0 nL X (pc + 1) lv (.int (x &&& y) :: st) σ) : VX QF G p l e s m args below meth c d z0 u0 nL X pc lv (.int y :: .int x :: st) σ := fun r σ' h =>
  ⟨(k r σ' h).1, fun H locs ls h1 h2 hR hL hl => lv_iand C.1 C.2.1 hd ((k r σ' h).2 H locs ls h1 h2 hR hL hl)⟩
theorem x_ior (C : Cx G p s m args meth c cc nL own ret) {x y : Int32} (hd : decode cc pc = .ok (.ior, 1))  (k : VX QF G p l e s m args below meth c d z0 u0 nL X (pc + 1) lv (.int (x ||| y) :: st) σ) : VX QF G p l e s m args below meth c d z0 u0 nL X pc lv (.int y :: .int x :: st) σ := fun r σ' h =>
  ⟨(k r σ' h).1, fun H locs ls h1 h2 hR hL hl => lv_ior C.1 C.2.1 hd ((k r σ' h).2 H locs ls h1 h2 hR hL hl)⟩
theorem x_ixor (C : Cx G p s m args meth c cc nL own ret) {x y : Int32} (hd : decode cc pc = .ok (.ixor, 1))  (k : VX QF G p l e s m args below meth c d z0 u0 nL X (pc + 1) lv (.int (x ^^^ y) :: st) σ) : VX QF G p l e s m args below meth c d z0 u0 nL X pc lv (.int y :: .int x :: st) σ := fun r σ' h =>
  ⟨(k r σ' h).1, fun H locs ls h1 h2 hR hL hl => lv_ixor C.1 C.2.1 hd ((k r σ' h).2 H locs ls h1 h2 hR hL hl)⟩
theorem x_ishl (C : Cx G p s m args meth c cc nL own ret) {x y : Int32} (hd : decode cc pc = .ok (.ishl, 1))  (k : VX QF G p l e s m args below meth c d z0 u0 nL X (pc + 1) lv (.int (x <<< (y &&& 31)) :: st) σ) : VX QF G p l e s m args below meth c d z0 u0 nL X pc lv (.int y :: .int x :: st) σ := fun r σ' h =>
  ⟨(k r σ' h).1, fun H locs ls h1 h2 hR hL hl => lv_ishl C.1 C.2.1 hd ((k r σ' h).2 H locs ls h1 h2 hR hL hl)⟩
theorem x_ishr (C : Cx G p s m args meth c cc nL own ret) {x y : Int32} (hd : decode cc pc = .ok (.ishr, 1))  (k : VX QF G p l e s m args below meth c d z0 u0 nL X (pc + 1) lv (.int (x >>> (y &&& 31)) :: st) σ) : VX QF G p l e s m args below meth c d z0 u0 nL X pc lv (.int y :: .int x :: st) σ := fun r σ' h =>
  ⟨(k r σ' h).1, fun H locs ls h1 h2 hR hL hl => lv_ishr C.1 C.2.1 hd ((k r σ' h).2 H locs ls h1 h2 hR hL hl)⟩
theorem x_ladd (C : Cx G p s m args meth c cc nL own ret) {x y : Int64} (hd : decode cc pc = .ok (.ladd, 1))  (k : VX QF G p l e s m args below meth c d z0 u0 nL X (pc + 1) lv (.long (x + y) :: st) σ) : VX QF G p l e s m args below meth c d z0 u0 nL X pc lv (.long y :: .long x :: st) σ := fun r σ' h =>
  ⟨(k r σ' h).1, fun H locs ls h1 h2 hR hL hl => lv_ladd C.1 C.2.1 hd ((k r σ' h).2 H locs ls h1 h2 hR hL hl)⟩
theorem x_lsub (C : Cx G p s m args meth c cc nL own ret) {x y : Int64} (hd : decode cc pc = .ok (.lsub, 1))  (k : VX QF G p l e s m args below meth c d z0 u0 nL X (pc + 1) lv (.long (x - y) :: st) σ) : VX QF G p l e s m args below meth c d z0 u0 nL X pc lv (.long y :: .long x :: st) σ := fun r σ' h =>
  ⟨(k r σ' h).1, fun H locs ls h1 h2 hR hL hl => lv_lsub C.1 C.2.1 hd ((k r σ' h).2 H locs ls h1 h2 hR hL hl)⟩
theorem x_lmul (C : Cx G p s m args meth c cc nL own ret) {x y : Int64} (hd : decode cc pc = .ok (.lmul, 1))  (k : VX QF G p l e s m args below meth c d z0 u0 nL X (pc + 1) lv (.long (x * y) :: st) σ) : VX QF G p l e s m args below meth c d z0 u0 nL X pc lv (.long y :: .long x :: st) σ := fun r σ' h =>
  ⟨(k r σ' h).1, fun H locs ls h1 h2 hR hL hl => lv_lmul C.1 C.2.1 hd ((k r σ' h).2 H locs ls h1 h2 hR hL hl)⟩
theorem x_land (C : Cx G p s m args meth c cc nL own ret) {x y : Int64} (hd : decode cc pc = .ok (.land, 1))  (k : VX QF G p l e s m args below meth c d z0 u0 nL X (pc + 1) lv (.long (x &&& y) :: st) σ) : VX QF G p l e s m args below meth c d z0 u0 nL X pc lv (.long y :: .long x :: st) σ := fun r σ' h =>
  ⟨(k r σ' h).1, fun H locs ls h1 h2 hR hL hl => lv_land C.1 C.2.1 hd ((k r σ' h).2 H locs ls h1 h2 hR hL hl)⟩
theorem x_lor (C : Cx G p s m args meth c cc nL own ret) {x y : Int64} (hd : decode cc pc = .ok (.lor, 1))  (k : VX QF G p l e s m args below meth c d z0 u0 nL X (pc + 1) lv (.long (x ||| y) :: st) σ) : VX QF G p l e s m args below meth c d z0 u0 nL X pc lv (.long y :: .long x :: st) σ := fun r σ' h =>
  ⟨(k r σ' h).1, fun H locs ls h1 h2 hR hL hl => lv_lor C.1 C.2.1 hd ((k r σ' h).2 H locs ls h1 h2 hR hL hl)⟩
theorem x_lxor (C : Cx G p s m args meth c cc nL own ret) {x y : Int64} (hd : decode cc pc = .ok (.lxor, 1))  (k : VX QF G p l e s m args below meth c d z0 u0 nL X (pc + 1) lv (.long (x ^^^ y) :: st) σ) : VX QF G p l e s m args below meth c d z0 u0 nL X pc lv (.long y :: .long x :: st) σ := fun r σ' h =>
  ⟨(k r σ' h).1, fun H locs ls h1 h2 hR hL hl => lv_lxor C.1 C.2.1 hd ((k r σ' h).2 H locs ls h1 h2 hR hL hl)⟩
theorem x_idiv (C : Cx G p s m args meth c cc nL own ret) {x y : Int32} (hd : decode cc pc = .ok (.idiv, 1)) (hne : ¬ y = 0) (k : VX QF G p l e s m args below meth c d z0 u0 nL X (pc + 1) lv (.int (x / y) :: st) σ) : VX QF G p l e s m args below meth c d z0 u0 nL X pc lv (.int y :: .int x :: st) σ := fun r σ' h =>
  ⟨(k r σ' h).1, fun H locs ls h1 h2 hR hL hl => lv_idiv C.1 C.2.1 hd hne ((k r σ' h).2 H locs ls h1 h2 hR hL hl)⟩
theorem x_irem (C : Cx G p s m args meth c cc nL own ret) {x y : Int32} (hd : decode cc pc = .ok (.irem, 1)) (hne : ¬ y = 0) (k : VX QF G p l e s m args below meth c d z0 u0 nL X (pc + 1) lv (.int (x - x / y * y) :: st) σ) : VX QF G p l e s m args below meth c d z0 u0 nL X pc lv (.int y :: .int x :: st) σ := fun r σ' h =>
  ⟨(k r σ' h).1, fun H locs ls h1 h2 hR hL hl => lv_irem C.1 C.2.1 hd hne ((k r σ' h).2 H locs ls h1 h2 hR hL hl)⟩
theorem x_ldiv (C : Cx G p s m args meth c cc nL own ret) {x y : Int64} (hd : decode cc pc = .ok (.ldiv, 1)) (hne : ¬ y = 0) (k : VX QF G p l e s m args below meth c d z0 u0 nL X (pc + 1) lv (.long (x / y) :: st) σ) : VX QF G p l e s m args below meth c d z0 u0 nL X pc lv (.long y :: .long x :: st) σ := fun r σ' h =>
  ⟨(k r σ' h).1, fun H locs ls h1 h2 hR hL hl => lv_ldiv C.1 C.2.1 hd hne ((k r σ' h).2 H locs ls h1 h2 hR hL hl)⟩
theorem x_lrem (C : Cx G p s m args meth c cc nL own ret) {x y : Int64} (hd : decode cc pc = .ok (.lrem, 1)) (hne : ¬ y = 0) (k : VX QF G p l e s m args below meth c d z0 u0 nL X (pc + 1) lv (.long (x - x / y * y) :: st) σ) : VX QF G p l e s m args below meth c d z0 u0 nL X pc lv (.long y :: .long x :: st) σ := fun r σ' h =>
  ⟨(k r σ' h).1, fun H locs ls h1 h2 hR hL hl => lv_lrem C.1 C.2.1 hd hne ((k r σ' h).2 H locs ls h1 h2 hR hL hl)⟩
theorem x_i2l (C : Cx G p s m args meth c cc nL own ret) {x : Int32} (hd : decode cc pc = .ok (.i2l, 1))  (k : VX QF G p l e s m args below meth c d z0 u0 nL X (pc + 1) lv (.long x.toInt64 :: st) σ) : VX QF G p l e s m args below meth c d z0 u0 nL X pc lv (.int x :: st) σ := fun r σ' h =>
  ⟨(k r σ' h).1, fun H locs ls h1 h2 hR hL hl => lv_i2l C.1 C.2.1 hd rfl ((k r σ' h).2 H locs ls h1 h2 hR hL hl)⟩
theorem x_l2i (C : Cx G p s m args meth c cc nL own ret) {x : Int64} (hd : decode cc pc = .ok (.l2i, 1))  (k : VX QF G p l e s m args below meth c d z0 u0 nL X (pc + 1) lv (.int x.toInt32 :: st) σ) : VX QF G p l e s m args below meth c d z0 u0 nL X pc lv (.long x :: st) σ := fun r σ' h =>
  ⟨(k r σ' h).1, fun H locs ls h1 h2 hR hL hl => lv_l2i C.1 C.2.1 hd rfl ((k r σ' h).2 H locs ls h1 h2 hR hL hl)⟩
theorem x_i2b (C : Cx G p s m args meth c cc nL own ret) {x : Int32} (hd : decode cc pc = .ok (.i2b, 1))  (k : VX QF G p l e s m args below meth c d z0 u0 nL X (pc + 1) lv (.int x.toInt8.toInt32 :: st) σ) : VX QF G p l e s m args below meth c d z0 u0 nL X pc lv (.int x :: st) σ := fun r σ' h =>
  ⟨(k r σ' h).1, fun H locs ls h1 h2 hR hL hl => lv_i2b C.1 C.2.1 hd rfl ((k r σ' h).2 H locs ls h1 h2 hR hL hl)⟩
theorem x_i2c (C : Cx G p s m args meth c cc nL own ret) {x : Int32} (hd : decode cc pc = .ok (.i2c, 1))  (k : VX QF G p l e s m args below meth c d z0 u0 nL X (pc + 1) lv (.int (x.toUInt32 % 65536).toInt32 :: st) σ) : VX QF G p l e s m args below meth c d z0 u0 nL X pc lv (.int x :: st) σ := fun r σ' h =>
  ⟨(k r σ' h).1, fun H locs ls h1 h2 hR hL hl => lv_i2c C.1 C.2.1 hd rfl ((k r σ' h).2 H locs ls h1 h2 hR hL hl)⟩
theorem x_iushr (C : Cx G p s m args meth c cc nL own ret) {x y : Int32} (hd : decode cc pc = .ok (.iushr, 1))  (k : VX QF G p l e s m args below meth c d z0 u0 nL X (pc + 1) lv (.int (x.toUInt32 >>> (y.toUInt32 &&& Int32.toUInt32 31)).toInt32 :: st) σ) : VX QF G p l e s m args below meth c d z0 u0 nL X pc lv (.int y :: .int x :: st) σ := fun r σ' h =>
  ⟨(k r σ' h).1, fun H locs ls h1 h2 hR hL hl => lv_iushr C.1 C.2.1 hd rfl ((k r σ' h).2 H locs ls h1 h2 hR hL hl)⟩
theorem x_lushr (C : Cx G p s m args meth c cc nL own ret) {x : Int64} {y : Int32} (hd : decode cc pc = .ok (.lushr, 1))  (k : VX QF G p l e s m args below meth c d z0 u0 nL X (pc + 1) lv (.long (x.toUInt64 >>> (y.toInt64.toUInt64 &&& Int64.toUInt64 63)).toInt64 :: st) σ) : VX QF G p l e s m args below meth c d z0 u0 nL X pc lv (.int y :: .long x :: st) σ := fun r σ' h =>
  ⟨(k r σ' h).1, fun H locs ls h1 h2 hR hL hl => lv_lushr C.1 C.2.1 hd rfl ((k r σ' h).2 H locs ls h1 h2 hR hL hl)⟩
theorem x_lshl (C : Cx G p s m args meth c cc nL own ret) {x : Int64} {y : Int32} (hd : decode cc pc = .ok (.lshl, 1))  (k : VX QF G p l e s m args below meth c d z0 u0 nL X (pc + 1) lv (.long (x <<< (y.toInt64 &&& 63)) :: st) σ) : VX QF G p l e s m args below meth c d z0 u0 nL X pc lv (.int y :: .long x :: st) σ := fun r σ' h =>
  ⟨(k r σ' h).1, fun H locs ls h1 h2 hR hL hl => lv_lshl C.1 C.2.1 hd rfl ((k r σ' h).2 H locs ls h1 h2 hR hL hl)⟩
theorem x_lshr (C : Cx G p s m args meth c cc nL own ret) {x : Int64} {y : Int32} (hd : decode cc pc = .ok (.lshr, 1))  (k : VX QF G p l e s m args below meth c d z0 u0 nL X (pc + 1) lv (.long (x >>> (y.toInt64 &&& 63)) :: st) σ) : VX QF G p l e s m args below meth c d z0 u0 nL X pc lv (.int y :: .long x :: st) σ := fun r σ' h =>
  ⟨(k r σ' h).1, fun H locs ls h1 h2 hR hL hl => lv_lshr C.1 C.2.1 hd rfl ((k r σ' h).2 H locs ls h1 h2 hR hL hl)⟩
theorem x_lcmp (C : Cx G p s m args meth c cc nL own ret) {x y : Int64} (hd : decode cc pc = .ok (.lcmp, 1))  (k : VX QF G p l e s m args below meth c d z0 u0 nL X (pc + 1) lv (.int (lg_cmp x y) :: st) σ) : VX QF G p l e s m args below meth c d z0 u0 nL X pc lv (.long y :: .long x :: st) σ := fun r σ' h =>
  ⟨(k r σ' h).1, fun H locs ls h1 h2 hR hL hl => W.lcmp C.1 C.2.1 hd ((k r σ' h).2 H locs ls h1 h2 hR hL hl)⟩
theorem x_dup (C : Cx G p s m args meth c cc nL own ret) {v : Value} (hd : decode cc pc = .ok (.dup, 1)) (hc : v.category = 1) (k : VX QF G p l e s m args below meth c d z0 u0 nL X (pc + 1) lv (v :: v :: st) σ) : VX QF G p l e s m args below meth c d z0 u0 nL X pc lv (v :: st) σ := fun r σ' h =>
  ⟨(k r σ' h).1, fun H locs ls h1 h2 hR hL hl => lv_dup C.1 C.2.1 hd hc ((k r σ' h).2 H locs ls h1 h2 hR hL hl)⟩
theorem x_dup2 (C : Cx G p s m args meth c cc nL own ret) {v w : Value} (hd : decode cc pc = .ok (.dup2, 1)) (hc : v.category = 1) (hc2 : w.category = 1) (k : VX QF G p l e s m args below meth c d z0 u0 nL X (pc + 1) lv (v :: w :: v :: w :: st) σ) : VX QF G p l e s m args below meth c d z0 u0 nL X pc lv (v :: w :: st) σ := fun r σ' h =>
  ⟨(k r σ' h).1, fun H locs ls h1 h2 hR hL hl => lv_dup2_11 C.1 C.2.1 hd hc hc2 ((k r σ' h).2 H locs ls h1 h2 hR hL hl)⟩
theorem x_pop (C : Cx G p s m args meth c cc nL own ret) {v : Value} (hd : decode cc pc = .ok (.pop, 1)) (hc : v.category = 1) (k : VX QF G p l e s m args below meth c d z0 u0 nL X (pc + 1) lv (st) σ) : VX QF G p l e s m args below meth c d z0 u0 nL X pc lv (v :: st) σ := fun r σ' h =>
  ⟨(k r σ' h).1, fun H locs ls h1 h2 hR hL hl => lv_pop C.1 C.2.1 hd hc ((k r σ' h).2 H locs ls h1 h2 hR hL hl)⟩
theorem x_goto (C : Cx G p s m args meth c cc nL own ret) {off : Int} {tgt : Nat} (hd : decode cc pc = .ok (.goto off, 3)) (ht : (pc : Int) + off = (tgt : Int)) (k : VX QF G p l e s m args below meth c d z0 u0 nL X tgt lv st σ) : VX QF G p l e s m args below meth c d z0 u0 nL X pc lv st σ := fun r σ' h =>
  ⟨(k r σ' h).1, fun H locs ls h1 h2 hR hL hl => lv_goto C.1 C.2.1 hd ht ((k r σ' h).2 H locs ls h1 h2 hR hL hl)⟩
theorem nl_i {x y : Int32} (h : y ≤ x) : ¬ x < y := Int32.not_lt.mpr h
theorem nl_i' {x y : Int32} (h : ¬ x < y) : y ≤ x := Int32.not_lt.mp h
theorem ne_i {x y : Int32} (h : ¬ x = y) : ¬ x = y := h
theorem ne_i' {x y : Int32} (h : ¬ x = y) : ¬ x = y := h
theorem x_icmp_eq (C : Cx G p s m args meth c cc nL own ret) {x y : Int32} {off : Int} {tgt : Nat} {S : Type} {g : S → Option (ρ × AM)} {A B : S ⊕ Option (ρ × AM)} (hd : decode cc pc = .ok (.if_icmp .eq off, 3)) (ht : (pc : Int) + off = (tgt : Int)) (ka : x = y → VX QF G p l e s m args below meth c d z0 u0 nL (lpK g A) (tgt) lv st σ) (kb : ¬ (x = y) → VX QF G p l e s m args below meth c d z0 u0 nL (lpK g B) (pc + 3) lv st σ) : VX QF G p l e s m args below meth c d z0 u0 nL (lpK g (if x = y then A else B)) pc lv (.int y :: .int x :: st) σ := fun r σ' h => by
  by_cases hc : x = y
  · rw [if_pos hc] at h
    exact ⟨(ka hc r σ' h).1, fun H locs ls h1 h2 hR hL hl => lv_icmp_eq C.1 C.2.1 hd ht (fun _ => (ka hc r σ' h).2 H locs ls h1 h2 hR hL hl) (fun hn => absurd hc hn)⟩
  · rw [if_neg hc] at h
    exact ⟨(kb hc r σ' h).1, fun H locs ls h1 h2 hR hL hl => lv_icmp_eq C.1 C.2.1 hd ht (fun hn => absurd hn hc) (fun _ => (kb hc r σ' h).2 H locs ls h1 h2 hR hL hl)⟩
theorem x_icmp_lt (C : Cx G p s m args meth c cc nL own ret) {x y : Int32} {off : Int} {tgt : Nat} {S : Type} {g : S → Option (ρ × AM)} {A B : S ⊕ Option (ρ × AM)} (hd : decode cc pc = .ok (.if_icmp .lt off, 3)) (ht : (pc : Int) + off = (tgt : Int)) (ka : x < y → VX QF G p l e s m args below meth c d z0 u0 nL (lpK g A) (tgt) lv st σ) (kb : ¬ (x < y) → VX QF G p l e s m args below meth c d z0 u0 nL (lpK g B) (pc + 3) lv st σ) : VX QF G p l e s m args below meth c d z0 u0 nL (lpK g (if x < y then A else B)) pc lv (.int y :: .int x :: st) σ := fun r σ' h => by
  by_cases hc : x < y
  · rw [if_pos hc] at h
    exact ⟨(ka hc r σ' h).1, fun H locs ls h1 h2 hR hL hl => lv_icmp_lt C.1 C.2.1 hd ht (fun _ => (ka hc r σ' h).2 H locs ls h1 h2 hR hL hl) (fun hn => absurd hc hn)⟩
  · rw [if_neg hc] at h
    exact ⟨(kb hc r σ' h).1, fun H locs ls h1 h2 hR hL hl => lv_icmp_lt C.1 C.2.1 hd ht (fun hn => absurd hn hc) (fun _ => (kb hc r σ' h).2 H locs ls h1 h2 hR hL hl)⟩
theorem x_icmp_gt (C : Cx G p s m args meth c cc nL own ret) {x y : Int32} {off : Int} {tgt : Nat} {S : Type} {g : S → Option (ρ × AM)} {A B : S ⊕ Option (ρ × AM)} (hd : decode cc pc = .ok (.if_icmp .gt off, 3)) (ht : (pc : Int) + off = (tgt : Int)) (ka : y < x → VX QF G p l e s m args below meth c d z0 u0 nL (lpK g A) (tgt) lv st σ) (kb : ¬ (y < x) → VX QF G p l e s m args below meth c d z0 u0 nL (lpK g B) (pc + 3) lv st σ) : VX QF G p l e s m args below meth c d z0 u0 nL (lpK g (if y < x then A else B)) pc lv (.int y :: .int x :: st) σ := fun r σ' h => by
  by_cases hc : y < x
  · rw [if_pos hc] at h
    exact ⟨(ka hc r σ' h).1, fun H locs ls h1 h2 hR hL hl => lv_icmp_gt C.1 C.2.1 hd ht (fun _ => (ka hc r σ' h).2 H locs ls h1 h2 hR hL hl) (fun hn => absurd hc hn)⟩
  · rw [if_neg hc] at h
    exact ⟨(kb hc r σ' h).1, fun H locs ls h1 h2 hR hL hl => lv_icmp_gt C.1 C.2.1 hd ht (fun hn => absurd hn hc) (fun _ => (kb hc r σ' h).2 H locs ls h1 h2 hR hL hl)⟩
theorem x_icmp_ne (C : Cx G p s m args meth c cc nL own ret) {x y : Int32} {off : Int} {tgt : Nat} {S : Type} {g : S → Option (ρ × AM)} {A B : S ⊕ Option (ρ × AM)} (hd : decode cc pc = .ok (.if_icmp .ne off, 3)) (ht : (pc : Int) + off = (tgt : Int)) (ka : x = y → VX QF G p l e s m args below meth c d z0 u0 nL (lpK g A) (pc + 3) lv st σ) (kb : ¬ (x = y) → VX QF G p l e s m args below meth c d z0 u0 nL (lpK g B) (tgt) lv st σ) : VX QF G p l e s m args below meth c d z0 u0 nL (lpK g (if x = y then A else B)) pc lv (.int y :: .int x :: st) σ := fun r σ' h => by
  by_cases hc : x = y
  · rw [if_pos hc] at h
    exact ⟨(ka hc r σ' h).1, fun H locs ls h1 h2 hR hL hl => lv_icmp_ne C.1 C.2.1 hd ht (fun hn => absurd hc (ne_i hn)) (fun _ => (ka hc r σ' h).2 H locs ls h1 h2 hR hL hl)⟩
  · rw [if_neg hc] at h
    exact ⟨(kb hc r σ' h).1, fun H locs ls h1 h2 hR hL hl => lv_icmp_ne C.1 C.2.1 hd ht (fun _ => (kb hc r σ' h).2 H locs ls h1 h2 hR hL hl) (fun hn => absurd hn hc)⟩
theorem x_icmp_ge (C : Cx G p s m args meth c cc nL own ret) {x y : Int32} {off : Int} {tgt : Nat} {S : Type} {g : S → Option (ρ × AM)} {A B : S ⊕ Option (ρ × AM)} (hd : decode cc pc = .ok (.if_icmp .ge off, 3)) (ht : (pc : Int) + off = (tgt : Int)) (ka : x < y → VX QF G p l e s m args below meth c d z0 u0 nL (lpK g A) (pc + 3) lv st σ) (kb : ¬ (x < y) → VX QF G p l e s m args below meth c d z0 u0 nL (lpK g B) (tgt) lv st σ) : VX QF G p l e s m args below meth c d z0 u0 nL (lpK g (if x < y then A else B)) pc lv (.int y :: .int x :: st) σ := fun r σ' h => by
  by_cases hc : x < y
  · rw [if_pos hc] at h
    exact ⟨(ka hc r σ' h).1, fun H locs ls h1 h2 hR hL hl => lv_icmp_ge C.1 C.2.1 hd ht (fun hn => absurd hc (nl_i hn)) (fun _ => (ka hc r σ' h).2 H locs ls h1 h2 hR hL hl)⟩
  · rw [if_neg hc] at h
    exact ⟨(kb hc r σ' h).1, fun H locs ls h1 h2 hR hL hl => lv_icmp_ge C.1 C.2.1 hd ht (fun _ => (kb hc r σ' h).2 H locs ls h1 h2 hR hL hl) (fun hn => absurd (nl_i' hc) hn)⟩
theorem x_icmp_le (C : Cx G p s m args meth c cc nL own ret) {x y : Int32} {off : Int} {tgt : Nat} {S : Type} {g : S → Option (ρ × AM)} {A B : S ⊕ Option (ρ × AM)} (hd : decode cc pc = .ok (.if_icmp .le off, 3)) (ht : (pc : Int) + off = (tgt : Int)) (ka : y < x → VX QF G p l e s m args below meth c d z0 u0 nL (lpK g A) (pc + 3) lv st σ) (kb : ¬ (y < x) → VX QF G p l e s m args below meth c d z0 u0 nL (lpK g B) (tgt) lv st σ) : VX QF G p l e s m args below meth c d z0 u0 nL (lpK g (if y < x then A else B)) pc lv (.int y :: .int x :: st) σ := fun r σ' h => by
  by_cases hc : y < x
  · rw [if_pos hc] at h
    exact ⟨(ka hc r σ' h).1, fun H locs ls h1 h2 hR hL hl => lv_icmp_le C.1 C.2.1 hd ht (fun hn => absurd hc (nl_i hn)) (fun _ => (ka hc r σ' h).2 H locs ls h1 h2 hR hL hl)⟩
  · rw [if_neg hc] at h
    exact ⟨(kb hc r σ' h).1, fun H locs ls h1 h2 hR hL hl => lv_icmp_le C.1 C.2.1 hd ht (fun _ => (kb hc r σ' h).2 H locs ls h1 h2 hR hL hl) (fun hn => absurd (nl_i' hc) hn)⟩
theorem x_if_eq (C : Cx G p s m args meth c cc nL own ret) {x : Int32} {off : Int} {tgt : Nat} {S : Type} {g : S → Option (ρ × AM)} {A B : S ⊕ Option (ρ × AM)} (hd : decode cc pc = .ok (.ifCond .eq off, 3)) (ht : (pc : Int) + off = (tgt : Int)) (ka : x = 0 → VX QF G p l e s m args below meth c d z0 u0 nL (lpK g A) (tgt) lv st σ) (kb : ¬ (x = 0) → VX QF G p l e s m args below meth c d z0 u0 nL (lpK g B) (pc + 3) lv st σ) : VX QF G p l e s m args below meth c d z0 u0 nL (lpK g (if x = 0 then A else B)) pc lv (.int x :: st) σ := fun r σ' h => by
  by_cases hc : x = 0
  · rw [if_pos hc] at h
    exact ⟨(ka hc r σ' h).1, fun H locs ls h1 h2 hR hL hl => lv_if_eq C.1 C.2.1 hd ht (fun _ => (ka hc r σ' h).2 H locs ls h1 h2 hR hL hl) (fun hn => absurd hc hn)⟩
  · rw [if_neg hc] at h
    exact ⟨(kb hc r σ' h).1, fun H locs ls h1 h2 hR hL hl => lv_if_eq C.1 C.2.1 hd ht (fun hn => absurd hn hc) (fun _ => (kb hc r σ' h).2 H locs ls h1 h2 hR hL hl)⟩
theorem x_if_lt (C : Cx G p s m args meth c cc nL own ret) {x : Int32} {off : Int} {tgt : Nat} {S : Type} {g : S → Option (ρ × AM)} {A B : S ⊕ Option (ρ × AM)} (hd : decode cc pc = .ok (.ifCond .lt off, 3)) (ht : (pc : Int) + off = (tgt : Int)) (ka : x < 0 → VX QF G p l e s m args below meth c d z0 u0 nL (lpK g A) (tgt) lv st σ) (kb : ¬ (x < 0) → VX QF G p l e s m args below meth c d z0 u0 nL (lpK g B) (pc + 3) lv st σ) : VX QF G p l e s m args below meth c d z0 u0 nL (lpK g (if x < 0 then A else B)) pc lv (.int x :: st) σ := fun r σ' h => by
  by_cases hc : x < 0
  · rw [if_pos hc] at h
    exact ⟨(ka hc r σ' h).1, fun H locs ls h1 h2 hR hL hl => lv_if_lt C.1 C.2.1 hd ht (fun _ => (ka hc r σ' h).2 H locs ls h1 h2 hR hL hl) (fun hn => absurd hc hn)⟩
  · rw [if_neg hc] at h
    exact ⟨(kb hc r σ' h).1, fun H locs ls h1 h2 hR hL hl => lv_if_lt C.1 C.2.1 hd ht (fun hn => absurd hn hc) (fun _ => (kb hc r σ' h).2 H locs ls h1 h2 hR hL hl)⟩
theorem x_if_gt (C : Cx G p s m args meth c cc nL own ret) {x : Int32} {off : Int} {tgt : Nat} {S : Type} {g : S → Option (ρ × AM)} {A B : S ⊕ Option (ρ × AM)} (hd : decode cc pc = .ok (.ifCond .gt off, 3)) (ht : (pc : Int) + off = (tgt : Int)) (ka : 0 < x → VX QF G p l e s m args below meth c d z0 u0 nL (lpK g A) (tgt) lv st σ) (kb : ¬ (0 < x) → VX QF G p l e s m args below meth c d z0 u0 nL (lpK g B) (pc + 3) lv st σ) : VX QF G p l e s m args below meth c d z0 u0 nL (lpK g (if 0 < x then A else B)) pc lv (.int x :: st) σ := fun r σ' h => by
  by_cases hc : 0 < x
  · rw [if_pos hc] at h
    exact ⟨(ka hc r σ' h).1, fun H locs ls h1 h2 hR hL hl => lv_if_gt C.1 C.2.1 hd ht (fun _ => (ka hc r σ' h).2 H locs ls h1 h2 hR hL hl) (fun hn => absurd hc hn)⟩
  · rw [if_neg hc] at h
    exact ⟨(kb hc r σ' h).1, fun H locs ls h1 h2 hR hL hl => lv_if_gt C.1 C.2.1 hd ht (fun hn => absurd hn hc) (fun _ => (kb hc r σ' h).2 H locs ls h1 h2 hR hL hl)⟩
theorem x_if_ne (C : Cx G p s m args meth c cc nL own ret) {x : Int32} {off : Int} {tgt : Nat} {S : Type} {g : S → Option (ρ × AM)} {A B : S ⊕ Option (ρ × AM)} (hd : decode cc pc = .ok (.ifCond .ne off, 3)) (ht : (pc : Int) + off = (tgt : Int)) (ka : x = 0 → VX QF G p l e s m args below meth c d z0 u0 nL (lpK g A) (pc + 3) lv st σ) (kb : ¬ (x = 0) → VX QF G p l e s m args below meth c d z0 u0 nL (lpK g B) (tgt) lv st σ) : VX QF G p l e s m args below meth c d z0 u0 nL (lpK g (if x = 0 then A else B)) pc lv (.int x :: st) σ := fun r σ' h => by
  by_cases hc : x = 0
  · rw [if_pos hc] at h
    exact ⟨(ka hc r σ' h).1, fun H locs ls h1 h2 hR hL hl => lv_if_ne C.1 C.2.1 hd ht (fun hn => absurd hc (ne_i hn)) (fun _ => (ka hc r σ' h).2 H locs ls h1 h2 hR hL hl)⟩
  · rw [if_neg hc] at h
    exact ⟨(kb hc r σ' h).1, fun H locs ls h1 h2 hR hL hl => lv_if_ne C.1 C.2.1 hd ht (fun _ => (kb hc r σ' h).2 H locs ls h1 h2 hR hL hl) (fun hn => absurd hn hc)⟩
theorem x_if_ge (C : Cx G p s m args meth c cc nL own ret) {x : Int32} {off : Int} {tgt : Nat} {S : Type} {g : S → Option (ρ × AM)} {A B : S ⊕ Option (ρ × AM)} (hd : decode cc pc = .ok (.ifCond .ge off, 3)) (ht : (pc : Int) + off = (tgt : Int)) (ka : x < 0 → VX QF G p l e s m args below meth c d z0 u0 nL (lpK g A) (pc + 3) lv st σ) (kb : ¬ (x < 0) → VX QF G p l e s m args below meth c d z0 u0 nL (lpK g B) (tgt) lv st σ) : VX QF G p l e s m args below meth c d z0 u0 nL (lpK g (if x < 0 then A else B)) pc lv (.int x :: st) σ := fun r σ' h => by
  by_cases hc : x < 0
  · rw [if_pos hc] at h
    exact ⟨(ka hc r σ' h).1, fun H locs ls h1 h2 hR hL hl => lv_if_ge C.1 C.2.1 hd ht (fun hn => absurd hc (nl_i hn)) (fun _ => (ka hc r σ' h).2 H locs ls h1 h2 hR hL hl)⟩
  · rw [if_neg hc] at h
    exact ⟨(kb hc r σ' h).1, fun H locs ls h1 h2 hR hL hl => lv_if_ge C.1 C.2.1 hd ht (fun _ => (kb hc r σ' h).2 H locs ls h1 h2 hR hL hl) (fun hn => absurd (nl_i' hc) hn)⟩
theorem x_if_le (C : Cx G p s m args meth c cc nL own ret) {x : Int32} {off : Int} {tgt : Nat} {S : Type} {g : S → Option (ρ × AM)} {A B : S ⊕ Option (ρ × AM)} (hd : decode cc pc = .ok (.ifCond .le off, 3)) (ht : (pc : Int) + off = (tgt : Int)) (ka : 0 < x → VX QF G p l e s m args below meth c d z0 u0 nL (lpK g A) (pc + 3) lv st σ) (kb : ¬ (0 < x) → VX QF G p l e s m args below meth c d z0 u0 nL (lpK g B) (tgt) lv st σ) : VX QF G p l e s m args below meth c d z0 u0 nL (lpK g (if 0 < x then A else B)) pc lv (.int x :: st) σ := fun r σ' h => by
  by_cases hc : 0 < x
  · rw [if_pos hc] at h
    exact ⟨(ka hc r σ' h).1, fun H locs ls h1 h2 hR hL hl => lv_if_le C.1 C.2.1 hd ht (fun hn => absurd hc (nl_i hn)) (fun _ => (ka hc r σ' h).2 H locs ls h1 h2 hR hL hl)⟩
  · rw [if_neg hc] at h
    exact ⟨(kb hc r σ' h).1, fun H locs ls h1 h2 hR hL hl => lv_if_le C.1 C.2.1 hd ht (fun _ => (kb hc r σ' h).2 H locs ls h1 h2 hR hL hl) (fun hn => absurd (nl_i' hc) hn)⟩
end JR
