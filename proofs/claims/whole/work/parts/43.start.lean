/-! THE CLAIM OUT OF ONE WALK OF THE LAW'S BODY. Your part is whole_start (and what it stands on); all else here is the same for every law, but numbers. -/
def R_law : String := "BellPlateLaw"
def lw_P (b : Addr) (xs : List Int32) (args : Array Value) (s : State) : Prop := args = #[.ref b] ∧ s.IntsAt b xs ∧ xs.length ≤ 3584 ∧ (Jvm.Cond.and given_1 narrow_1).before args s = true
def lw_Q (_ : Array Value) (s : State) (o : Outcome) (t : State) : Prop := o = .returned (some (.int 1)) ∧ Framed s o t [] 601024 7293033
def lw_Z (below : List Frame) (a : Array Value) (s : State) : State → Prop := fun t => ∃ o, t.status = .running ∧ Ended t below o ∧ lw_Q a s o t
/-- what holds at the law's entry: the machine, the code, the tables' words (any of lw_tbl by 'hts w (by decide +kernel)'), the script of L ints xs at the cell b, what the Statement gives of the start (any of its parts by flat_of_before) -/
def lw_At (p : Program) (s : State) (m : MethodId) (meth : Method) (c : Code) (b L : Nat) (xs : Nat → Int32) : Prop :=
  p.tables.exec = Jvm.exec ∧ c.code = code ∧ meth.sig.returnType = ret ∧ c.maxLocals = 7 ∧ s.vm.findClass R_law = some m.cls ∧ (∀ w ∈ lw_tbl, w.before #[Value.ref b] s = true) ∧ va_X b L xs s s.heap ∧ b < s.heap.size ∧ meth.locks = false ∧ (Jvm.Cond.and given_1 narrow_1).before #[Value.ref b] s = true

/-- the memory before the law's first act -/
def am0 (z : Nat) : AM := (fun _ _ => 0, fun _ _ => 0, fun _ _ => 0, fun _ => 0, fun _ => 0, z, 0)
/-- WHAT IS LEFT TO PROVE, without the machine: on every script of at most 3584 ints the law's function answers 1, within the room -/
def LawPure : Prop := ∀ (L : Nat) (xs : Nat → Int32) (z : Nat), L ≤ 3584 → 0 < z → ∃ σ' : AM, L_Lw_law_0 L xs (am0 z) = some (1, σ') ∧ aZ σ' ≤ z + 601024 ∧ aU σ' ≤ 7293033
theorem st_room {s : State} {pl : Platform} {R R' : Room} (h : s.hasRoom pl R = true) (hf : R'.frames ≤ R.frames) (hl : R'.locals ≤ R.locals) (hc : R'.cells ≤ R.cells) (hs : R'.slots ≤ R.slots) : s.hasRoom pl R' = true := by
  simp only [State.hasRoom, Bool.and_eq_true, decide_eq_true_eq] at h ⊢
  obtain ⟨⟨⟨⟨a1, a2, a3, a4, a5, a6⟩, a7⟩, a8⟩, a9⟩ := h
  exact ⟨⟨⟨⟨Nat.le_trans (by omega) a1, by omega, by omega, by omega, by omega, a6⟩, by omega⟩, by omega⟩, a9⟩
theorem W_room {p : Program} {l : Launch} {e : Env} {R R' : Room} {s : State} {m : MethodId} {args : Array Value} {below : List Frame} {meth : Method} {c : Code} {H : Heap} {locs : List Loc} {cells slots : Nat} {Q Q' : State → Prop} {g : JFrame} (hf : R'.frames ≤ R.frames) (hl : R'.locals ≤ R.locals) (hc : R'.cells ≤ R.cells) (hs : R'.slots ≤ R.slots) (hQ : ∀ t, Q t → Q' t) (k : W p l e R' s m args below meth c H locs cells slots Q g) : W p l e R s m args below meth c H locs cells slots Q' g := fun T hT X => by
  obtain ⟨t, a1, b1⟩ := k T hT { X with room := st_room X.room hf hl hc hs }
  exact ⟨t, a1, hQ t b1⟩
theorem st_arr {args : Array Value} {s : State} {ty : FieldType} (h : (Cond.arrayClass ty).before args s = true) (hno : ∀ C, ty ≠ .object C) : ∃ cA : ClassId, ArrOfT s cA ty ∧ va_RA s cA ty := by
  obtain ⟨c, k, comp, h1, h2, h3⟩ := Cond.arrayClass_spec h
  refine ⟨c, fun n z => ⟨fun k h => (by cases h), k, h2, comp, h3⟩, ?_⟩
  cases ty with
  | object C => exact absurd rfl (hno C)
  | _ => exact h1

theorem st_cls {s : State} {args : Array Value} (hts : ∀ w ∈ lw_ok, w.before args s = true) : ∃ (dC : Nat → ClassId) (dI : Nat → Nat → Nat), ∀ (k : Nat) (q : vw_C), clA[k]? = some q → u_Kn s q.1 q.2.1 q.2.2 (dC k) (dI k) := by

  obtain ⟨c0, e0, h0⟩ := u_known (C := R0) (T := T0) (N := 11) (n := 11) hts j0_ok (hts (.instantiable R0 11) w162)
  obtain ⟨c1, e1, h1⟩ := u_known (C := R1) (T := T1) (N := 13) (n := 13) hts j1_ok (hts (.instantiable R1 13) w156)
  obtain ⟨c2, e2, h2⟩ := u_known (C := R2) (T := T2) (N := 13) (n := 13) hts j2_ok (hts (.instantiable R2 13) w247)
  obtain ⟨c3, e3, h3⟩ := u_known (C := R3) (T := T3) (N := 11) (n := 11) hts j3_ok (hts (.instantiable R3 11) w293)
  obtain ⟨c4, e4, h4⟩ := u_known (C := R4) (T := T4) (N := 10) (n := 10) hts j4_ok (hts (.instantiable R4 10) w334)
  obtain ⟨c5, e5, h5⟩ := u_known (C := R5) (T := T5) (N := 19) (n := 19) hts j5_ok (hts (.instantiable R5 19) w371)
  obtain ⟨c6, e6, h6⟩ := u_known (C := R6) (T := T6) (N := 10) (n := 10) hts j6_ok (hts (.instantiable R6 10) w438)
  obtain ⟨c7, e7, h7⟩ := u_known (C := R7) (T := T7) (N := 16) (n := 16) hts j7_ok (hts (.instantiable R7 16) w476)
  obtain ⟨c8, e8, h8⟩ := u_known (C := R8) (T := T8) (N := 15) (n := 15) hts j8_ok (hts (.instantiable R8 15) w531)
  obtain ⟨c9, e9, h9⟩ := u_known (C := R9) (T := T9) (N := 2) (n := 2) hts j9_ok (hts (.instantiable R9 2) w583)
  obtain ⟨c10, e10, h10⟩ := u_known (C := R10) (T := T10) (N := 12) (n := 12) hts j10_ok (hts (.instantiable R10 12) w148)
  obtain ⟨c11, e11, h11⟩ := u_known (C := R11) (T := T11) (N := 76) (n := 76) hts j11_ok (hts (.instantiable R11 76) w1794)
  refine ⟨fun k => if k = 0 then c0 else if k = 1 then c1 else if k = 2 then c2 else if k = 3 then c3 else if k = 4 then c4 else if k = 5 then c5 else if k = 6 then c6 else if k = 7 then c7 else if k = 8 then c8 else if k = 9 then c9 else if k = 10 then c10 else c11, fun k => if k = 0 then e0 else if k = 1 then e1 else if k = 2 then e2 else if k = 3 then e3 else if k = 4 then e4 else if k = 5 then e5 else if k = 6 then e6 else if k = 7 then e7 else if k = 8 then e8 else if k = 9 then e9 else if k = 10 then e10 else e11, ?_⟩
  intro k q hq
  match k, hq with
  | 0, hq => cases hq; exact h0
  | 1, hq => cases hq; exact h1
  | 2, hq => cases hq; exact h2
  | 3, hq => cases hq; exact h3
  | 4, hq => cases hq; exact h4
  | 5, hq => cases hq; exact h5
  | 6, hq => cases hq; exact h6
  | 7, hq => cases hq; exact h7
  | 8, hq => cases hq; exact h8
  | 9, hq => cases hq; exact h9
  | 10, hq => cases hq; exact h10
  | 11, hq => cases hq; exact h11
  | k + 12, hq => simp [clA] at hq
theorem st_t0 {s : State} {args : Array Value} (hts : ∀ w ∈ lw_tbl, w.before args s = true) (hg : ∀ w ∈ flatC (Jvm.Cond.and given_1 narrow_1), w.before args s = true) : ∃ t : Nat, va_Z "BellPlate$Reader" "WORDS" "[J" (.ref t) (fun q => s.heap.size ≤ q) s s.heap ∧ va_T .long t 10 (fun j => .long (tbWORDS j)) (fun q => s.heap.size ≤ q) s s.heap := by
  have hA : ∀ a : Nat, a < s.heap.size → ¬ (fun q => s.heap.size ≤ q) a := fun a ha => Nat.not_le.mpr ha
  obtain ⟨t, h1, h2⟩ := va_Tof (tm := (.static "BellPlate$Reader" "WORDS" "[J")) (ty := .long) (N := 10) (f := fun j => .long (tbWORDS j)) (A := fun q => s.heap.size ≤ q) (args := args) (by decide) (hg _ (by decide +kernel)) (va_eqt (hg _ (by decide +kernel))) (fun j hj => by
    match j, hj with
    | 0, _ => exact va_eqtl (hg _ (by decide +kernel))
    | 1, _ => exact va_eqtl (hg _ (by decide +kernel))
    | 2, _ => exact va_eqtl (hg _ (by decide +kernel))
    | 3, _ => exact va_eqtl (hg _ (by decide +kernel))
    | 4, _ => exact va_eqtl (hg _ (by decide +kernel))
    | 5, _ => exact va_eqtl (hg _ (by decide +kernel))
    | 6, _ => exact va_eqtl (hg _ (by decide +kernel))
    | 7, _ => exact va_eqtl (hg _ (by decide +kernel))
    | 8, _ => exact va_eqtl (hg _ (by decide +kernel))
    | 9, _ => exact va_eqtl (hg _ (by decide +kernel))
    | j + 10, hj => omega) hA
  exact ⟨t, va_Zof (hts _ (tk_3 (List.mem_of_getElem? (l := tables_1_3) (i := 168) (by decide +kernel)))) (hts _ (List.mem_filter.mp w121).1) h1 hA, h2⟩
theorem st_t1 {s : State} {args : Array Value} (hts : ∀ w ∈ lw_tbl, w.before args s = true) (hg : ∀ w ∈ flatC (Jvm.Cond.and given_1 narrow_1), w.before args s = true) : ∃ t : Nat, va_Z "BellPlate$Sets" "WITHOUT" "[J" (.ref t) (fun q => s.heap.size ≤ q) s s.heap ∧ va_T .long t 6 (fun j => .long (tbWITHOUT j)) (fun q => s.heap.size ≤ q) s s.heap := by
  have hA : ∀ a : Nat, a < s.heap.size → ¬ (fun q => s.heap.size ≤ q) a := fun a ha => Nat.not_le.mpr ha
  obtain ⟨t, h1, h2⟩ := va_Tof (tm := (.static "BellPlate$Sets" "WITHOUT" "[J")) (ty := .long) (N := 6) (f := fun j => .long (tbWITHOUT j)) (A := fun q => s.heap.size ≤ q) (args := args) (by decide) (hg _ (by decide +kernel)) (va_eqt (hg _ (by decide +kernel))) (fun j hj => by
    match j, hj with
    | 0, _ => exact va_eqtl (hg _ (by decide +kernel))
    | 1, _ => exact va_eqtl (hg _ (by decide +kernel))
    | 2, _ => exact va_eqtl (hg _ (by decide +kernel))
    | 3, _ => exact va_eqtl (hg _ (by decide +kernel))
    | 4, _ => exact va_eqtl (hg _ (by decide +kernel))
    | 5, _ => exact va_eqtl (hg _ (by decide +kernel))
    | j + 6, hj => omega) hA
  exact ⟨t, va_Zof (hts _ (tk_5 (List.mem_of_getElem? (l := tables_1_5) (i := 53) (by decide +kernel)))) (hts _ (List.mem_filter.mp w141).1) h1 hA, h2⟩
theorem st_t2 {s : State} {args : Array Value} (hts : ∀ w ∈ lw_tbl, w.before args s = true) (hg : ∀ w ∈ flatC (Jvm.Cond.and given_1 narrow_1), w.before args s = true) : ∃ t : Nat, va_Z "BellPlate$Sets" "OF_SIZE" "[J" (.ref t) (fun q => s.heap.size ≤ q) s s.heap ∧ va_T .long t 7 (fun j => .long (tbOF_SIZE j)) (fun q => s.heap.size ≤ q) s s.heap := by
  have hA : ∀ a : Nat, a < s.heap.size → ¬ (fun q => s.heap.size ≤ q) a := fun a ha => Nat.not_le.mpr ha
  obtain ⟨t, h1, h2⟩ := va_Tof (tm := (.static "BellPlate$Sets" "OF_SIZE" "[J")) (ty := .long) (N := 7) (f := fun j => .long (tbOF_SIZE j)) (A := fun q => s.heap.size ≤ q) (args := args) (by decide) (hg _ (by decide +kernel)) (va_eqt (hg _ (by decide +kernel))) (fun j hj => by
    match j, hj with
    | 0, _ => exact va_eqtl (hg _ (by decide +kernel))
    | 1, _ => exact va_eqtl (hg _ (by decide +kernel))
    | 2, _ => exact va_eqtl (hg _ (by decide +kernel))
    | 3, _ => exact va_eqtl (hg _ (by decide +kernel))
    | 4, _ => exact va_eqtl (hg _ (by decide +kernel))
    | 5, _ => exact va_eqtl (hg _ (by decide +kernel))
    | 6, _ => exact va_eqtl (hg _ (by decide +kernel))
    | j + 7, hj => omega) hA
  exact ⟨t, va_Zof (hts _ (tk_4 (List.mem_of_getElem? (l := tables_1_4) (i := 225) (by decide +kernel)))) (hts _ (List.mem_filter.mp w141).1) h1 hA, h2⟩
theorem st_t3 {s : State} {args : Array Value} (hts : ∀ w ∈ lw_tbl, w.before args s = true) (hg : ∀ w ∈ flatC (Jvm.Cond.and given_1 narrow_1), w.before args s = true) : ∃ t : Nat, va_Z "BellPlate$Power" "FACTORIALS" "[I" (.ref t) (fun q => s.heap.size ≤ q) s s.heap ∧ va_T .int t 7 (fun j => .int (tbFACTORIALS j)) (fun q => s.heap.size ≤ q) s s.heap := by
  have hA : ∀ a : Nat, a < s.heap.size → ¬ (fun q => s.heap.size ≤ q) a := fun a ha => Nat.not_le.mpr ha
  obtain ⟨t, h1, h2⟩ := va_Tof (tm := (.static "BellPlate$Power" "FACTORIALS" "[I")) (ty := .int) (N := 7) (f := fun j => .int (tbFACTORIALS j)) (A := fun q => s.heap.size ≤ q) (args := args) (by decide) (hg _ (by decide +kernel)) (va_eqt (hg _ (by decide +kernel))) (fun j hj => by
    match j, hj with
    | 0, _ => exact va_eqt (hg _ (by decide +kernel))
    | 1, _ => exact va_eqt (hg _ (by decide +kernel))
    | 2, _ => exact va_eqt (hg _ (by decide +kernel))
    | 3, _ => exact va_eqt (hg _ (by decide +kernel))
    | 4, _ => exact va_eqt (hg _ (by decide +kernel))
    | 5, _ => exact va_eqt (hg _ (by decide +kernel))
    | 6, _ => exact va_eqt (hg _ (by decide +kernel))
    | j + 7, hj => omega) hA
  exact ⟨t, va_Zof (hts _ (tk_7 (List.mem_of_getElem? (l := tables_1_7) (i := 0) (by decide +kernel)))) (hts _ (List.mem_filter.mp w131).1) h1 hA, h2⟩
theorem st_tx {s : State} {args : Array Value} (hts : ∀ w ∈ lw_tbl, w.before args s = true) (hg : ∀ w ∈ flatC (Jvm.Cond.and given_1 narrow_1), w.before args s = true) : ∃ t v : Nat, vk_R "BellPlate$Reader" 95 "()<=+-*;" t s ∧ vk_S 1 [8] [[40, 41, 60, 61, 43, 45, 42, 59]] (fun _ => t) (fun _ => v) (fun q => s.heap.size ≤ q) s s.heap ∧ va_Z "java/lang/String" "COMPACT_STRINGS" "Z" (.int 1) (fun q => s.heap.size ≤ q) s s.heap := by
  have hA : ∀ a : Nat, a < s.heap.size → ¬ (fun q => s.heap.size ≤ q) a := fun a ha => Nat.not_le.mpr ha
  have hN : ∀ i : Nat, i < 1 → [8].getD i 0 < 2 ^ 31 := fun i hi => by
    obtain rfl : i = 0 := by omega
    decide
  have hle : ∀ i : Nat, i < 1 → (Cond.eq (.length (.field (.string "BellPlate$Reader" 95) "java/lang/String" "value" "[B")) (.int (Int32.ofNat ([8].getD i 0)))).before args s = true := fun i hi => by
    obtain rfl : i = 0 := by omega
    exact hg _ (by decide +kernel)
  have hel : ∀ i : Nat, i < 1 → ∀ j : Nat, j < [8].getD i 0 → (Cond.eq (.elem (.field (.string "BellPlate$Reader" 95) "java/lang/String" "value" "[B") (.int (Int32.ofNat j))) (.int (([[40, 41, 60, 61, 43, 45, 42, 59]].getD i []).getD j 0))).before args s = true := fun i hi j hj => by
    obtain rfl : i = 0 := by omega
    have hj : j < 8 := hj
    match j, hj with
    | 0, _ => exact hg _ (by decide +kernel)
    | 1, _ => exact hg _ (by decide +kernel)
    | 2, _ => exact hg _ (by decide +kernel)
    | 3, _ => exact hg _ (by decide +kernel)
    | 4, _ => exact hg _ (by decide +kernel)
    | 5, _ => exact hg _ (by decide +kernel)
    | 6, _ => exact hg _ (by decide +kernel)
    | 7, _ => exact hg _ (by decide +kernel)
    | j + 8, hj => omega
  obtain ⟨adK, adV, h1, h2⟩ := vk_Sof (args := args) (s := s) (N := 1) (tm := fun _ => .string "BellPlate$Reader" 95) (len := [8]) (byt := [[40, 41, 60, 61, 43, 45, 42, 59]]) (A := fun q => s.heap.size ≤ q) hN (fun i hi => hg _ (by decide +kernel)) (fun i hi => hg _ (by decide +kernel)) (fun i hi => hg _ (by decide +kernel)) hle hel (fun i j hi hj hne => by omega) hA
  refine ⟨adK 0, adV 0, vk_R.of (A := args) (hts _ (tk_3 (List.mem_of_getElem? (l := tables_1_3) (i := 176) (by decide +kernel)))) (h2 0 (by decide)), ⟨fun i hi => ?_, fun i j hi hj _ => by omega⟩, va_Zof (args := args) (hts _ (tk_3 (List.mem_of_getElem? (l := tables_1_3) (i := 190) (by decide +kernel)))) (hts _ (List.mem_filter.mp w135).1) (va_eqi (hg _ (by decide +kernel))) hA⟩
  obtain rfl : i = 0 := by omega
  exact h1.1 0 hi
theorem st_ex {s : State} {args : Array Value} (hts : ∀ w ∈ lw_tbl, w.before args s = true) (hg : ∀ w ∈ flatC (Jvm.Cond.and given_1 narrow_1), w.before args s = true) : ∃ t : Nat, vk_R "BellPlate" 220 "no such run" t s ∧ vx_Zq Bundle.tN "UNASSIGNED_STACK" Bundle.steD (fun q => s.heap.size ≤ q) s s.heap ∧ vx_Zq Bundle.tN "SUPPRESSED_SENTINEL" Bundle.listD (fun q => s.heap.size ≤ q) s s.heap ∧
  (va_Nw (.castable cxN cxN) s ∧ va_Nw (.declares (Bundle.initS "java/lang/RuntimeException")) s ∧ va_Nw (.declares (Bundle.initS "java/lang/Exception")) s ∧ va_Nw (.declares (Bundle.initS Bundle.tN)) s) := by
  have hA : ∀ a : Nat, a < s.heap.size → ¬ (fun q => s.heap.size ≤ q) a := fun a ha => Nat.not_le.mpr ha
  obtain ⟨a, c, cA, kA, q1, q2, q3, q4, q5, q6, -⟩ := Cond.exactly_spec (args := args) (first := s) (o := none) (s := s) (idx := []) (t := .string "BellPlate" 220) (cls := "java/lang/String") (hg _ (by decide +kernel))
  refine ⟨a, vk_R.of (A := args) (hts _ (tk_7 (List.mem_of_getElem? (l := tables_1_7) (i := 186) (by decide +kernel)))) q1, vx_Zqof (args := args) (hts _ (tk_7 (List.mem_of_getElem? (l := tables_1_7) (i := 174) (by decide +kernel)))) (hts _ (List.mem_filter.mp w143).1) (hg _ (by decide +kernel)) hA, vx_Zqof (args := args) (hts _ (tk_7 (List.mem_of_getElem? (l := tables_1_7) (i := 176) (by decide +kernel)))) (hts _ (List.mem_filter.mp w143).1) (hg _ (by decide +kernel)) hA, ?_⟩
  exact ⟨va_Nw.of rfl (A := args) (hts _ (tk_7 (List.mem_of_getElem? (l := tables_1_7) (i := 149) (by decide +kernel)))), va_Nw.of rfl (A := args) (hts _ (tk_7 (List.mem_of_getElem? (l := tables_1_7) (i := 151) (by decide +kernel)))), va_Nw.of rfl (A := args) (hts _ (tk_7 (List.mem_of_getElem? (l := tables_1_7) (i := 153) (by decide +kernel)))), va_Nw.of rfl (A := args) (hts _ (tk_7 (List.mem_of_getElem? (l := tables_1_7) (i := 155) (by decide +kernel))))⟩
set_option maxHeartbeats 4000000 in
theorem whole_start {p : Program} {e : Env} {s : State} {m : MethodId} {below : List Frame} {meth : Method} {c : Code} (l : Launch) (hlt : l.stackTraces = false) (hP : LawPure) {b L : Nat} {xs : Nat → Int32} (hL : L ≤ 3584) (C0 : lw_At p s m meth c b L xs) : W p l e room_1 s m #[Value.ref b] below meth c s.heap [] 0 0 (lw_Z below #[Value.ref b] s) (entryFrame m ([Value.ref b] : List Value).toArray 7) := by
  obtain ⟨hx, hb, hr, hml, hown, hts, hX, hbl, hlocks, hgv⟩ := id C0
  have hg := flat_of_before _ hgv
  have hts' : ∀ w ∈ lw_ok, w.before #[Value.ref b] s = true := fun w hw => hts w (List.mem_filter.mp hw).1
  obtain ⟨dC, dI, hKc⟩ := st_cls hts'
  obtain ⟨a1, ha1⟩ := st_arr (hts' _ w203) (fun C h => by cases h)
  obtain ⟨a2, ha2⟩ := st_arr (hts' _ w202) (fun C h => by cases h)
  obtain ⟨a3, ha3⟩ := st_arr (hts' _ w332) (fun C h => by cases h)
  obtain ⟨a4, ha4⟩ := st_arr (hts' _ w201) (fun C h => by cases h)
  obtain ⟨a5, ha5⟩ := st_arr (hts' _ w474) (fun C h => by cases h)
  obtain ⟨t0, z0, y0⟩ := st_t0 hts hg
  obtain ⟨t1, z1, y1⟩ := st_t1 hts hg
  obtain ⟨t2, z2, y2⟩ := st_t2 hts hg
  obtain ⟨t3, z3, y3⟩ := st_t3 hts hg
  obtain ⟨t4, t5, x1, x2, x3⟩ := st_tx hts hg
  obtain ⟨t6, x4⟩ := st_ex hts hg
  obtain ⟨G, hG⟩ : ∃ G : GX, G = (((dC, dI), fun k => if k = 1 then a1 else if k = 2 then a2 else if k = 3 then a3 else if k = 4 then a4 else a5), s.heap.size, s.heap, fun k => if k = 0 then t0 else if k = 1 then t1 else if k = 2 then t2 else if k = 3 then t3 else if k = 4 then t4 else if k = 5 then t5 else t6) := ⟨_, rfl⟩
  have hK : KK G s := by
    rw [hG]
    refine ⟨⟨hKc, fun k q hq => ?_⟩, ⟨⟨z0, y0⟩, ⟨z1, y1⟩, ⟨z2, y2⟩, z3, y3⟩, x1, x2, x3⟩
    match k, hq with
    | 0, hq => cases hq; exact ha1
    | 1, hq => cases hq; exact ha2
    | 2, hq => cases hq; exact ha3
    | 3, hq => cases hq; exact ha4
    | 4, hq => cases hq; exact ha5
    | k + 5, hq => simp [tysA] at hq
  have hE : EX G s G.2.2.1 := by rw [hG]; exact x4
  have hz : 0 < s.heap.size := by omega
  have hR : RP G (am0 s.heap.size) s.heap := by
    rw [hG]
    exact ⟨hz, rfl, Nat.le_refl _, fun q _ => rfl, fun q hq => absurd rfl hq, fun q => ⟨fun ci r h => absurd h (by show (0 : Nat) ≠ ci + 1; omega), fun t h => absurd h (by show (0 : Nat) ≠ 100 + t; omega)⟩⟩
  have C : Cx G p s m #[Value.ref b] meth c code 7 "BellPlateLaw" (some FieldType.boolean) := ⟨hx, hb, hml, hown, hts', hK, hlocks, hr⟩
  obtain ⟨σ', h1, h2, h3⟩ := hP L xs s.heap.size hL hz
  obtain ⟨n, hn⟩ := (lp_iff _ _ _).mp h1
  have hX' : va_X b L xs s G.2.2.1 := by rw [hG]; exact hX
  have hb' : b < G.2.1 := by rw [hG]; exact hbl
  have k := ((i_Lw_law (z0 := s.heap.size) (u0 := 0) (below := below) (e := e) C hX' hb' hE hlt n).1 (am0 s.heap.size) 1 σ' hn).2
  have hl := lv_entry ([.ref b]) (n := 7) (Nat.le_of_ble_eq_true rfl)
  rw [lg_entry_eq]
  have kq := k s.heap [] _ (Nat.le_refl _) (Nat.le_refl _) hR (fun q hq => absurd hq List.not_mem_nil) hl
  rw [show aZ (am0 s.heap.size) - s.heap.size = 0 from Nat.sub_self _, show aU (am0 s.heap.size) - 0 = 0 from rfl] at kq
  refine W_room (by show 200 ≤ 2048; decide) (by show 41 * 200 ≤ 84000; decide) (by show aZ σ' - s.heap.size ≤ 601024; omega) (by show aU σ' - 0 ≤ 7293033; omega) (fun t ht => ?_) kq
  obtain ⟨oc, q1, q2, ⟨q3, -⟩, L9, ⟨⟨v, hv⟩, q4, q5⟩, q6⟩ := ht
  refine ⟨oc, q1, q2, q3, ⟨v, hv⟩, q4, q5.weaken (fun y hy hlt9 => ?_) (by omega) (by omega)⟩
  have := q6 y hy
  rw [hG] at this
  exact absurd this (Nat.not_le.mpr hlt9)

set_option maxHeartbeats 4000000 in
theorem lw_walk (l : Launch) (hlt : l.stackTraces = false) (hP : LawPure) (b : Addr) (xs : List Int32) : MetFree l x (headSpec (Jvm.Cond.code x code maxLocals ret :: tables_1) room_1) (lw_P b xs) (fun _ _ _ _ _ => True) lw_Q := by
  refine MetFree.of_bodyS (code := code) (maxLocals := maxLocals) (ret := ret) (by decide) ?_ ?_
  · intro args s m h hn
    obtain ⟨meth, c, h1, h2, h3, h4, h5, h6, -, -⟩ := Cond.code_spec hn (atoms_spec (ws := Jvm.Cond.code x code maxLocals ret :: tables_1) h _ List.mem_cons_self)
    exact ⟨meth, c, h1, h2, h3, h4, h5, h6⟩
  · intro p e s m args below meth c s₁ B hml0 hP _
    obtain ⟨rfl, hx, hbd, hgv⟩ := hP
    obtain ⟨scr, harrAt, hlist, hof, hsmall⟩ := hx
    obtain ⟨hcb, hkn, -, -⟩ := State.arrayAt?_spec harrAt
    have hown : s.vm.findClass R_law = some m.cls := findClass_of_methodNamed B.named
    have hts0 : ∀ c ∈ (Jvm.Cond.code x code maxLocals ret :: tables_1), c.before #[Value.ref b] s = true := atoms_spec (ws := Jvm.Cond.code x code maxLocals ret :: tables_1) B.pre
    have hts : ∀ w ∈ lw_tbl, w.before #[Value.ref b] s = true := k2_hts_sels lw_privs (fun w hw => hts0 w (List.mem_cons_of_mem _ hw)) lw_privs_ok
    have hml : c.maxLocals = 7 := B.maxLocals_eq (hts0 _ List.mem_cons_self)
    have X₀ : Stand p l e room_1 s m #[Value.ref b] below meth c s₁ [] 0 0 := Stand.of_body B
    have hh0 : s₁.heap = s.heap := by rw [B.state]; rfl
    have hsz : scr.slots.size = xs.length := by rw [← Array.length_toList, hlist, List.length_map]
    have hval : ∀ j : Nat, j < xs.length → scr.slots[j]? = some (.int (xs.getD j 0)) := fun j hj => by
      rw [← Array.getElem?_toList, hlist]
      simp [hj]
    have hbl : b < s.heap.size := (Array.getElem?_eq_some_iff.mp hcb).1
    have hX : va_X b xs.length (fun j => xs.getD j 0) s s.heap := ⟨scr, hcb, hof, hkn, hsz, hval⟩
    have K : W p l e room_1 s m #[Value.ref b] below meth c s₁.heap [] 0 0 (lw_Z below #[Value.ref b] s) (entryFrame m ([Value.ref b] : List Value).toArray 7) := by
      rw [hh0]
      exact whole_start l hlt hP hbd ⟨B.exec, B.bytes, B.returns, hml, hown, hts, hX, hbl, B.notSynchronized, hgv⟩
    obtain ⟨t, a1, o, b1, b2, b3⟩ := K s₁ rfl X₀
    exact ⟨t, o, a1, b1, b2, b3⟩
theorem lw_pre_spec {args : Array Value} {s : State} (h : (Jvm.Cond.and given_1 narrow_1).before args s = true) (hr : rest_1_c.before args s = true) : ∃ (b : Addr) (xs : List Int32), lw_P b xs args s := by
  have hs := flat_of_before _ h
  have hq := flat_of_before _ hr
  have hc : (Cond.count 1).before args s = true := hs _ (by decide +kernel)
  have harr : (Cond.arrayOf (.arg 0) .int).before args s = true := hs _ (by decide +kernel)
  have hle : (Cond.le (.length (.arg 0)) (.int 3584)).before args s = true := hs _ (by decide +kernel)
  have hlen : (Cond.isInt (.length (.arg 0))).before args s = true := hq _ (by decide +kernel)
  have hall : (Cond.all (.arg 0) (.isInt (.elem (.arg 0) (.index 0)))).before args s = true := hq _ (by decide +kernel)
  obtain ⟨b, xs, hb, hx⟩ := State.ints_of_pre rfl harr hlen hall
  have hsm : xs.length < 2 ^ 31 := hx.choose_spec.2.2.2
  have hev : (Term.length (.arg 0)).eval args s none [] s = some (.int xs.length.toInt32) := hx.length_eval hb
  have hv := Cond.le_ints hev (show (Term.int 3584).eval args s none [] s = some (.int 3584) from rfl)
  have hd : xs.length.toInt32 ≤ 3584 := by
    simpa [Cond.before, Cond.holds, hv] using hle
  have hN : xs.length ≤ 3584 := (Int32.ofNat_le_ofNat hsm (by decide)).mp (show Int32.ofNat xs.length ≤ Int32.ofNat 3584 from hd)
  exact ⟨b, xs, Cond.one_arg hc (show args[0]? = some (.ref b) from hb), hx, hN, h⟩
theorem lw_comes (l : Launch) (hlt : l.stackTraces = false) (hPu : LawPure) : Comes l x (Jvm.Cond.code x code maxLocals ret :: tables_1) room_1 (fun tb e args s => Calls_1 tb e args s ∧ rest_1 tb e args s ∧ Pre_1 tb e args s)
    (fun _ _ args s o t => lw_Q args s o t) := by
  intro p e ha hc hk s m args below hf hfit hheap happ hpre
  obtain ⟨b, xs, hP⟩ := lw_pre_spec hpre.2.2 hpre.2.1
  obtain ⟨k, o, h1, h2, h3, hQ⟩ := lw_walk l hlt hPu b xs p e ha hc hk s m args below hf ((Spec.applies_iff_loose hf).mp happ).1 hP trivial
  exact ⟨k, o, h1, h2, h3, hQ⟩
theorem lw_frame {s t : State} {o : Outcome} {args : Array Value} (h : Framed s o t [] 601024 7293033) :
    Framed s o t (fieldLocs frame_1_writes args s ++ arrayLocs frame_1_arrays args s ++ staticLocs frame_1_statics s) 601024 7293033 := h
theorem lw_limb (hPu : LawPure) (L : Cond) (hL : ∀ (args : Array Value) (s t : State), L.after args s (.returned (some (.int 1))) t = true) :
    ArmFor flags0 classFile x code maxLocals ret World_1 tables_1 room_1 Calls_1 rest_1 Pre_1
      (fun tb e a s o t => postC L tb e a s o t ∧ Framed s o t (fieldLocs frame_1_writes a s ++ arrayLocs frame_1_arrays a s ++ staticLocs frame_1_statics s) 601024 7293033) := by
  intro l hfl _ _ p e ha hc hk s m args below hf hfit hheap happ hpre
  obtain ⟨k, o, h1, h2, h3, rfl, hF⟩ := lw_comes l (by show (!l.flags.contains noTraceFlag) = false; rw [hfl]; decide +kernel) hPu p e ha hc hk s m args below hf hfit hheap happ hpre
  exact ⟨k, _, h1, h2, h3, hL args s _, lw_frame hF⟩
theorem i_vc_of (hPu : LawPure) : Claimed_1_1 ∧ Claimed_1_2 := ⟨lw_limb hPu limb_1_1 (fun args s t => by simp [limb_1_1, Cond.after, Cond.holds, Cond.value]), lw_limb hPu limb_1_2 (fun args s t => Cond.after_iff.mpr (by
  first | (rw [show limb_1_2 = Cond.eq .result (.int 1) from rfl, Cond.eq_ints (x := 1) (y := 1) rfl rfl]; simp; done) | (simp [limb_1_2, Cond.value, Term.eval]; done)))⟩

