/-! BellPlate$Power.<init>(LBellPlate$Tower;LBellPlate$Lists;)V -/
abbrev y_Pw_init : MethodName := ⟨"BellPlate$Power", "<init>", "(LBellPlate$Tower;LBellPlate$Lists;)V"⟩
theorem k_Pw_init : y_Pw_init.cls ≠ "java/lang/invoke/MethodHandle" ∧ y_Pw_init.cls ≠ "java/lang/invoke/VarHandle" ∧ (parseMethodDescriptor y_Pw_init.desc).map (fun d => d.parameters.length) = some 2 := by decide +kernel
theorem d_Pw_init_0 : decode prog_8_method_1_code 0 = .ok (.aload_n 0, 1) := by decide +kernel
theorem d_Pw_init_1 : decode prog_8_method_1_code 1 = .ok (.invokespecial 3, 3) := by decide +kernel
theorem d_Pw_init_4 : decode prog_8_method_1_code 4 = .ok (.aload_n 0, 1) := by decide +kernel
theorem d_Pw_init_5 : decode prog_8_method_1_code 5 = .ok (.aload_n 1, 1) := by decide +kernel
theorem d_Pw_init_6 : decode prog_8_method_1_code 6 = .ok (.putfield 9, 3) := by decide +kernel
theorem d_Pw_init_9 : decode prog_8_method_1_code 9 = .ok (.aload_n 0, 1) := by decide +kernel
theorem d_Pw_init_10 : decode prog_8_method_1_code 10 = .ok (.aload_n 2, 1) := by decide +kernel
theorem d_Pw_init_11 : decode prog_8_method_1_code 11 = .ok (.putfield 15, 3) := by decide +kernel
theorem d_Pw_init_14 : decode prog_8_method_1_code 14 = .ok (.return_, 1) := by decide +kernel
abbrev S_Pw_init : Type := Nat × Nat × Nat × Nat × AM
noncomputable def T_Pw_init_0 (v0R : Nat) (v1R : Nat) (v2R : Nat) (σ : AM) : S_Pw_init ⊕ Option (Unit × AM) :=
  gdT (okO σ v0R 10) <| gdT (okO σ v1R 1) <| letT (sR σ v0R 0 v1R) fun σ3 => gdT (okO σ3 v2R 3) <| letT (sR σ3 v0R 1 v2R) fun σ6 => .inr (some ((), σ6))
noncomputable def F_Pw_init : S_Pw_init → S_Pw_init ⊕ Option (Unit × AM) := fun s => match s.1 with
  | _ => T_Pw_init_0 (s.2.1) (s.2.2.1) (s.2.2.2.1) (s.2.2.2.2)
noncomputable def L_Pw_init_0 (v0R : Nat) (v1R : Nat) (v2R : Nat) (σ : AM) : Option (Unit × AM) := lp F_Pw_init (0, v0R, v1R, v2R, σ)
set_option maxRecDepth 20000 in
theorem E_Pw_init_0 (v0R : Nat) (v1R : Nat) (v2R : Nat) (σ : AM) : L_Pw_init_0 v0R v1R v2R σ = (gd (okO σ v0R 10) <| gd (okO σ v1R 1) <| letT (sR σ v0R 0 v1R) fun σ3 => gd (okO σ3 v2R 3) <| letT (sR σ3 v0R 1 v2R) fun σ6 => (some ((), σ6))) := by
  unfold L_Pw_init_0
  rw [lp_eq]
  show lpK (lp F_Pw_init) (T_Pw_init_0 v0R v1R v2R σ) = _
  unfold T_Pw_init_0
  simp only [lpK_ite, lq_inl, lq_inr, lpK_bnd, lpK_gd, lq_let]
  try rfl
noncomputable def M_Pw_init (v0R : Nat) (v1R : Nat) (v2R : Nat) (σ : AM) : Option (Unit × AM) := mw σ (L_Pw_init_0 v0R v1R v2R σ)
def I_Pw_init (G : GX) (p : Program) (l : Launch) (e : Env) (s : State) (m : MethodId) (args : Array Value) (below : List Frame) (meth : Method) (c : Code) (z0 u0 n : Nat) : Prop :=
  (∀ (v0R : Nat) (v1R : Nat) (v2R : Nat) (σ : AM), VX (QM eV G args s below z0 u0) G p l e s m args below meth c 1 z0 u0 3 (lpn F_Pw_init n (0, v0R, v1R, v2R, σ)) 0 [(0, .ref v0R), (1, .ref v1R), (2, .ref v2R)] [] σ)
set_option maxRecDepth 20000 in
theorem s_Pw_init_0 {G : GX} {p : Program} {l : Launch} {e : Env} {s : State} {m : MethodId} {args : Array Value} {below : List Frame} {meth : Method} {c : Code} {z0 u0 n : Nat} (C : Cx G p s m args meth c prog_8_method_1_code 3 "BellPlate$Power" ((none))) (hin : meth.name = "<init>") (IH : I_Pw_init G p l e s m args below meth c z0 u0 n) (v0R : Nat) (v1R : Nat) (v2R : Nat) (σ : AM) : VX (QM eV G args s below z0 u0) G p l e s m args below meth c 1 z0 u0 3 (lpK (lpn F_Pw_init n) (T_Pw_init_0 v0R v1R v2R σ)) 0 [(0, .ref v0R), (1, .ref v1R), (2, .ref v2R)] [] σ := by
  unfold T_Pw_init_0
  refine x_aload_n C d_Pw_init_0 0 rfl ?_
  refine x_gd (fun h1 => ?_)
  refine x_obj C (okO_iff.mp h1) w587 w153 w154 (by decide) (Nat.le_of_ble_eq_true rfl) d_Pw_init_1 ?_
  refine x_aload_n C d_Pw_init_4 0 rfl ?_
  refine x_aload_n C d_Pw_init_5 1 rfl ?_
  refine x_gd (fun h2 => ?_)
  refine x_putRF (k := 0) (kv := 1) C (okO_iff.mp h1) rfl j9_ok y9_ok n9_ok (by decide) rfl (okO_iff.mp h2) (by decide) rfl hin rfl rfl rfl w588 d_Pw_init_6 ?_
  refine x_letS (fun σ3 e4 => ?_)
  refine x_aload_n C d_Pw_init_9 0 rfl ?_
  refine x_aload_n C d_Pw_init_10 2 rfl ?_
  refine x_gd (fun h5 => ?_)
  refine x_putRF (k := 1) (kv := 3) C (by first | exact (okO_iff.mp h1) | (rw [e4]; exact (okO_iff.mp h1))) rfl j9_ok y9_ok n9_ok (by decide) rfl (okO_iff.mp h5) (by decide) rfl hin rfl rfl rfl w589 d_Pw_init_11 ?_
  refine x_letS (fun σ6 e7 => ?_)
  exact x_vret C d_Pw_init_14
theorem i_Pw_init {G : GX} {p : Program} {l : Launch} {e : Env} {s : State} {m : MethodId} {args : Array Value} {below : List Frame} {meth : Method} {c : Code} {z0 u0 : Nat} (C : Cx G p s m args meth c prog_8_method_1_code 3 "BellPlate$Power" ((none))) (hin : meth.name = "<init>") (n : Nat) : I_Pw_init G p l e s m args below meth c z0 u0 n := by
  induction n with
  | zero => exact fun _ _ _ _ => x_none
  | succ n IH => exact fun v0R v1R v2R σ => s_Pw_init_0 C hin IH v0R v1R v2R σ
theorem c_Pw_init (G : GX) (l : Launch) (v0R : Nat) (v1R : Nat) (v2R : Nat) (σ : AM) : CT eV G l 1 y_Pw_init prog_8_method_1_code 3 (none) [.ref v0R, .ref v1R, .ref v2R] σ (M_Pw_init v0R v1R v2R σ) := by
  refine ct_of (by decide +kernel) (Nat.le_of_ble_eq_true rfl) (fun p e s m args below meth c C hin => ?_)
  refine x_lve (lv' := [(0, .ref v0R), (1, .ref v1R), (2, .ref v2R)]) rfl ?_
  intro r σ' h
  obtain ⟨n, hn⟩ := (lp_iff _ _ _).mp h
  exact (i_Pw_init C hin n) v0R v1R v2R σ r σ' hn
/-! BellPlate$Power.factorial(I)I -/
abbrev y_Pw_factorial : MethodName := ⟨"BellPlate$Power", "factorial", "(I)I"⟩
theorem k_Pw_factorial : y_Pw_factorial.cls ≠ "java/lang/invoke/MethodHandle" ∧ y_Pw_factorial.cls ≠ "java/lang/invoke/VarHandle" ∧ (parseMethodDescriptor y_Pw_factorial.desc).map (fun d => d.parameters.length) = some 1 := by decide +kernel
theorem d_Pw_factorial_0 : decode prog_8_method_2_code 0 = .ok (.iload_n 0, 1) := by decide +kernel
theorem d_Pw_factorial_1 : decode prog_8_method_2_code 1 = .ok (.ifCond .lt 19, 3) := by decide +kernel
theorem d_Pw_factorial_4 : decode prog_8_method_2_code 4 = .ok (.iload_n 0, 1) := by decide +kernel
theorem d_Pw_factorial_5 : decode prog_8_method_2_code 5 = .ok (.getstatic 19, 3) := by decide +kernel
theorem d_Pw_factorial_8 : decode prog_8_method_2_code 8 = .ok (.arraylength, 1) := by decide +kernel
theorem d_Pw_factorial_9 : decode prog_8_method_2_code 9 = .ok (.if_icmp .ge 11, 3) := by decide +kernel
theorem d_Pw_factorial_12 : decode prog_8_method_2_code 12 = .ok (.getstatic 19, 3) := by decide +kernel
theorem d_Pw_factorial_15 : decode prog_8_method_2_code 15 = .ok (.iload_n 0, 1) := by decide +kernel
theorem d_Pw_factorial_16 : decode prog_8_method_2_code 16 = .ok (.iaload, 1) := by decide +kernel
theorem d_Pw_factorial_17 : decode prog_8_method_2_code 17 = .ok (.goto 4, 3) := by decide +kernel
theorem d_Pw_factorial_20 : decode prog_8_method_2_code 20 = .ok (.iconst 1, 1) := by decide +kernel
theorem d_Pw_factorial_21 : decode prog_8_method_2_code 21 = .ok (.ireturn, 1) := by decide +kernel
abbrev S_Pw_factorial : Type := Nat × Int32 × Int32 × AM
noncomputable def T_Pw_factorial_0 (v0I : Int32) (σ : AM) : S_Pw_factorial ⊕ Option (Int32 × AM) :=
  if v0I < 0 then (.inl (1, 0, 0, σ)) else (if v0I < (7 : Int32) then (gdT (inB v0I 7) <| .inl (2, 0, tbFACTORIALS v0I.toNatClampNeg, σ)) else (.inl (1, 0, 0, σ)))
noncomputable def T_Pw_factorial_1  (σ : AM) : S_Pw_factorial ⊕ Option (Int32 × AM) :=
  .inl (2, 0, (1 : Int32), σ)
noncomputable def T_Pw_factorial_2 (s0I : Int32) (σ : AM) : S_Pw_factorial ⊕ Option (Int32 × AM) :=
  .inr (some (s0I, σ))
noncomputable def F_Pw_factorial : S_Pw_factorial → S_Pw_factorial ⊕ Option (Int32 × AM) := fun s => match s.1 with
  | 0 => T_Pw_factorial_0 (s.2.1) (s.2.2.2)
  | 1 => T_Pw_factorial_1  (s.2.2.2)
  | _ => T_Pw_factorial_2 (s.2.2.1) (s.2.2.2)
noncomputable def L_Pw_factorial_0 (v0I : Int32) (σ : AM) : Option (Int32 × AM) := lp F_Pw_factorial (0, v0I, 0, σ)
noncomputable def L_Pw_factorial_1  (σ : AM) : Option (Int32 × AM) := lp F_Pw_factorial (1, 0, 0, σ)
noncomputable def L_Pw_factorial_2 (s0I : Int32) (σ : AM) : Option (Int32 × AM) := lp F_Pw_factorial (2, 0, s0I, σ)
set_option maxRecDepth 20000 in
theorem E_Pw_factorial_0 (v0I : Int32) (σ : AM) : L_Pw_factorial_0 v0I σ = (if v0I < 0 then (L_Pw_factorial_1 σ) else (if v0I < (7 : Int32) then (gd (inB v0I 7) <| L_Pw_factorial_2 (tbFACTORIALS v0I.toNatClampNeg) σ) else (L_Pw_factorial_1 σ))) := by
  unfold L_Pw_factorial_0
  rw [lp_eq]
  show lpK (lp F_Pw_factorial) (T_Pw_factorial_0 v0I σ) = _
  unfold T_Pw_factorial_0
  simp only [lpK_ite, lq_inl, lq_inr, lpK_bnd, lpK_gd, lq_let]
  try rfl
set_option maxRecDepth 20000 in
theorem E_Pw_factorial_1  (σ : AM) : L_Pw_factorial_1  σ = (L_Pw_factorial_2 ((1 : Int32)) σ) := by
  unfold L_Pw_factorial_1
  rw [lp_eq]
  show lpK (lp F_Pw_factorial) (T_Pw_factorial_1  σ) = _
  unfold T_Pw_factorial_1
  simp only [lpK_ite, lq_inl, lq_inr, lpK_bnd, lpK_gd, lq_let]
  try rfl
set_option maxRecDepth 20000 in
theorem E_Pw_factorial_2 (s0I : Int32) (σ : AM) : L_Pw_factorial_2 s0I σ = ((some (s0I, σ))) := by
  unfold L_Pw_factorial_2
  rw [lp_eq]
  show lpK (lp F_Pw_factorial) (T_Pw_factorial_2 s0I σ) = _
  unfold T_Pw_factorial_2
  simp only [lpK_ite, lq_inl, lq_inr, lpK_bnd, lpK_gd, lq_let]
  try rfl
noncomputable def M_Pw_factorial (v0I : Int32) (σ : AM) : Option (Int32 × AM) := mw σ (L_Pw_factorial_0 v0I σ)
def I_Pw_factorial (G : GX) (p : Program) (l : Launch) (e : Env) (s : State) (m : MethodId) (args : Array Value) (below : List Frame) (meth : Method) (c : Code) (z0 u0 n : Nat) : Prop :=
  (∀ (v0I : Int32) (σ : AM), VX (QM eI G args s below z0 u0) G p l e s m args below meth c 0 z0 u0 1 (lpn F_Pw_factorial n (0, v0I, 0, σ)) 0 [(0, .int v0I)] [] σ) ∧
  (∀ (σ : AM), VX (QM eI G args s below z0 u0) G p l e s m args below meth c 0 z0 u0 1 (lpn F_Pw_factorial n (1, 0, 0, σ)) 20 [] [] σ) ∧
  (∀ (s0I : Int32) (σ : AM), VX (QM eI G args s below z0 u0) G p l e s m args below meth c 0 z0 u0 1 (lpn F_Pw_factorial n (2, 0, s0I, σ)) 21 [] [.int s0I] σ)
set_option maxRecDepth 20000 in
theorem s_Pw_factorial_0 {G : GX} {p : Program} {l : Launch} {e : Env} {s : State} {m : MethodId} {args : Array Value} {below : List Frame} {meth : Method} {c : Code} {z0 u0 n : Nat} (C : Cx G p s m args meth c prog_8_method_2_code 1 "BellPlate$Power" ((some FieldType.int))) (IH : I_Pw_factorial G p l e s m args below meth c z0 u0 n) (v0I : Int32) (σ : AM) : VX (QM eI G args s below z0 u0) G p l e s m args below meth c 0 z0 u0 1 (lpK (lpn F_Pw_factorial n) (T_Pw_factorial_0 v0I σ)) 0 [(0, .int v0I)] [] σ := by
  unfold T_Pw_factorial_0
  refine x_iload_n C d_Pw_factorial_0 0 rfl ?_
  refine x_if_lt (tgt := 20) C d_Pw_factorial_1 (by decide) (fun _ => ?_) (fun _ => ?_)
  · refine x_lv [] rfl ?_
    exact IH.2.1  (σ)
  · refine x_iload_n C d_Pw_factorial_4 0 rfl ?_
    refine x_gs3 C w1558 d_Pw_factorial_5 ?_
    refine x_sn3 C d_Pw_factorial_8 ?_
    refine x_icmp_ge (tgt := 20) C d_Pw_factorial_9 (by decide) (fun _ => ?_) (fun _ => ?_)
    · refine x_gs3 C w1558 d_Pw_factorial_12 ?_
      refine x_iload_n C d_Pw_factorial_15 0 rfl ?_
      refine x_gd (fun h1 => ?_)
      refine x_sl3 C (inB_iff.mp h1) d_Pw_factorial_16 ?_
      refine x_goto (tgt := 21) C d_Pw_factorial_17 (by decide) ?_
      refine x_lv [] rfl ?_
      exact IH.2.2 (tbFACTORIALS v0I.toNatClampNeg) (σ)
    · refine x_lv [] rfl ?_
      exact IH.2.1  (σ)
set_option maxRecDepth 20000 in
theorem s_Pw_factorial_1 {G : GX} {p : Program} {l : Launch} {e : Env} {s : State} {m : MethodId} {args : Array Value} {below : List Frame} {meth : Method} {c : Code} {z0 u0 n : Nat} (C : Cx G p s m args meth c prog_8_method_2_code 1 "BellPlate$Power" ((some FieldType.int))) (IH : I_Pw_factorial G p l e s m args below meth c z0 u0 n)  (σ : AM) : VX (QM eI G args s below z0 u0) G p l e s m args below meth c 0 z0 u0 1 (lpK (lpn F_Pw_factorial n) (T_Pw_factorial_1  σ)) 20 [] [] σ := by
  unfold T_Pw_factorial_1
  refine x_iconst (v := (1 : Int32)) C d_Pw_factorial_20 (by decide) ?_
  exact IH.2.2 ((1 : Int32)) (σ)
set_option maxRecDepth 20000 in
theorem s_Pw_factorial_2 {G : GX} {p : Program} {l : Launch} {e : Env} {s : State} {m : MethodId} {args : Array Value} {below : List Frame} {meth : Method} {c : Code} {z0 u0 n : Nat} (C : Cx G p s m args meth c prog_8_method_2_code 1 "BellPlate$Power" ((some FieldType.int))) (IH : I_Pw_factorial G p l e s m args below meth c z0 u0 n) (s0I : Int32) (σ : AM) : VX (QM eI G args s below z0 u0) G p l e s m args below meth c 0 z0 u0 1 (lpK (lpn F_Pw_factorial n) (T_Pw_factorial_2 s0I σ)) 21 [] [.int s0I] σ := by
  unfold T_Pw_factorial_2
  exact x_iret C d_Pw_factorial_21
theorem i_Pw_factorial {G : GX} {p : Program} {l : Launch} {e : Env} {s : State} {m : MethodId} {args : Array Value} {below : List Frame} {meth : Method} {c : Code} {z0 u0 : Nat} (C : Cx G p s m args meth c prog_8_method_2_code 1 "BellPlate$Power" ((some FieldType.int))) (n : Nat) : I_Pw_factorial G p l e s m args below meth c z0 u0 n := by
  induction n with
  | zero => exact ⟨fun _ _ => x_none, fun _ => x_none, fun _ _ => x_none⟩
  | succ n IH => exact ⟨fun v0I σ => s_Pw_factorial_0 C IH v0I σ, fun σ => s_Pw_factorial_1 C IH σ, fun s0I σ => s_Pw_factorial_2 C IH s0I σ⟩
theorem c_Pw_factorial (G : GX) (l : Launch) (v0I : Int32) (σ : AM) : CT eI G l 0 y_Pw_factorial prog_8_method_2_code 1 ((some FieldType.int)) [.int v0I] σ (M_Pw_factorial v0I σ) := by
  refine ct_of (by decide +kernel) (Nat.le_of_ble_eq_true rfl) (fun p e s m args below meth c C hin => ?_)
  refine x_lve (lv' := [(0, .int v0I)]) rfl ?_
  intro r σ' h
  obtain ⟨n, hn⟩ := (lp_iff _ _ _).mp h
  exact (i_Pw_factorial C n).1 v0I σ r σ' hn
/-! BellPlate$Power.orders()I -/
abbrev y_Pw_orders : MethodName := ⟨"BellPlate$Power", "orders", "()I"⟩
theorem k_Pw_orders : y_Pw_orders.cls ≠ "java/lang/invoke/MethodHandle" ∧ y_Pw_orders.cls ≠ "java/lang/invoke/VarHandle" ∧ (parseMethodDescriptor y_Pw_orders.desc).map (fun d => d.parameters.length) = some 0 := by decide +kernel
theorem d_Pw_orders_0 : decode prog_8_method_3_code 0 = .ok (.aload_n 0, 1) := by decide +kernel
theorem d_Pw_orders_1 : decode prog_8_method_3_code 1 = .ok (.getfield 9, 3) := by decide +kernel
theorem d_Pw_orders_4 : decode prog_8_method_3_code 4 = .ok (.invokevirtual 23, 3) := by decide +kernel
theorem d_Pw_orders_7 : decode prog_8_method_3_code 7 = .ok (.invokestatic 29, 3) := by decide +kernel
theorem d_Pw_orders_10 : decode prog_8_method_3_code 10 = .ok (.ireturn, 1) := by decide +kernel
abbrev S_Pw_orders : Type := Nat × Nat × AM
noncomputable def T_Pw_orders_0 (v0R : Nat) (σ : AM) : S_Pw_orders ⊕ Option (Int32 × AM) :=
  gdT (okO σ v0R 10) <| gdT (okO σ (aR σ v0R 0) 1) <| bndT (M_Tw_things (aR σ v0R 0) σ) fun r3 σ4 => bndT (M_Pw_factorial r3 σ4) fun r5 σ6 => .inr (some (r5, σ6))
noncomputable def F_Pw_orders : S_Pw_orders → S_Pw_orders ⊕ Option (Int32 × AM) := fun s => match s.1 with
  | _ => T_Pw_orders_0 (s.2.1) (s.2.2)
noncomputable def L_Pw_orders_0 (v0R : Nat) (σ : AM) : Option (Int32 × AM) := lp F_Pw_orders (0, v0R, σ)
set_option maxRecDepth 20000 in
theorem E_Pw_orders_0 (v0R : Nat) (σ : AM) : L_Pw_orders_0 v0R σ = (gd (okO σ v0R 10) <| gd (okO σ (aR σ v0R 0) 1) <| bnd (M_Tw_things (aR σ v0R 0) σ) fun r3 σ4 => bnd (M_Pw_factorial r3 σ4) fun r5 σ6 => (some (r5, σ6))) := by
  unfold L_Pw_orders_0
  rw [lp_eq]
  show lpK (lp F_Pw_orders) (T_Pw_orders_0 v0R σ) = _
  unfold T_Pw_orders_0
  simp only [lpK_ite, lq_inl, lq_inr, lpK_bnd, lpK_gd, lq_let]
  try rfl
noncomputable def M_Pw_orders (v0R : Nat) (σ : AM) : Option (Int32 × AM) := mw σ (L_Pw_orders_0 v0R σ)
def I_Pw_orders (G : GX) (p : Program) (l : Launch) (e : Env) (s : State) (m : MethodId) (args : Array Value) (below : List Frame) (meth : Method) (c : Code) (z0 u0 n : Nat) : Prop :=
  (∀ (v0R : Nat) (σ : AM), VX (QM eI G args s below z0 u0) G p l e s m args below meth c 1 z0 u0 1 (lpn F_Pw_orders n (0, v0R, σ)) 0 [(0, .ref v0R)] [] σ)
set_option maxRecDepth 20000 in
theorem s_Pw_orders_0 {G : GX} {p : Program} {l : Launch} {e : Env} {s : State} {m : MethodId} {args : Array Value} {below : List Frame} {meth : Method} {c : Code} {z0 u0 n : Nat} (C : Cx G p s m args meth c prog_8_method_3_code 1 "BellPlate$Power" ((some FieldType.int))) (IH : I_Pw_orders G p l e s m args below meth c z0 u0 n) (v0R : Nat) (σ : AM) : VX (QM eI G args s below z0 u0) G p l e s m args below meth c 1 z0 u0 1 (lpK (lpn F_Pw_orders n) (T_Pw_orders_0 v0R σ)) 0 [(0, .ref v0R)] [] σ := by
  unfold T_Pw_orders_0
  refine x_aload_n C d_Pw_orders_0 0 rfl ?_
  refine x_gd (fun h1 => ?_)
  refine x_gd (fun h2 => ?_)
  refine x_getR (k := 0) (kv := 1) C (okO_iff.mp h1) rfl j9_ok (by decide) rfl (okO_iff.mp h2) (by decide) w588 d_Pw_orders_1 ?_
  refine x_callVI (As := []) C (c_Tw_things G l (aR σ v0R 0)  σ) (okO_iff.mp h2) rfl w643 w644 w1554 w645 w122 k_Tw_things rfl (by decide) (by decide) rfl (Nat.le_of_ble_eq_true rfl) d_Pw_orders_4 (fun r3 σ4 => ?_)
  refine x_callSI (As := [.int r3]) C (c_Pw_factorial G l r3 σ4) w1556 w1555 w1557 w131 k_Pw_factorial rfl (by decide) (by decide) rfl (Nat.le_of_ble_eq_true rfl) d_Pw_orders_7 (fun r5 σ6 => ?_)
  exact x_iret C d_Pw_orders_10
theorem i_Pw_orders {G : GX} {p : Program} {l : Launch} {e : Env} {s : State} {m : MethodId} {args : Array Value} {below : List Frame} {meth : Method} {c : Code} {z0 u0 : Nat} (C : Cx G p s m args meth c prog_8_method_3_code 1 "BellPlate$Power" ((some FieldType.int))) (n : Nat) : I_Pw_orders G p l e s m args below meth c z0 u0 n := by
  induction n with
  | zero => exact fun _ _ => x_none
  | succ n IH => exact fun v0R σ => s_Pw_orders_0 C IH v0R σ
theorem c_Pw_orders (G : GX) (l : Launch) (v0R : Nat) (σ : AM) : CT eI G l 1 y_Pw_orders prog_8_method_3_code 1 ((some FieldType.int)) [.ref v0R] σ (M_Pw_orders v0R σ) := by
  refine ct_of (by decide +kernel) (Nat.le_of_ble_eq_true rfl) (fun p e s m args below meth c C hin => ?_)
  refine x_lve (lv' := [(0, .ref v0R)]) rfl ?_
  intro r σ' h
  obtain ⟨n, hn⟩ := (lp_iff _ _ _).mp h
  exact (i_Pw_orders C n) v0R σ r σ' hn
/-! BellPlate$Power.ordersDecided(II)I -/
abbrev y_Pw_ordersDecided : MethodName := ⟨"BellPlate$Power", "ordersDecided", "(II)I"⟩
theorem k_Pw_ordersDecided : y_Pw_ordersDecided.cls ≠ "java/lang/invoke/MethodHandle" ∧ y_Pw_ordersDecided.cls ≠ "java/lang/invoke/VarHandle" ∧ (parseMethodDescriptor y_Pw_ordersDecided.desc).map (fun d => d.parameters.length) = some 2 := by decide +kernel
theorem d_Pw_ordersDecided_0 : decode prog_8_method_4_code 0 = .ok (.aload_n 0, 1) := by decide +kernel
theorem d_Pw_ordersDecided_1 : decode prog_8_method_4_code 1 = .ok (.getfield 15, 3) := by decide +kernel
theorem d_Pw_ordersDecided_4 : decode prog_8_method_4_code 4 = .ok (.iload_n 1, 1) := by decide +kernel
theorem d_Pw_ordersDecided_5 : decode prog_8_method_4_code 5 = .ok (.invokevirtual 33, 3) := by decide +kernel
theorem d_Pw_ordersDecided_8 : decode prog_8_method_4_code 8 = .ok (.iload_n 2, 1) := by decide +kernel
theorem d_Pw_ordersDecided_9 : decode prog_8_method_4_code 9 = .ok (.invokestatic 39, 3) := by decide +kernel
theorem d_Pw_ordersDecided_12 : decode prog_8_method_4_code 12 = .ok (.lstore_n 3, 1) := by decide +kernel
theorem d_Pw_ordersDecided_13 : decode prog_8_method_4_code 13 = .ok (.iconst 0, 1) := by decide +kernel
theorem d_Pw_ordersDecided_14 : decode prog_8_method_4_code 14 = .ok (.istore 5, 2) := by decide +kernel
theorem d_Pw_ordersDecided_16 : decode prog_8_method_4_code 16 = .ok (.iconst 0, 1) := by decide +kernel
theorem d_Pw_ordersDecided_17 : decode prog_8_method_4_code 17 = .ok (.istore 6, 2) := by decide +kernel
theorem d_Pw_ordersDecided_19 : decode prog_8_method_4_code 19 = .ok (.iload 6, 2) := by decide +kernel
theorem d_Pw_ordersDecided_21 : decode prog_8_method_4_code 21 = .ok (.aload_n 0, 1) := by decide +kernel
theorem d_Pw_ordersDecided_22 : decode prog_8_method_4_code 22 = .ok (.getfield 9, 3) := by decide +kernel
theorem d_Pw_ordersDecided_25 : decode prog_8_method_4_code 25 = .ok (.invokevirtual 23, 3) := by decide +kernel
theorem d_Pw_ordersDecided_28 : decode prog_8_method_4_code 28 = .ok (.if_icmp .ge 50, 3) := by decide +kernel
theorem d_Pw_ordersDecided_31 : decode prog_8_method_4_code 31 = .ok (.iload 6, 2) := by decide +kernel
theorem d_Pw_ordersDecided_33 : decode prog_8_method_4_code 33 = .ok (.invokestatic 29, 3) := by decide +kernel
theorem d_Pw_ordersDecided_36 : decode prog_8_method_4_code 36 = .ok (.aload_n 0, 1) := by decide +kernel
theorem d_Pw_ordersDecided_37 : decode prog_8_method_4_code 37 = .ok (.getfield 9, 3) := by decide +kernel
theorem d_Pw_ordersDecided_40 : decode prog_8_method_4_code 40 = .ok (.invokevirtual 23, 3) := by decide +kernel
theorem d_Pw_ordersDecided_43 : decode prog_8_method_4_code 43 = .ok (.iconst 1, 1) := by decide +kernel
theorem d_Pw_ordersDecided_44 : decode prog_8_method_4_code 44 = .ok (.isub, 1) := by decide +kernel
theorem d_Pw_ordersDecided_45 : decode prog_8_method_4_code 45 = .ok (.iload 6, 2) := by decide +kernel
theorem d_Pw_ordersDecided_47 : decode prog_8_method_4_code 47 = .ok (.isub, 1) := by decide +kernel
theorem d_Pw_ordersDecided_48 : decode prog_8_method_4_code 48 = .ok (.invokestatic 29, 3) := by decide +kernel
theorem d_Pw_ordersDecided_51 : decode prog_8_method_4_code 51 = .ok (.imul, 1) := by decide +kernel
theorem d_Pw_ordersDecided_52 : decode prog_8_method_4_code 52 = .ok (.istore 7, 2) := by decide +kernel
theorem d_Pw_ordersDecided_54 : decode prog_8_method_4_code 54 = .ok (.iload 5, 2) := by decide +kernel
theorem d_Pw_ordersDecided_56 : decode prog_8_method_4_code 56 = .ok (.lload_n 3, 1) := by decide +kernel
theorem d_Pw_ordersDecided_57 : decode prog_8_method_4_code 57 = .ok (.iload 6, 2) := by decide +kernel
theorem d_Pw_ordersDecided_59 : decode prog_8_method_4_code 59 = .ok (.invokestatic 45, 3) := by decide +kernel
theorem d_Pw_ordersDecided_62 : decode prog_8_method_4_code 62 = .ok (.land, 1) := by decide +kernel
theorem d_Pw_ordersDecided_63 : decode prog_8_method_4_code 63 = .ok (.invokestatic 48, 3) := by decide +kernel
theorem d_Pw_ordersDecided_66 : decode prog_8_method_4_code 66 = .ok (.iload 7, 2) := by decide +kernel
theorem d_Pw_ordersDecided_68 : decode prog_8_method_4_code 68 = .ok (.imul, 1) := by decide +kernel
theorem d_Pw_ordersDecided_69 : decode prog_8_method_4_code 69 = .ok (.iadd, 1) := by decide +kernel
theorem d_Pw_ordersDecided_70 : decode prog_8_method_4_code 70 = .ok (.istore 5, 2) := by decide +kernel
theorem d_Pw_ordersDecided_72 : decode prog_8_method_4_code 72 = .ok (.iinc 6 1, 3) := by decide +kernel
theorem d_Pw_ordersDecided_75 : decode prog_8_method_4_code 75 = .ok (.goto (-56), 3) := by decide +kernel
theorem d_Pw_ordersDecided_78 : decode prog_8_method_4_code 78 = .ok (.iload 5, 2) := by decide +kernel
theorem d_Pw_ordersDecided_80 : decode prog_8_method_4_code 80 = .ok (.ireturn, 1) := by decide +kernel
abbrev S_Pw_ordersDecided : Type := Nat × Nat × Int32 × Int32 × Int64 × Int32 × Int32 × AM
noncomputable def T_Pw_ordersDecided_0 (v0R : Nat) (v1I : Int32) (v2I : Int32) (σ : AM) : S_Pw_ordersDecided ⊕ Option (Int32 × AM) :=
  gdT (okO σ v0R 10) <| gdT (okO σ (aR σ v0R 1) 3) <| bndT (M_Ls_listOf (aR σ v0R 1) v1I σ) fun r3 σ4 => bndT (M_St_swung r3 v2I σ4) fun r5 σ6 => .inl (1, v0R, 0, 0, r5, (0 : Int32), (0 : Int32), σ6)
noncomputable def T_Pw_ordersDecided_1 (v0R : Nat) (v3J : Int64) (v5I : Int32) (v6I : Int32) (σ : AM) : S_Pw_ordersDecided ⊕ Option (Int32 × AM) :=
  gdT (okO σ v0R 10) <| gdT (okO σ (aR σ v0R 0) 1) <| bndT (M_Tw_things (aR σ v0R 0) σ) fun r3 σ4 => if v6I < r3 then (bndT (M_Pw_factorial v6I σ4) fun r5 σ6 => gdT (okO σ6 v0R 10) <| gdT (okO σ6 (aR σ6 v0R 0) 1) <| bndT (M_Tw_things (aR σ6 v0R 0) σ6) fun r9 σ10 => bndT (M_Pw_factorial ((r9 - (1 : Int32)) - v6I) σ10) fun r11 σ12 => letT (r5 * r11) fun x13 => bndT (M_St_ofSize v6I σ12) fun r14 σ15 => bndT (M_JLong_bitCount (v3J &&& r14) σ15) fun r16 σ17 => letT (v5I + (r16 * x13)) fun x18 => .inl (1, v0R, 0, 0, v3J, x18, v6I + (1 : Int32), σ17)) else (.inr (some (v5I, σ4)))
noncomputable def F_Pw_ordersDecided : S_Pw_ordersDecided → S_Pw_ordersDecided ⊕ Option (Int32 × AM) := fun s => match s.1 with
  | 0 => T_Pw_ordersDecided_0 (s.2.1) (s.2.2.1) (s.2.2.2.1) (s.2.2.2.2.2.2.2)
  | _ => T_Pw_ordersDecided_1 (s.2.1) (s.2.2.2.2.1) (s.2.2.2.2.2.1) (s.2.2.2.2.2.2.1) (s.2.2.2.2.2.2.2)
noncomputable def L_Pw_ordersDecided_0 (v0R : Nat) (v1I : Int32) (v2I : Int32) (σ : AM) : Option (Int32 × AM) := lp F_Pw_ordersDecided (0, v0R, v1I, v2I, 0, 0, 0, σ)
noncomputable def L_Pw_ordersDecided_1 (v0R : Nat) (v3J : Int64) (v5I : Int32) (v6I : Int32) (σ : AM) : Option (Int32 × AM) := lp F_Pw_ordersDecided (1, v0R, 0, 0, v3J, v5I, v6I, σ)
set_option maxRecDepth 20000 in
theorem E_Pw_ordersDecided_0 (v0R : Nat) (v1I : Int32) (v2I : Int32) (σ : AM) : L_Pw_ordersDecided_0 v0R v1I v2I σ = (gd (okO σ v0R 10) <| gd (okO σ (aR σ v0R 1) 3) <| bnd (M_Ls_listOf (aR σ v0R 1) v1I σ) fun r3 σ4 => bnd (M_St_swung r3 v2I σ4) fun r5 σ6 => L_Pw_ordersDecided_1 v0R r5 ((0 : Int32)) ((0 : Int32)) σ6) := by
  unfold L_Pw_ordersDecided_0
  rw [lp_eq]
  show lpK (lp F_Pw_ordersDecided) (T_Pw_ordersDecided_0 v0R v1I v2I σ) = _
  unfold T_Pw_ordersDecided_0
  simp only [lpK_ite, lq_inl, lq_inr, lpK_bnd, lpK_gd, lq_let]
  try rfl
set_option maxRecDepth 20000 in
theorem E_Pw_ordersDecided_1 (v0R : Nat) (v3J : Int64) (v5I : Int32) (v6I : Int32) (σ : AM) : L_Pw_ordersDecided_1 v0R v3J v5I v6I σ = (gd (okO σ v0R 10) <| gd (okO σ (aR σ v0R 0) 1) <| bnd (M_Tw_things (aR σ v0R 0) σ) fun r3 σ4 => if v6I < r3 then (bnd (M_Pw_factorial v6I σ4) fun r5 σ6 => gd (okO σ6 v0R 10) <| gd (okO σ6 (aR σ6 v0R 0) 1) <| bnd (M_Tw_things (aR σ6 v0R 0) σ6) fun r9 σ10 => bnd (M_Pw_factorial ((r9 - (1 : Int32)) - v6I) σ10) fun r11 σ12 => letT (r5 * r11) fun x13 => bnd (M_St_ofSize v6I σ12) fun r14 σ15 => bnd (M_JLong_bitCount (v3J &&& r14) σ15) fun r16 σ17 => letT (v5I + (r16 * x13)) fun x18 => L_Pw_ordersDecided_1 v0R v3J x18 (v6I + (1 : Int32)) σ17) else ((some (v5I, σ4)))) := by
  unfold L_Pw_ordersDecided_1
  rw [lp_eq]
  show lpK (lp F_Pw_ordersDecided) (T_Pw_ordersDecided_1 v0R v3J v5I v6I σ) = _
  unfold T_Pw_ordersDecided_1
  simp only [lpK_ite, lq_inl, lq_inr, lpK_bnd, lpK_gd, lq_let]
  try rfl
noncomputable def M_Pw_ordersDecided (v0R : Nat) (v1I : Int32) (v2I : Int32) (σ : AM) : Option (Int32 × AM) := mw σ (L_Pw_ordersDecided_0 v0R v1I v2I σ)
def I_Pw_ordersDecided (G : GX) (p : Program) (l : Launch) (e : Env) (s : State) (m : MethodId) (args : Array Value) (below : List Frame) (meth : Method) (c : Code) (z0 u0 n : Nat) : Prop :=
  (∀ (v0R : Nat) (v1I : Int32) (v2I : Int32) (σ : AM), VX (QM eI G args s below z0 u0) G p l e s m args below meth c 4 z0 u0 8 (lpn F_Pw_ordersDecided n (0, v0R, v1I, v2I, 0, 0, 0, σ)) 0 [(0, .ref v0R), (1, .int v1I), (2, .int v2I)] [] σ) ∧
  (∀ (v0R : Nat) (v3J : Int64) (v5I : Int32) (v6I : Int32) (σ : AM), VX (QM eI G args s below z0 u0) G p l e s m args below meth c 4 z0 u0 8 (lpn F_Pw_ordersDecided n (1, v0R, 0, 0, v3J, v5I, v6I, σ)) 19 [(0, .ref v0R), (3, .long v3J), (5, .int v5I), (6, .int v6I)] [] σ)
set_option maxRecDepth 20000 in
theorem s_Pw_ordersDecided_0 {G : GX} {p : Program} {l : Launch} {e : Env} {s : State} {m : MethodId} {args : Array Value} {below : List Frame} {meth : Method} {c : Code} {z0 u0 n : Nat} (C : Cx G p s m args meth c prog_8_method_4_code 8 "BellPlate$Power" ((some FieldType.int))) (IH : I_Pw_ordersDecided G p l e s m args below meth c z0 u0 n) (v0R : Nat) (v1I : Int32) (v2I : Int32) (σ : AM) : VX (QM eI G args s below z0 u0) G p l e s m args below meth c 4 z0 u0 8 (lpK (lpn F_Pw_ordersDecided n) (T_Pw_ordersDecided_0 v0R v1I v2I σ)) 0 [(0, .ref v0R), (1, .int v1I), (2, .int v2I)] [] σ := by
  unfold T_Pw_ordersDecided_0
  refine x_aload_n C d_Pw_ordersDecided_0 0 rfl ?_
  refine x_gd (fun h1 => ?_)
  refine x_gd (fun h2 => ?_)
  refine x_getR (k := 1) (kv := 3) C (okO_iff.mp h1) rfl j9_ok (by decide) rfl (okO_iff.mp h2) (by decide) w589 d_Pw_ordersDecided_1 ?_
  refine x_iload_n C d_Pw_ordersDecided_4 1 rfl ?_
  refine x_callVJ (As := [.int v1I]) C (c_Ls_listOf G l (aR σ v0R 1) v1I σ) (okO_iff.mp h2) rfl w991 w992 w1552 w993 w123 k_Ls_listOf rfl (by decide) (by decide) rfl (Nat.le_of_ble_eq_true rfl) d_Pw_ordersDecided_5 (fun r3 σ4 => ?_)
  refine x_iload_n C d_Pw_ordersDecided_8 2 rfl ?_
  refine x_callSJ (As := [.long r3, .int v2I]) C (c_St_swung G l r3 v2I σ4) w1128 w1553 w1129 w141 k_St_swung rfl (by decide) (by decide) rfl (Nat.le_of_ble_eq_true rfl) d_Pw_ordersDecided_9 (fun r5 σ6 => ?_)
  refine x_lstore_n (lv' := [(3, .long r5), (0, .ref v0R), (1, .int v1I), (2, .int v2I)]) C d_Pw_ordersDecided_12 (by decide) rfl rfl ?_
  refine x_iconst (v := (0 : Int32)) C d_Pw_ordersDecided_13 (by decide) ?_
  refine x_istore (lv' := [(5, .int (0 : Int32)), (3, .long r5), (0, .ref v0R), (1, .int v1I), (2, .int v2I)]) C d_Pw_ordersDecided_14 (by decide) rfl ?_
  refine x_iconst (v := (0 : Int32)) C d_Pw_ordersDecided_16 (by decide) ?_
  refine x_istore (lv' := [(6, .int (0 : Int32)), (5, .int (0 : Int32)), (3, .long r5), (0, .ref v0R), (1, .int v1I), (2, .int v2I)]) C d_Pw_ordersDecided_17 (by decide) rfl ?_
  refine x_lv [3, 2, 1, 0] rfl ?_
  exact IH.2 v0R r5 ((0 : Int32)) ((0 : Int32)) (σ6)
set_option maxRecDepth 20000 in
theorem s_Pw_ordersDecided_1 {G : GX} {p : Program} {l : Launch} {e : Env} {s : State} {m : MethodId} {args : Array Value} {below : List Frame} {meth : Method} {c : Code} {z0 u0 n : Nat} (C : Cx G p s m args meth c prog_8_method_4_code 8 "BellPlate$Power" ((some FieldType.int))) (IH : I_Pw_ordersDecided G p l e s m args below meth c z0 u0 n) (v0R : Nat) (v3J : Int64) (v5I : Int32) (v6I : Int32) (σ : AM) : VX (QM eI G args s below z0 u0) G p l e s m args below meth c 4 z0 u0 8 (lpK (lpn F_Pw_ordersDecided n) (T_Pw_ordersDecided_1 v0R v3J v5I v6I σ)) 19 [(0, .ref v0R), (3, .long v3J), (5, .int v5I), (6, .int v6I)] [] σ := by
  unfold T_Pw_ordersDecided_1
  refine x_iload C d_Pw_ordersDecided_19 3 rfl ?_
  refine x_aload_n C d_Pw_ordersDecided_21 0 rfl ?_
  refine x_gd (fun h1 => ?_)
  refine x_gd (fun h2 => ?_)
  refine x_getR (k := 0) (kv := 1) C (okO_iff.mp h1) rfl j9_ok (by decide) rfl (okO_iff.mp h2) (by decide) w588 d_Pw_ordersDecided_22 ?_
  refine x_callVI (As := []) C (c_Tw_things G l (aR σ v0R 0)  σ) (okO_iff.mp h2) rfl w643 w644 w1554 w645 w122 k_Tw_things rfl (by decide) (by decide) rfl (Nat.le_of_ble_eq_true rfl) d_Pw_ordersDecided_25 (fun r3 σ4 => ?_)
  refine x_icmp_ge (tgt := 78) C d_Pw_ordersDecided_28 (by decide) (fun _ => ?_) (fun _ => ?_)
  · refine x_iload C d_Pw_ordersDecided_31 3 rfl ?_
    refine x_callSI (As := [.int v6I]) C (c_Pw_factorial G l v6I σ4) w1556 w1555 w1557 w131 k_Pw_factorial rfl (by decide) (by decide) rfl (Nat.le_of_ble_eq_true rfl) d_Pw_ordersDecided_33 (fun r5 σ6 => ?_)
    refine x_aload_n C d_Pw_ordersDecided_36 0 rfl ?_
    refine x_gd (fun h7 => ?_)
    refine x_gd (fun h8 => ?_)
    refine x_getR (k := 0) (kv := 1) C (okO_iff.mp h7) rfl j9_ok (by decide) rfl (okO_iff.mp h8) (by decide) w588 d_Pw_ordersDecided_37 ?_
    refine x_callVI (As := []) C (c_Tw_things G l (aR σ6 v0R 0)  σ6) (okO_iff.mp h8) rfl w643 w644 w1554 w645 w122 k_Tw_things rfl (by decide) (by decide) rfl (Nat.le_of_ble_eq_true rfl) d_Pw_ordersDecided_40 (fun r9 σ10 => ?_)
    refine x_iconst (v := (1 : Int32)) C d_Pw_ordersDecided_43 (by decide) ?_
    refine x_isub C d_Pw_ordersDecided_44 ?_
    refine x_iload C d_Pw_ordersDecided_45 3 rfl ?_
    refine x_isub C d_Pw_ordersDecided_47 ?_
    refine x_callSI (As := [.int ((r9 - (1 : Int32)) - v6I)]) C (c_Pw_factorial G l ((r9 - (1 : Int32)) - v6I) σ10) w1556 w1555 w1557 w131 k_Pw_factorial rfl (by decide) (by decide) rfl (Nat.le_of_ble_eq_true rfl) d_Pw_ordersDecided_48 (fun r11 σ12 => ?_)
    refine x_imul C d_Pw_ordersDecided_51 ?_
    refine x_letI (fun x13 _ => ?_)
    refine x_istore (lv' := [(7, .int x13), (0, .ref v0R), (3, .long v3J), (5, .int v5I), (6, .int v6I)]) C d_Pw_ordersDecided_52 (by decide) rfl ?_
    refine x_iload C d_Pw_ordersDecided_54 3 rfl ?_
    refine x_lload_n C d_Pw_ordersDecided_56 2 rfl ?_
    refine x_iload C d_Pw_ordersDecided_57 4 rfl ?_
    refine x_callSJ (As := [.int v6I]) C (c_St_ofSize G l v6I σ12) w1061 w1560 w1062 w141 k_St_ofSize rfl (by decide) (by decide) rfl (Nat.le_of_ble_eq_true rfl) d_Pw_ordersDecided_59 (fun r14 σ15 => ?_)
    refine x_land C d_Pw_ordersDecided_62 ?_
    refine x_callSI (As := [.long (v3J &&& r14)]) C (c_JLong_bitCount G l (v3J &&& r14) σ15) w1066 w1561 w1067 w142 k_JLong_bitCount rfl (by decide) (by decide) rfl (Nat.le_of_ble_eq_true rfl) d_Pw_ordersDecided_63 (fun r16 σ17 => ?_)
    refine x_iload C d_Pw_ordersDecided_66 0 rfl ?_
    refine x_imul C d_Pw_ordersDecided_68 ?_
    refine x_iadd C d_Pw_ordersDecided_69 ?_
    refine x_letI (fun x18 _ => ?_)
    refine x_istore (lv' := [(5, .int x18), (7, .int x13), (0, .ref v0R), (3, .long v3J), (6, .int v6I)]) C d_Pw_ordersDecided_70 (by decide) rfl ?_
    refine x_iinc (v := v6I + (1 : Int32)) (lv' := [(6, .int (v6I + (1 : Int32))), (5, .int x18), (7, .int x13), (0, .ref v0R), (3, .long v3J)]) C d_Pw_ordersDecided_72 4 rfl rfl (by decide) rfl ?_
    refine x_goto (tgt := 19) C d_Pw_ordersDecided_75 (by decide) ?_
    refine x_lv [3, 4, 1, 0] rfl ?_
    exact IH.2 v0R v3J x18 (v6I + (1 : Int32)) (σ17)
  · refine x_iload C d_Pw_ordersDecided_78 2 rfl ?_
    exact x_iret C d_Pw_ordersDecided_80
theorem i_Pw_ordersDecided {G : GX} {p : Program} {l : Launch} {e : Env} {s : State} {m : MethodId} {args : Array Value} {below : List Frame} {meth : Method} {c : Code} {z0 u0 : Nat} (C : Cx G p s m args meth c prog_8_method_4_code 8 "BellPlate$Power" ((some FieldType.int))) (n : Nat) : I_Pw_ordersDecided G p l e s m args below meth c z0 u0 n := by
  induction n with
  | zero => exact ⟨fun _ _ _ _ => x_none, fun _ _ _ _ _ => x_none⟩
  | succ n IH => exact ⟨fun v0R v1I v2I σ => s_Pw_ordersDecided_0 C IH v0R v1I v2I σ, fun v0R v3J v5I v6I σ => s_Pw_ordersDecided_1 C IH v0R v3J v5I v6I σ⟩
theorem c_Pw_ordersDecided (G : GX) (l : Launch) (v0R : Nat) (v1I : Int32) (v2I : Int32) (σ : AM) : CT eI G l 4 y_Pw_ordersDecided prog_8_method_4_code 8 ((some FieldType.int)) [.ref v0R, .int v1I, .int v2I] σ (M_Pw_ordersDecided v0R v1I v2I σ) := by
  refine ct_of (by decide +kernel) (Nat.le_of_ble_eq_true rfl) (fun p e s m args below meth c C hin => ?_)
  refine x_lve (lv' := [(0, .ref v0R), (1, .int v1I), (2, .int v2I)]) rfl ?_
  intro r σ' h
  obtain ⟨n, hn⟩ := (lp_iff _ _ _).mp h
  exact (i_Pw_ordersDecided C n).1 v0R v1I v2I σ r σ' hn
/-! BellPlate$Power.isNearer(IIZ)Z -/
abbrev y_Pw_isNearer : MethodName := ⟨"BellPlate$Power", "isNearer", "(IIZ)Z"⟩
theorem k_Pw_isNearer : y_Pw_isNearer.cls ≠ "java/lang/invoke/MethodHandle" ∧ y_Pw_isNearer.cls ≠ "java/lang/invoke/VarHandle" ∧ (parseMethodDescriptor y_Pw_isNearer.desc).map (fun d => d.parameters.length) = some 3 := by decide +kernel
theorem d_Pw_isNearer_0 : decode prog_8_method_6_code 0 = .ok (.aload_n 0, 1) := by decide +kernel
theorem d_Pw_isNearer_1 : decode prog_8_method_6_code 1 = .ok (.getfield 15, 3) := by decide +kernel
theorem d_Pw_isNearer_4 : decode prog_8_method_6_code 4 = .ok (.iload_n 1, 1) := by decide +kernel
theorem d_Pw_isNearer_5 : decode prog_8_method_6_code 5 = .ok (.invokevirtual 61, 3) := by decide +kernel
theorem d_Pw_isNearer_8 : decode prog_8_method_6_code 8 = .ok (.istore 4, 2) := by decide +kernel
theorem d_Pw_isNearer_10 : decode prog_8_method_6_code 10 = .ok (.aload_n 0, 1) := by decide +kernel
theorem d_Pw_isNearer_11 : decode prog_8_method_6_code 11 = .ok (.getfield 15, 3) := by decide +kernel
theorem d_Pw_isNearer_14 : decode prog_8_method_6_code 14 = .ok (.iload_n 2, 1) := by decide +kernel
theorem d_Pw_isNearer_15 : decode prog_8_method_6_code 15 = .ok (.invokevirtual 61, 3) := by decide +kernel
theorem d_Pw_isNearer_18 : decode prog_8_method_6_code 18 = .ok (.istore 5, 2) := by decide +kernel
theorem d_Pw_isNearer_20 : decode prog_8_method_6_code 20 = .ok (.iload 4, 2) := by decide +kernel
theorem d_Pw_isNearer_22 : decode prog_8_method_6_code 22 = .ok (.iload 5, 2) := by decide +kernel
theorem d_Pw_isNearer_24 : decode prog_8_method_6_code 24 = .ok (.if_icmp .eq 35, 3) := by decide +kernel
theorem d_Pw_isNearer_27 : decode prog_8_method_6_code 27 = .ok (.iload_n 3, 1) := by decide +kernel
theorem d_Pw_isNearer_28 : decode prog_8_method_6_code 28 = .ok (.ifCond .eq 18, 3) := by decide +kernel
theorem d_Pw_isNearer_31 : decode prog_8_method_6_code 31 = .ok (.iload 4, 2) := by decide +kernel
theorem d_Pw_isNearer_33 : decode prog_8_method_6_code 33 = .ok (.iload 5, 2) := by decide +kernel
theorem d_Pw_isNearer_35 : decode prog_8_method_6_code 35 = .ok (.if_icmp .ge 7, 3) := by decide +kernel
theorem d_Pw_isNearer_38 : decode prog_8_method_6_code 38 = .ok (.iconst 1, 1) := by decide +kernel
theorem d_Pw_isNearer_39 : decode prog_8_method_6_code 39 = .ok (.goto 19, 3) := by decide +kernel
theorem d_Pw_isNearer_42 : decode prog_8_method_6_code 42 = .ok (.iconst 0, 1) := by decide +kernel
theorem d_Pw_isNearer_43 : decode prog_8_method_6_code 43 = .ok (.goto 15, 3) := by decide +kernel
theorem d_Pw_isNearer_46 : decode prog_8_method_6_code 46 = .ok (.iload 4, 2) := by decide +kernel
theorem d_Pw_isNearer_48 : decode prog_8_method_6_code 48 = .ok (.iload 5, 2) := by decide +kernel
theorem d_Pw_isNearer_50 : decode prog_8_method_6_code 50 = .ok (.if_icmp .le 7, 3) := by decide +kernel
theorem d_Pw_isNearer_53 : decode prog_8_method_6_code 53 = .ok (.iconst 1, 1) := by decide +kernel
theorem d_Pw_isNearer_54 : decode prog_8_method_6_code 54 = .ok (.goto 4, 3) := by decide +kernel
theorem d_Pw_isNearer_57 : decode prog_8_method_6_code 57 = .ok (.iconst 0, 1) := by decide +kernel
theorem d_Pw_isNearer_58 : decode prog_8_method_6_code 58 = .ok (.ireturn, 1) := by decide +kernel
theorem d_Pw_isNearer_59 : decode prog_8_method_6_code 59 = .ok (.iload_n 1, 1) := by decide +kernel
theorem d_Pw_isNearer_60 : decode prog_8_method_6_code 60 = .ok (.invokestatic 71, 3) := by decide +kernel
theorem d_Pw_isNearer_63 : decode prog_8_method_6_code 63 = .ok (.iload_n 2, 1) := by decide +kernel
theorem d_Pw_isNearer_64 : decode prog_8_method_6_code 64 = .ok (.invokestatic 71, 3) := by decide +kernel
theorem d_Pw_isNearer_67 : decode prog_8_method_6_code 67 = .ok (.if_icmp .ge 7, 3) := by decide +kernel
theorem d_Pw_isNearer_70 : decode prog_8_method_6_code 70 = .ok (.iconst 1, 1) := by decide +kernel
theorem d_Pw_isNearer_71 : decode prog_8_method_6_code 71 = .ok (.goto 4, 3) := by decide +kernel
theorem d_Pw_isNearer_74 : decode prog_8_method_6_code 74 = .ok (.iconst 0, 1) := by decide +kernel
theorem d_Pw_isNearer_75 : decode prog_8_method_6_code 75 = .ok (.ireturn, 1) := by decide +kernel
abbrev S_Pw_isNearer : Type := Nat × Nat × Int32 × Int32 × Int32 × Int32 × AM
noncomputable def T_Pw_isNearer_0 (v0R : Nat) (v1I : Int32) (v2I : Int32) (v3I : Int32) (σ : AM) : S_Pw_isNearer ⊕ Option (Int32 × AM) :=
  gdT (okO σ v0R 10) <| gdT (okO σ (aR σ v0R 1) 3) <| bndT (M_Ls_weightOf (aR σ v0R 1) v1I σ) fun r3 σ4 => gdT (okO σ4 v0R 10) <| gdT (okO σ4 (aR σ4 v0R 1) 3) <| bndT (M_Ls_weightOf (aR σ4 v0R 1) v2I σ4) fun r7 σ8 => if r3 = r7 then (bndT (M_JInt_bitCount v1I σ8) fun r9 σ10 => bndT (M_JInt_bitCount v2I σ10) fun r11 σ12 => if r9 < r11 then (.inl (2, 0, 0, 0, 0, (1 : Int32), σ12)) else (.inl (2, 0, 0, 0, 0, (0 : Int32), σ12))) else (if v3I = 0 then (if r7 < r3 then (.inl (1, 0, 0, 0, 0, (1 : Int32), σ8)) else (.inl (1, 0, 0, 0, 0, (0 : Int32), σ8))) else (if r3 < r7 then (.inl (1, 0, 0, 0, 0, (1 : Int32), σ8)) else (.inl (1, 0, 0, 0, 0, (0 : Int32), σ8))))
noncomputable def T_Pw_isNearer_1 (s0I : Int32) (σ : AM) : S_Pw_isNearer ⊕ Option (Int32 × AM) :=
  gdT (isB s0I) <| .inr (some (s0I, σ))
noncomputable def T_Pw_isNearer_2 (s0I : Int32) (σ : AM) : S_Pw_isNearer ⊕ Option (Int32 × AM) :=
  gdT (isB s0I) <| .inr (some (s0I, σ))
noncomputable def F_Pw_isNearer : S_Pw_isNearer → S_Pw_isNearer ⊕ Option (Int32 × AM) := fun s => match s.1 with
  | 0 => T_Pw_isNearer_0 (s.2.1) (s.2.2.1) (s.2.2.2.1) (s.2.2.2.2.1) (s.2.2.2.2.2.2)
  | 1 => T_Pw_isNearer_1 (s.2.2.2.2.2.1) (s.2.2.2.2.2.2)
  | _ => T_Pw_isNearer_2 (s.2.2.2.2.2.1) (s.2.2.2.2.2.2)
noncomputable def L_Pw_isNearer_0 (v0R : Nat) (v1I : Int32) (v2I : Int32) (v3I : Int32) (σ : AM) : Option (Int32 × AM) := lp F_Pw_isNearer (0, v0R, v1I, v2I, v3I, 0, σ)
noncomputable def L_Pw_isNearer_1 (s0I : Int32) (σ : AM) : Option (Int32 × AM) := lp F_Pw_isNearer (1, 0, 0, 0, 0, s0I, σ)
noncomputable def L_Pw_isNearer_2 (s0I : Int32) (σ : AM) : Option (Int32 × AM) := lp F_Pw_isNearer (2, 0, 0, 0, 0, s0I, σ)
set_option maxRecDepth 20000 in
theorem E_Pw_isNearer_0 (v0R : Nat) (v1I : Int32) (v2I : Int32) (v3I : Int32) (σ : AM) : L_Pw_isNearer_0 v0R v1I v2I v3I σ = (gd (okO σ v0R 10) <| gd (okO σ (aR σ v0R 1) 3) <| bnd (M_Ls_weightOf (aR σ v0R 1) v1I σ) fun r3 σ4 => gd (okO σ4 v0R 10) <| gd (okO σ4 (aR σ4 v0R 1) 3) <| bnd (M_Ls_weightOf (aR σ4 v0R 1) v2I σ4) fun r7 σ8 => if r3 = r7 then (bnd (M_JInt_bitCount v1I σ8) fun r9 σ10 => bnd (M_JInt_bitCount v2I σ10) fun r11 σ12 => if r9 < r11 then (L_Pw_isNearer_2 ((1 : Int32)) σ12) else (L_Pw_isNearer_2 ((0 : Int32)) σ12)) else (if v3I = 0 then (if r7 < r3 then (L_Pw_isNearer_1 ((1 : Int32)) σ8) else (L_Pw_isNearer_1 ((0 : Int32)) σ8)) else (if r3 < r7 then (L_Pw_isNearer_1 ((1 : Int32)) σ8) else (L_Pw_isNearer_1 ((0 : Int32)) σ8)))) := by
  unfold L_Pw_isNearer_0
  rw [lp_eq]
  show lpK (lp F_Pw_isNearer) (T_Pw_isNearer_0 v0R v1I v2I v3I σ) = _
  unfold T_Pw_isNearer_0
  simp only [lpK_ite, lq_inl, lq_inr, lpK_bnd, lpK_gd, lq_let]
  try rfl
set_option maxRecDepth 20000 in
theorem E_Pw_isNearer_1 (s0I : Int32) (σ : AM) : L_Pw_isNearer_1 s0I σ = (gd (isB s0I) <| (some (s0I, σ))) := by
  unfold L_Pw_isNearer_1
  rw [lp_eq]
  show lpK (lp F_Pw_isNearer) (T_Pw_isNearer_1 s0I σ) = _
  unfold T_Pw_isNearer_1
  simp only [lpK_ite, lq_inl, lq_inr, lpK_bnd, lpK_gd, lq_let]
  try rfl
set_option maxRecDepth 20000 in
theorem E_Pw_isNearer_2 (s0I : Int32) (σ : AM) : L_Pw_isNearer_2 s0I σ = (gd (isB s0I) <| (some (s0I, σ))) := by
  unfold L_Pw_isNearer_2
  rw [lp_eq]
  show lpK (lp F_Pw_isNearer) (T_Pw_isNearer_2 s0I σ) = _
  unfold T_Pw_isNearer_2
  simp only [lpK_ite, lq_inl, lq_inr, lpK_bnd, lpK_gd, lq_let]
  try rfl
noncomputable def M_Pw_isNearer (v0R : Nat) (v1I : Int32) (v2I : Int32) (v3I : Int32) (σ : AM) : Option (Int32 × AM) := mw σ (L_Pw_isNearer_0 v0R v1I v2I v3I σ)
def I_Pw_isNearer (G : GX) (p : Program) (l : Launch) (e : Env) (s : State) (m : MethodId) (args : Array Value) (below : List Frame) (meth : Method) (c : Code) (z0 u0 n : Nat) : Prop :=
  (∀ (v0R : Nat) (v1I : Int32) (v2I : Int32) (v3I : Int32) (σ : AM), VX (QM eI G args s below z0 u0) G p l e s m args below meth c 1 z0 u0 6 (lpn F_Pw_isNearer n (0, v0R, v1I, v2I, v3I, 0, σ)) 0 [(0, .ref v0R), (1, .int v1I), (2, .int v2I), (3, .int v3I)] [] σ) ∧
  (∀ (s0I : Int32) (σ : AM), VX (QM eI G args s below z0 u0) G p l e s m args below meth c 1 z0 u0 6 (lpn F_Pw_isNearer n (1, 0, 0, 0, 0, s0I, σ)) 58 [] [.int s0I] σ) ∧
  (∀ (s0I : Int32) (σ : AM), VX (QM eI G args s below z0 u0) G p l e s m args below meth c 1 z0 u0 6 (lpn F_Pw_isNearer n (2, 0, 0, 0, 0, s0I, σ)) 75 [] [.int s0I] σ)
set_option maxRecDepth 20000 in
theorem s_Pw_isNearer_0 {G : GX} {p : Program} {l : Launch} {e : Env} {s : State} {m : MethodId} {args : Array Value} {below : List Frame} {meth : Method} {c : Code} {z0 u0 n : Nat} (C : Cx G p s m args meth c prog_8_method_6_code 6 "BellPlate$Power" ((some FieldType.boolean))) (IH : I_Pw_isNearer G p l e s m args below meth c z0 u0 n) (v0R : Nat) (v1I : Int32) (v2I : Int32) (v3I : Int32) (σ : AM) : VX (QM eI G args s below z0 u0) G p l e s m args below meth c 1 z0 u0 6 (lpK (lpn F_Pw_isNearer n) (T_Pw_isNearer_0 v0R v1I v2I v3I σ)) 0 [(0, .ref v0R), (1, .int v1I), (2, .int v2I), (3, .int v3I)] [] σ := by
  unfold T_Pw_isNearer_0
  refine x_aload_n C d_Pw_isNearer_0 0 rfl ?_
  refine x_gd (fun h1 => ?_)
  refine x_gd (fun h2 => ?_)
  refine x_getR (k := 1) (kv := 3) C (okO_iff.mp h1) rfl j9_ok (by decide) rfl (okO_iff.mp h2) (by decide) w589 d_Pw_isNearer_1 ?_
  refine x_iload_n C d_Pw_isNearer_4 1 rfl ?_
  refine x_callVI (As := [.int v1I]) C (c_Ls_weightOf G l (aR σ v0R 1) v1I σ) (okO_iff.mp h2) rfl w1583 w1584 w1582 w1585 w123 k_Ls_weightOf rfl (by decide) (by decide) rfl (Nat.le_of_ble_eq_true rfl) d_Pw_isNearer_5 (fun r3 σ4 => ?_)
  refine x_istore (lv' := [(4, .int r3), (0, .ref v0R), (1, .int v1I), (2, .int v2I), (3, .int v3I)]) C d_Pw_isNearer_8 (by decide) rfl ?_
  refine x_aload_n C d_Pw_isNearer_10 1 rfl ?_
  refine x_gd (fun h5 => ?_)
  refine x_gd (fun h6 => ?_)
  refine x_getR (k := 1) (kv := 3) C (okO_iff.mp h5) rfl j9_ok (by decide) rfl (okO_iff.mp h6) (by decide) w589 d_Pw_isNearer_11 ?_
  refine x_iload_n C d_Pw_isNearer_14 3 rfl ?_
  refine x_callVI (As := [.int v2I]) C (c_Ls_weightOf G l (aR σ4 v0R 1) v2I σ4) (okO_iff.mp h6) rfl w1583 w1584 w1582 w1585 w123 k_Ls_weightOf rfl (by decide) (by decide) rfl (Nat.le_of_ble_eq_true rfl) d_Pw_isNearer_15 (fun r7 σ8 => ?_)
  refine x_istore (lv' := [(5, .int r7), (4, .int r3), (0, .ref v0R), (1, .int v1I), (2, .int v2I), (3, .int v3I)]) C d_Pw_isNearer_18 (by decide) rfl ?_
  refine x_iload C d_Pw_isNearer_20 1 rfl ?_
  refine x_iload C d_Pw_isNearer_22 0 rfl ?_
  refine x_icmp_eq (tgt := 59) C d_Pw_isNearer_24 (by decide) (fun _ => ?_) (fun _ => ?_)
  · refine x_iload_n C d_Pw_isNearer_59 3 rfl ?_
    refine x_callSI (As := [.int v1I]) C (c_JInt_bitCount G l v1I σ8) w604 w1591 w605 w132 k_JInt_bitCount rfl (by decide) (by decide) rfl (Nat.le_of_ble_eq_true rfl) d_Pw_isNearer_60 (fun r9 σ10 => ?_)
    refine x_iload_n C d_Pw_isNearer_63 4 rfl ?_
    refine x_callSI (As := [.int v2I]) C (c_JInt_bitCount G l v2I σ10) w604 w1591 w605 w132 k_JInt_bitCount rfl (by decide) (by decide) rfl (Nat.le_of_ble_eq_true rfl) d_Pw_isNearer_64 (fun r11 σ12 => ?_)
    refine x_icmp_ge (tgt := 74) C d_Pw_isNearer_67 (by decide) (fun _ => ?_) (fun _ => ?_)
    · refine x_iconst (v := (1 : Int32)) C d_Pw_isNearer_70 (by decide) ?_
      refine x_goto (tgt := 75) C d_Pw_isNearer_71 (by decide) ?_
      refine x_lv [] rfl ?_
      exact IH.2.2 ((1 : Int32)) (σ12)
    · refine x_iconst (v := (0 : Int32)) C d_Pw_isNearer_74 (by decide) ?_
      refine x_lv [] rfl ?_
      exact IH.2.2 ((0 : Int32)) (σ12)
  · refine x_iload_n C d_Pw_isNearer_27 5 rfl ?_
    refine x_if_eq (tgt := 46) C d_Pw_isNearer_28 (by decide) (fun _ => ?_) (fun _ => ?_)
    · refine x_iload C d_Pw_isNearer_46 1 rfl ?_
      refine x_iload C d_Pw_isNearer_48 0 rfl ?_
      refine x_icmp_le (tgt := 57) C d_Pw_isNearer_50 (by decide) (fun _ => ?_) (fun _ => ?_)
      · refine x_iconst (v := (1 : Int32)) C d_Pw_isNearer_53 (by decide) ?_
        refine x_goto (tgt := 58) C d_Pw_isNearer_54 (by decide) ?_
        refine x_lv [] rfl ?_
        exact IH.2.1 ((1 : Int32)) (σ8)
      · refine x_iconst (v := (0 : Int32)) C d_Pw_isNearer_57 (by decide) ?_
        refine x_lv [] rfl ?_
        exact IH.2.1 ((0 : Int32)) (σ8)
    · refine x_iload C d_Pw_isNearer_31 1 rfl ?_
      refine x_iload C d_Pw_isNearer_33 0 rfl ?_
      refine x_icmp_ge (tgt := 42) C d_Pw_isNearer_35 (by decide) (fun _ => ?_) (fun _ => ?_)
      · refine x_iconst (v := (1 : Int32)) C d_Pw_isNearer_38 (by decide) ?_
        refine x_goto (tgt := 58) C d_Pw_isNearer_39 (by decide) ?_
        refine x_lv [] rfl ?_
        exact IH.2.1 ((1 : Int32)) (σ8)
      · refine x_iconst (v := (0 : Int32)) C d_Pw_isNearer_42 (by decide) ?_
        refine x_goto (tgt := 58) C d_Pw_isNearer_43 (by decide) ?_
        refine x_lv [] rfl ?_
        exact IH.2.1 ((0 : Int32)) (σ8)
set_option maxRecDepth 20000 in
theorem s_Pw_isNearer_1 {G : GX} {p : Program} {l : Launch} {e : Env} {s : State} {m : MethodId} {args : Array Value} {below : List Frame} {meth : Method} {c : Code} {z0 u0 n : Nat} (C : Cx G p s m args meth c prog_8_method_6_code 6 "BellPlate$Power" ((some FieldType.boolean))) (IH : I_Pw_isNearer G p l e s m args below meth c z0 u0 n) (s0I : Int32) (σ : AM) : VX (QM eI G args s below z0 u0) G p l e s m args below meth c 1 z0 u0 6 (lpK (lpn F_Pw_isNearer n) (T_Pw_isNearer_1 s0I σ)) 58 [] [.int s0I] σ := by
  unfold T_Pw_isNearer_1
  refine x_gd (fun h1 => ?_)
  exact x_zret C (isB_narrow h1) d_Pw_isNearer_58
set_option maxRecDepth 20000 in
theorem s_Pw_isNearer_2 {G : GX} {p : Program} {l : Launch} {e : Env} {s : State} {m : MethodId} {args : Array Value} {below : List Frame} {meth : Method} {c : Code} {z0 u0 n : Nat} (C : Cx G p s m args meth c prog_8_method_6_code 6 "BellPlate$Power" ((some FieldType.boolean))) (IH : I_Pw_isNearer G p l e s m args below meth c z0 u0 n) (s0I : Int32) (σ : AM) : VX (QM eI G args s below z0 u0) G p l e s m args below meth c 1 z0 u0 6 (lpK (lpn F_Pw_isNearer n) (T_Pw_isNearer_2 s0I σ)) 75 [] [.int s0I] σ := by
  unfold T_Pw_isNearer_2
  refine x_gd (fun h1 => ?_)
  exact x_zret C (isB_narrow h1) d_Pw_isNearer_75
theorem i_Pw_isNearer {G : GX} {p : Program} {l : Launch} {e : Env} {s : State} {m : MethodId} {args : Array Value} {below : List Frame} {meth : Method} {c : Code} {z0 u0 : Nat} (C : Cx G p s m args meth c prog_8_method_6_code 6 "BellPlate$Power" ((some FieldType.boolean))) (n : Nat) : I_Pw_isNearer G p l e s m args below meth c z0 u0 n := by
  induction n with
  | zero => exact ⟨fun _ _ _ _ _ => x_none, fun _ _ => x_none, fun _ _ => x_none⟩
  | succ n IH => exact ⟨fun v0R v1I v2I v3I σ => s_Pw_isNearer_0 C IH v0R v1I v2I v3I σ, fun s0I σ => s_Pw_isNearer_1 C IH s0I σ, fun s0I σ => s_Pw_isNearer_2 C IH s0I σ⟩
theorem c_Pw_isNearer (G : GX) (l : Launch) (v0R : Nat) (v1I : Int32) (v2I : Int32) (v3I : Int32) (σ : AM) : CT eI G l 1 y_Pw_isNearer prog_8_method_6_code 6 ((some FieldType.boolean)) [.ref v0R, .int v1I, .int v2I, .int v3I] σ (M_Pw_isNearer v0R v1I v2I v3I σ) := by
  refine ct_of (by decide +kernel) (Nat.le_of_ble_eq_true rfl) (fun p e s m args below meth c C hin => ?_)
  refine x_lve (lv' := [(0, .ref v0R), (1, .int v1I), (2, .int v2I), (3, .int v3I)]) rfl ?_
  intro r σ' h
  obtain ⟨n, hn⟩ := (lp_iff _ _ _).mp h
  exact (i_Pw_isNearer C n).1 v0R v1I v2I v3I σ r σ' hn
/-! BellPlate$Power.nearest(IZ)I -/
abbrev y_Pw_nearest : MethodName := ⟨"BellPlate$Power", "nearest", "(IZ)I"⟩
theorem k_Pw_nearest : y_Pw_nearest.cls ≠ "java/lang/invoke/MethodHandle" ∧ y_Pw_nearest.cls ≠ "java/lang/invoke/VarHandle" ∧ (parseMethodDescriptor y_Pw_nearest.desc).map (fun d => d.parameters.length) = some 2 := by decide +kernel
theorem d_Pw_nearest_0 : decode prog_8_method_5_code 0 = .ok (.aload_n 0, 1) := by decide +kernel
theorem d_Pw_nearest_1 : decode prog_8_method_5_code 1 = .ok (.getfield 15, 3) := by decide +kernel
theorem d_Pw_nearest_4 : decode prog_8_method_5_code 4 = .ok (.iload_n 1, 1) := by decide +kernel
theorem d_Pw_nearest_5 : decode prog_8_method_5_code 5 = .ok (.invokevirtual 54, 3) := by decide +kernel
theorem d_Pw_nearest_8 : decode prog_8_method_5_code 8 = .ok (.iconst (-1), 1) := by decide +kernel
theorem d_Pw_nearest_9 : decode prog_8_method_5_code 9 = .ok (.istore_n 3, 1) := by decide +kernel
theorem d_Pw_nearest_10 : decode prog_8_method_5_code 10 = .ok (.iconst 0, 1) := by decide +kernel
theorem d_Pw_nearest_11 : decode prog_8_method_5_code 11 = .ok (.istore 4, 2) := by decide +kernel
theorem d_Pw_nearest_13 : decode prog_8_method_5_code 13 = .ok (.iload 4, 2) := by decide +kernel
theorem d_Pw_nearest_15 : decode prog_8_method_5_code 15 = .ok (.aload_n 0, 1) := by decide +kernel
theorem d_Pw_nearest_16 : decode prog_8_method_5_code 16 = .ok (.getfield 9, 3) := by decide +kernel
theorem d_Pw_nearest_19 : decode prog_8_method_5_code 19 = .ok (.invokevirtual 58, 3) := by decide +kernel
theorem d_Pw_nearest_22 : decode prog_8_method_5_code 22 = .ok (.if_icmp .ge 60, 3) := by decide +kernel
theorem d_Pw_nearest_25 : decode prog_8_method_5_code 25 = .ok (.aload_n 0, 1) := by decide +kernel
theorem d_Pw_nearest_26 : decode prog_8_method_5_code 26 = .ok (.getfield 15, 3) := by decide +kernel
theorem d_Pw_nearest_29 : decode prog_8_method_5_code 29 = .ok (.iload 4, 2) := by decide +kernel
theorem d_Pw_nearest_31 : decode prog_8_method_5_code 31 = .ok (.invokevirtual 61, 3) := by decide +kernel
theorem d_Pw_nearest_34 : decode prog_8_method_5_code 34 = .ok (.aload_n 0, 1) := by decide +kernel
theorem d_Pw_nearest_35 : decode prog_8_method_5_code 35 = .ok (.getfield 9, 3) := by decide +kernel
theorem d_Pw_nearest_38 : decode prog_8_method_5_code 38 = .ok (.invokevirtual 64, 3) := by decide +kernel
theorem d_Pw_nearest_41 : decode prog_8_method_5_code 41 = .ok (.if_icmp .lt 7, 3) := by decide +kernel
theorem d_Pw_nearest_44 : decode prog_8_method_5_code 44 = .ok (.iconst 1, 1) := by decide +kernel
theorem d_Pw_nearest_45 : decode prog_8_method_5_code 45 = .ok (.goto 4, 3) := by decide +kernel
theorem d_Pw_nearest_48 : decode prog_8_method_5_code 48 = .ok (.iconst 0, 1) := by decide +kernel
theorem d_Pw_nearest_49 : decode prog_8_method_5_code 49 = .ok (.istore 5, 2) := by decide +kernel
theorem d_Pw_nearest_51 : decode prog_8_method_5_code 51 = .ok (.iload 5, 2) := by decide +kernel
theorem d_Pw_nearest_53 : decode prog_8_method_5_code 53 = .ok (.iload_n 2, 1) := by decide +kernel
theorem d_Pw_nearest_54 : decode prog_8_method_5_code 54 = .ok (.if_icmp .ne 22, 3) := by decide +kernel
theorem d_Pw_nearest_57 : decode prog_8_method_5_code 57 = .ok (.iload_n 3, 1) := by decide +kernel
theorem d_Pw_nearest_58 : decode prog_8_method_5_code 58 = .ok (.iconst (-1), 1) := by decide +kernel
theorem d_Pw_nearest_59 : decode prog_8_method_5_code 59 = .ok (.if_icmp .eq 14, 3) := by decide +kernel
theorem d_Pw_nearest_62 : decode prog_8_method_5_code 62 = .ok (.aload_n 0, 1) := by decide +kernel
theorem d_Pw_nearest_63 : decode prog_8_method_5_code 63 = .ok (.iload 4, 2) := by decide +kernel
theorem d_Pw_nearest_65 : decode prog_8_method_5_code 65 = .ok (.iload_n 3, 1) := by decide +kernel
theorem d_Pw_nearest_66 : decode prog_8_method_5_code 66 = .ok (.iload_n 2, 1) := by decide +kernel
theorem d_Pw_nearest_67 : decode prog_8_method_5_code 67 = .ok (.invokevirtual 67, 3) := by decide +kernel
theorem d_Pw_nearest_70 : decode prog_8_method_5_code 70 = .ok (.ifCond .eq 6, 3) := by decide +kernel
theorem d_Pw_nearest_73 : decode prog_8_method_5_code 73 = .ok (.iload 4, 2) := by decide +kernel
theorem d_Pw_nearest_75 : decode prog_8_method_5_code 75 = .ok (.istore_n 3, 1) := by decide +kernel
theorem d_Pw_nearest_76 : decode prog_8_method_5_code 76 = .ok (.iinc 4 1, 3) := by decide +kernel
theorem d_Pw_nearest_79 : decode prog_8_method_5_code 79 = .ok (.goto (-66), 3) := by decide +kernel
theorem d_Pw_nearest_82 : decode prog_8_method_5_code 82 = .ok (.iload_n 3, 1) := by decide +kernel
theorem d_Pw_nearest_83 : decode prog_8_method_5_code 83 = .ok (.ireturn, 1) := by decide +kernel
abbrev S_Pw_nearest : Type := Nat × Nat × Int32 × Int32 × Int32 × Int32 × Int32 × AM
noncomputable def T_Pw_nearest_0 (v0R : Nat) (v1I : Int32) (v2I : Int32) (σ : AM) : S_Pw_nearest ⊕ Option (Int32 × AM) :=
  gdT (okO σ v0R 10) <| gdT (okO σ (aR σ v0R 1) 3) <| bndT (M_Ls_weigh (aR σ v0R 1) v1I σ) fun _ σ4 => .inl (1, v0R, 0, v2I, ((-1) : Int32), (0 : Int32), 0, σ4)
noncomputable def T_Pw_nearest_1 (v0R : Nat) (v2I : Int32) (v3I : Int32) (v4I : Int32) (σ : AM) : S_Pw_nearest ⊕ Option (Int32 × AM) :=
  gdT (okO σ v0R 10) <| gdT (okO σ (aR σ v0R 0) 1) <| bndT (M_Tw_sets (aR σ v0R 0) σ) fun r3 σ4 => if v4I < r3 then (gdT (okO σ4 v0R 10) <| gdT (okO σ4 (aR σ4 v0R 1) 3) <| bndT (M_Ls_weightOf (aR σ4 v0R 1) v4I σ4) fun r7 σ8 => gdT (okO σ8 v0R 10) <| gdT (okO σ8 (aR σ8 v0R 0) 1) <| bndT (M_Tw_bar (aR σ8 v0R 0) σ8) fun r11 σ12 => if r7 < r11 then (.inl (2, v0R, 0, v2I, v3I, v4I, (0 : Int32), σ12)) else (.inl (2, v0R, 0, v2I, v3I, v4I, (1 : Int32), σ12))) else (.inr (some (v3I, σ4)))
noncomputable def T_Pw_nearest_2 (v0R : Nat) (v2I : Int32) (v3I : Int32) (v4I : Int32) (s0I : Int32) (σ : AM) : S_Pw_nearest ⊕ Option (Int32 × AM) :=
  if s0I = v2I then (if v3I = ((-1) : Int32) then (.inl (3, v0R, 0, v2I, 0, v4I, 0, σ)) else (gdT (okO σ v0R 10) <| bndT (M_Pw_isNearer v0R v4I v3I v2I σ) fun r1 σ2 => if r1 = 0 then (.inl (4, v0R, 0, v2I, v3I, v4I, 0, σ2)) else (.inl (3, v0R, 0, v2I, 0, v4I, 0, σ2)))) else (.inl (4, v0R, 0, v2I, v3I, v4I, 0, σ))
noncomputable def T_Pw_nearest_3 (v0R : Nat) (v2I : Int32) (v4I : Int32) (σ : AM) : S_Pw_nearest ⊕ Option (Int32 × AM) :=
  .inl (4, v0R, 0, v2I, v4I, v4I, 0, σ)
noncomputable def T_Pw_nearest_4 (v0R : Nat) (v2I : Int32) (v3I : Int32) (v4I : Int32) (σ : AM) : S_Pw_nearest ⊕ Option (Int32 × AM) :=
  .inl (1, v0R, 0, v2I, v3I, v4I + (1 : Int32), 0, σ)
noncomputable def F_Pw_nearest : S_Pw_nearest → S_Pw_nearest ⊕ Option (Int32 × AM) := fun s => match s.1 with
  | 0 => T_Pw_nearest_0 (s.2.1) (s.2.2.1) (s.2.2.2.1) (s.2.2.2.2.2.2.2)
  | 1 => T_Pw_nearest_1 (s.2.1) (s.2.2.2.1) (s.2.2.2.2.1) (s.2.2.2.2.2.1) (s.2.2.2.2.2.2.2)
  | 2 => T_Pw_nearest_2 (s.2.1) (s.2.2.2.1) (s.2.2.2.2.1) (s.2.2.2.2.2.1) (s.2.2.2.2.2.2.1) (s.2.2.2.2.2.2.2)
  | 3 => T_Pw_nearest_3 (s.2.1) (s.2.2.2.1) (s.2.2.2.2.2.1) (s.2.2.2.2.2.2.2)
  | _ => T_Pw_nearest_4 (s.2.1) (s.2.2.2.1) (s.2.2.2.2.1) (s.2.2.2.2.2.1) (s.2.2.2.2.2.2.2)
noncomputable def L_Pw_nearest_0 (v0R : Nat) (v1I : Int32) (v2I : Int32) (σ : AM) : Option (Int32 × AM) := lp F_Pw_nearest (0, v0R, v1I, v2I, 0, 0, 0, σ)
noncomputable def L_Pw_nearest_1 (v0R : Nat) (v2I : Int32) (v3I : Int32) (v4I : Int32) (σ : AM) : Option (Int32 × AM) := lp F_Pw_nearest (1, v0R, 0, v2I, v3I, v4I, 0, σ)
noncomputable def L_Pw_nearest_2 (v0R : Nat) (v2I : Int32) (v3I : Int32) (v4I : Int32) (s0I : Int32) (σ : AM) : Option (Int32 × AM) := lp F_Pw_nearest (2, v0R, 0, v2I, v3I, v4I, s0I, σ)
noncomputable def L_Pw_nearest_3 (v0R : Nat) (v2I : Int32) (v4I : Int32) (σ : AM) : Option (Int32 × AM) := lp F_Pw_nearest (3, v0R, 0, v2I, 0, v4I, 0, σ)
noncomputable def L_Pw_nearest_4 (v0R : Nat) (v2I : Int32) (v3I : Int32) (v4I : Int32) (σ : AM) : Option (Int32 × AM) := lp F_Pw_nearest (4, v0R, 0, v2I, v3I, v4I, 0, σ)
set_option maxRecDepth 20000 in
theorem E_Pw_nearest_0 (v0R : Nat) (v1I : Int32) (v2I : Int32) (σ : AM) : L_Pw_nearest_0 v0R v1I v2I σ = (gd (okO σ v0R 10) <| gd (okO σ (aR σ v0R 1) 3) <| bnd (M_Ls_weigh (aR σ v0R 1) v1I σ) fun _ σ4 => L_Pw_nearest_1 v0R v2I (((-1) : Int32)) ((0 : Int32)) σ4) := by
  unfold L_Pw_nearest_0
  rw [lp_eq]
  show lpK (lp F_Pw_nearest) (T_Pw_nearest_0 v0R v1I v2I σ) = _
  unfold T_Pw_nearest_0
  simp only [lpK_ite, lq_inl, lq_inr, lpK_bnd, lpK_gd, lq_let]
  try rfl
set_option maxRecDepth 20000 in
theorem E_Pw_nearest_1 (v0R : Nat) (v2I : Int32) (v3I : Int32) (v4I : Int32) (σ : AM) : L_Pw_nearest_1 v0R v2I v3I v4I σ = (gd (okO σ v0R 10) <| gd (okO σ (aR σ v0R 0) 1) <| bnd (M_Tw_sets (aR σ v0R 0) σ) fun r3 σ4 => if v4I < r3 then (gd (okO σ4 v0R 10) <| gd (okO σ4 (aR σ4 v0R 1) 3) <| bnd (M_Ls_weightOf (aR σ4 v0R 1) v4I σ4) fun r7 σ8 => gd (okO σ8 v0R 10) <| gd (okO σ8 (aR σ8 v0R 0) 1) <| bnd (M_Tw_bar (aR σ8 v0R 0) σ8) fun r11 σ12 => if r7 < r11 then (L_Pw_nearest_2 v0R v2I v3I v4I ((0 : Int32)) σ12) else (L_Pw_nearest_2 v0R v2I v3I v4I ((1 : Int32)) σ12)) else ((some (v3I, σ4)))) := by
  unfold L_Pw_nearest_1
  rw [lp_eq]
  show lpK (lp F_Pw_nearest) (T_Pw_nearest_1 v0R v2I v3I v4I σ) = _
  unfold T_Pw_nearest_1
  simp only [lpK_ite, lq_inl, lq_inr, lpK_bnd, lpK_gd, lq_let]
  try rfl
set_option maxRecDepth 20000 in
theorem E_Pw_nearest_2 (v0R : Nat) (v2I : Int32) (v3I : Int32) (v4I : Int32) (s0I : Int32) (σ : AM) : L_Pw_nearest_2 v0R v2I v3I v4I s0I σ = (if s0I = v2I then (if v3I = ((-1) : Int32) then (L_Pw_nearest_3 v0R v2I v4I σ) else (gd (okO σ v0R 10) <| bnd (M_Pw_isNearer v0R v4I v3I v2I σ) fun r1 σ2 => if r1 = 0 then (L_Pw_nearest_4 v0R v2I v3I v4I σ2) else (L_Pw_nearest_3 v0R v2I v4I σ2))) else (L_Pw_nearest_4 v0R v2I v3I v4I σ)) := by
  unfold L_Pw_nearest_2
  rw [lp_eq]
  show lpK (lp F_Pw_nearest) (T_Pw_nearest_2 v0R v2I v3I v4I s0I σ) = _
  unfold T_Pw_nearest_2
  simp only [lpK_ite, lq_inl, lq_inr, lpK_bnd, lpK_gd, lq_let]
  try rfl
set_option maxRecDepth 20000 in
theorem E_Pw_nearest_3 (v0R : Nat) (v2I : Int32) (v4I : Int32) (σ : AM) : L_Pw_nearest_3 v0R v2I v4I σ = (L_Pw_nearest_4 v0R v2I v4I v4I σ) := by
  unfold L_Pw_nearest_3
  rw [lp_eq]
  show lpK (lp F_Pw_nearest) (T_Pw_nearest_3 v0R v2I v4I σ) = _
  unfold T_Pw_nearest_3
  simp only [lpK_ite, lq_inl, lq_inr, lpK_bnd, lpK_gd, lq_let]
  try rfl
set_option maxRecDepth 20000 in
theorem E_Pw_nearest_4 (v0R : Nat) (v2I : Int32) (v3I : Int32) (v4I : Int32) (σ : AM) : L_Pw_nearest_4 v0R v2I v3I v4I σ = (L_Pw_nearest_1 v0R v2I v3I (v4I + (1 : Int32)) σ) := by
  unfold L_Pw_nearest_4
  rw [lp_eq]
  show lpK (lp F_Pw_nearest) (T_Pw_nearest_4 v0R v2I v3I v4I σ) = _
  unfold T_Pw_nearest_4
  simp only [lpK_ite, lq_inl, lq_inr, lpK_bnd, lpK_gd, lq_let]
  try rfl
noncomputable def M_Pw_nearest (v0R : Nat) (v1I : Int32) (v2I : Int32) (σ : AM) : Option (Int32 × AM) := mw σ (L_Pw_nearest_0 v0R v1I v2I σ)
def I_Pw_nearest (G : GX) (p : Program) (l : Launch) (e : Env) (s : State) (m : MethodId) (args : Array Value) (below : List Frame) (meth : Method) (c : Code) (z0 u0 n : Nat) : Prop :=
  (∀ (v0R : Nat) (v1I : Int32) (v2I : Int32) (σ : AM), VX (QM eI G args s below z0 u0) G p l e s m args below meth c 3 z0 u0 6 (lpn F_Pw_nearest n (0, v0R, v1I, v2I, 0, 0, 0, σ)) 0 [(0, .ref v0R), (1, .int v1I), (2, .int v2I)] [] σ) ∧
  (∀ (v0R : Nat) (v2I : Int32) (v3I : Int32) (v4I : Int32) (σ : AM), VX (QM eI G args s below z0 u0) G p l e s m args below meth c 3 z0 u0 6 (lpn F_Pw_nearest n (1, v0R, 0, v2I, v3I, v4I, 0, σ)) 13 [(0, .ref v0R), (2, .int v2I), (3, .int v3I), (4, .int v4I)] [] σ) ∧
  (∀ (v0R : Nat) (v2I : Int32) (v3I : Int32) (v4I : Int32) (s0I : Int32) (σ : AM), VX (QM eI G args s below z0 u0) G p l e s m args below meth c 3 z0 u0 6 (lpn F_Pw_nearest n (2, v0R, 0, v2I, v3I, v4I, s0I, σ)) 49 [(0, .ref v0R), (2, .int v2I), (3, .int v3I), (4, .int v4I)] [.int s0I] σ) ∧
  (∀ (v0R : Nat) (v2I : Int32) (v4I : Int32) (σ : AM), VX (QM eI G args s below z0 u0) G p l e s m args below meth c 3 z0 u0 6 (lpn F_Pw_nearest n (3, v0R, 0, v2I, 0, v4I, 0, σ)) 73 [(0, .ref v0R), (2, .int v2I), (4, .int v4I)] [] σ) ∧
  (∀ (v0R : Nat) (v2I : Int32) (v3I : Int32) (v4I : Int32) (σ : AM), VX (QM eI G args s below z0 u0) G p l e s m args below meth c 3 z0 u0 6 (lpn F_Pw_nearest n (4, v0R, 0, v2I, v3I, v4I, 0, σ)) 76 [(0, .ref v0R), (2, .int v2I), (3, .int v3I), (4, .int v4I)] [] σ)
set_option maxRecDepth 20000 in
theorem s_Pw_nearest_0 {G : GX} {p : Program} {l : Launch} {e : Env} {s : State} {m : MethodId} {args : Array Value} {below : List Frame} {meth : Method} {c : Code} {z0 u0 n : Nat} (C : Cx G p s m args meth c prog_8_method_5_code 6 "BellPlate$Power" ((some FieldType.int))) (IH : I_Pw_nearest G p l e s m args below meth c z0 u0 n) (v0R : Nat) (v1I : Int32) (v2I : Int32) (σ : AM) : VX (QM eI G args s below z0 u0) G p l e s m args below meth c 3 z0 u0 6 (lpK (lpn F_Pw_nearest n) (T_Pw_nearest_0 v0R v1I v2I σ)) 0 [(0, .ref v0R), (1, .int v1I), (2, .int v2I)] [] σ := by
  unfold T_Pw_nearest_0
  refine x_aload_n C d_Pw_nearest_0 0 rfl ?_
  refine x_gd (fun h1 => ?_)
  refine x_gd (fun h2 => ?_)
  refine x_getR (k := 1) (kv := 3) C (okO_iff.mp h1) rfl j9_ok (by decide) rfl (okO_iff.mp h2) (by decide) w589 d_Pw_nearest_1 ?_
  refine x_iload_n C d_Pw_nearest_4 1 rfl ?_
  refine x_callVV (As := [.int v1I]) C (c_Ls_weigh G l (aR σ v0R 1) v1I σ) (okO_iff.mp h2) rfl w659 w660 w1580 w661 w123 k_Ls_weigh rfl (by decide) (by decide) rfl (Nat.le_of_ble_eq_true rfl) d_Pw_nearest_5 (fun r3 σ4 => ?_)
  refine x_iconst (v := ((-1) : Int32)) C d_Pw_nearest_8 (by decide) ?_
  refine x_istore_n (lv' := [(3, .int ((-1) : Int32)), (0, .ref v0R), (1, .int v1I), (2, .int v2I)]) C d_Pw_nearest_9 (by decide) rfl rfl ?_
  refine x_iconst (v := (0 : Int32)) C d_Pw_nearest_10 (by decide) ?_
  refine x_istore (lv' := [(4, .int (0 : Int32)), (3, .int ((-1) : Int32)), (0, .ref v0R), (1, .int v1I), (2, .int v2I)]) C d_Pw_nearest_11 (by decide) rfl ?_
  refine x_lv [2, 4, 1, 0] rfl ?_
  exact IH.2.1 v0R v2I (((-1) : Int32)) ((0 : Int32)) (σ4)
set_option maxRecDepth 20000 in
theorem s_Pw_nearest_1 {G : GX} {p : Program} {l : Launch} {e : Env} {s : State} {m : MethodId} {args : Array Value} {below : List Frame} {meth : Method} {c : Code} {z0 u0 n : Nat} (C : Cx G p s m args meth c prog_8_method_5_code 6 "BellPlate$Power" ((some FieldType.int))) (IH : I_Pw_nearest G p l e s m args below meth c z0 u0 n) (v0R : Nat) (v2I : Int32) (v3I : Int32) (v4I : Int32) (σ : AM) : VX (QM eI G args s below z0 u0) G p l e s m args below meth c 3 z0 u0 6 (lpK (lpn F_Pw_nearest n) (T_Pw_nearest_1 v0R v2I v3I v4I σ)) 13 [(0, .ref v0R), (2, .int v2I), (3, .int v3I), (4, .int v4I)] [] σ := by
  unfold T_Pw_nearest_1
  refine x_iload C d_Pw_nearest_13 3 rfl ?_
  refine x_aload_n C d_Pw_nearest_15 0 rfl ?_
  refine x_gd (fun h1 => ?_)
  refine x_gd (fun h2 => ?_)
  refine x_getR (k := 0) (kv := 1) C (okO_iff.mp h1) rfl j9_ok (by decide) rfl (okO_iff.mp h2) (by decide) w588 d_Pw_nearest_16 ?_
  refine x_callVI (As := []) C (c_Tw_sets G l (aR σ v0R 0)  σ) (okO_iff.mp h2) rfl w600 w601 w1581 w602 w122 k_Tw_sets rfl (by decide) (by decide) rfl (Nat.le_of_ble_eq_true rfl) d_Pw_nearest_19 (fun r3 σ4 => ?_)
  refine x_icmp_ge (tgt := 82) C d_Pw_nearest_22 (by decide) (fun _ => ?_) (fun _ => ?_)
  · refine x_aload_n C d_Pw_nearest_25 0 rfl ?_
    refine x_gd (fun h5 => ?_)
    refine x_gd (fun h6 => ?_)
    refine x_getR (k := 1) (kv := 3) C (okO_iff.mp h5) rfl j9_ok (by decide) rfl (okO_iff.mp h6) (by decide) w589 d_Pw_nearest_26 ?_
    refine x_iload C d_Pw_nearest_29 3 rfl ?_
    refine x_callVI (As := [.int v4I]) C (c_Ls_weightOf G l (aR σ4 v0R 1) v4I σ4) (okO_iff.mp h6) rfl w1583 w1584 w1582 w1585 w123 k_Ls_weightOf rfl (by decide) (by decide) rfl (Nat.le_of_ble_eq_true rfl) d_Pw_nearest_31 (fun r7 σ8 => ?_)
    refine x_aload_n C d_Pw_nearest_34 0 rfl ?_
    refine x_gd (fun h9 => ?_)
    refine x_gd (fun h10 => ?_)
    refine x_getR (k := 0) (kv := 1) C (okO_iff.mp h9) rfl j9_ok (by decide) rfl (okO_iff.mp h10) (by decide) w588 d_Pw_nearest_35 ?_
    refine x_callVI (As := []) C (c_Tw_bar G l (aR σ8 v0R 0)  σ8) (okO_iff.mp h10) rfl w655 w656 w1586 w657 w122 k_Tw_bar rfl (by decide) (by decide) rfl (Nat.le_of_ble_eq_true rfl) d_Pw_nearest_38 (fun r11 σ12 => ?_)
    refine x_icmp_lt (tgt := 48) C d_Pw_nearest_41 (by decide) (fun _ => ?_) (fun _ => ?_)
    · refine x_iconst (v := (0 : Int32)) C d_Pw_nearest_48 (by decide) ?_
      exact IH.2.2.1 v0R v2I v3I v4I ((0 : Int32)) (σ12)
    · refine x_iconst (v := (1 : Int32)) C d_Pw_nearest_44 (by decide) ?_
      refine x_goto (tgt := 49) C d_Pw_nearest_45 (by decide) ?_
      exact IH.2.2.1 v0R v2I v3I v4I ((1 : Int32)) (σ12)
  · refine x_iload_n C d_Pw_nearest_82 2 rfl ?_
    exact x_iret C d_Pw_nearest_83
set_option maxRecDepth 20000 in
theorem s_Pw_nearest_2 {G : GX} {p : Program} {l : Launch} {e : Env} {s : State} {m : MethodId} {args : Array Value} {below : List Frame} {meth : Method} {c : Code} {z0 u0 n : Nat} (C : Cx G p s m args meth c prog_8_method_5_code 6 "BellPlate$Power" ((some FieldType.int))) (IH : I_Pw_nearest G p l e s m args below meth c z0 u0 n) (v0R : Nat) (v2I : Int32) (v3I : Int32) (v4I : Int32) (s0I : Int32) (σ : AM) : VX (QM eI G args s below z0 u0) G p l e s m args below meth c 3 z0 u0 6 (lpK (lpn F_Pw_nearest n) (T_Pw_nearest_2 v0R v2I v3I v4I s0I σ)) 49 [(0, .ref v0R), (2, .int v2I), (3, .int v3I), (4, .int v4I)] [.int s0I] σ := by
  unfold T_Pw_nearest_2
  refine x_istore (lv' := [(5, .int s0I), (0, .ref v0R), (2, .int v2I), (3, .int v3I), (4, .int v4I)]) C d_Pw_nearest_49 (by decide) rfl ?_
  refine x_iload C d_Pw_nearest_51 0 rfl ?_
  refine x_iload_n C d_Pw_nearest_53 2 rfl ?_
  refine x_icmp_ne (tgt := 76) C d_Pw_nearest_54 (by decide) (fun _ => ?_) (fun _ => ?_)
  · refine x_iload_n C d_Pw_nearest_57 3 rfl ?_
    refine x_iconst (v := ((-1) : Int32)) C d_Pw_nearest_58 (by decide) ?_
    refine x_icmp_eq (tgt := 73) C d_Pw_nearest_59 (by decide) (fun _ => ?_) (fun _ => ?_)
    · refine x_lv [1, 2, 4] rfl ?_
      exact IH.2.2.2.1 v0R v2I v4I (σ)
    · refine x_aload_n C d_Pw_nearest_62 1 rfl ?_
      refine x_iload C d_Pw_nearest_63 4 rfl ?_
      refine x_iload_n C d_Pw_nearest_65 3 rfl ?_
      refine x_iload_n C d_Pw_nearest_66 2 rfl ?_
      refine x_gd (fun h3 => ?_)
      refine x_callVI (As := [.int v4I, .int v3I, .int v2I]) C (c_Pw_isNearer G l v0R v4I v3I v2I σ) (okO_iff.mp h3) rfl w1589 w52 w1587 w1590 w131 k_Pw_isNearer rfl (by decide) (by decide) rfl (Nat.le_of_ble_eq_true rfl) d_Pw_nearest_67 (fun r1 σ2 => ?_)
      refine x_if_eq (tgt := 76) C d_Pw_nearest_70 (by decide) (fun _ => ?_) (fun _ => ?_)
      · refine x_lv [1, 2, 3, 4] rfl ?_
        exact IH.2.2.2.2 v0R v2I v3I v4I (σ2)
      · refine x_lv [1, 2, 4] rfl ?_
        exact IH.2.2.2.1 v0R v2I v4I (σ2)
  · refine x_lv [1, 2, 3, 4] rfl ?_
    exact IH.2.2.2.2 v0R v2I v3I v4I (σ)
set_option maxRecDepth 20000 in
theorem s_Pw_nearest_3 {G : GX} {p : Program} {l : Launch} {e : Env} {s : State} {m : MethodId} {args : Array Value} {below : List Frame} {meth : Method} {c : Code} {z0 u0 n : Nat} (C : Cx G p s m args meth c prog_8_method_5_code 6 "BellPlate$Power" ((some FieldType.int))) (IH : I_Pw_nearest G p l e s m args below meth c z0 u0 n) (v0R : Nat) (v2I : Int32) (v4I : Int32) (σ : AM) : VX (QM eI G args s below z0 u0) G p l e s m args below meth c 3 z0 u0 6 (lpK (lpn F_Pw_nearest n) (T_Pw_nearest_3 v0R v2I v4I σ)) 73 [(0, .ref v0R), (2, .int v2I), (4, .int v4I)] [] σ := by
  unfold T_Pw_nearest_3
  refine x_iload C d_Pw_nearest_73 2 rfl ?_
  refine x_istore_n (lv' := [(3, .int v4I), (0, .ref v0R), (2, .int v2I), (4, .int v4I)]) C d_Pw_nearest_75 (by decide) rfl rfl ?_
  refine x_lv [1, 2, 0, 3] rfl ?_
  exact IH.2.2.2.2 v0R v2I v4I v4I (σ)
set_option maxRecDepth 20000 in
theorem s_Pw_nearest_4 {G : GX} {p : Program} {l : Launch} {e : Env} {s : State} {m : MethodId} {args : Array Value} {below : List Frame} {meth : Method} {c : Code} {z0 u0 n : Nat} (C : Cx G p s m args meth c prog_8_method_5_code 6 "BellPlate$Power" ((some FieldType.int))) (IH : I_Pw_nearest G p l e s m args below meth c z0 u0 n) (v0R : Nat) (v2I : Int32) (v3I : Int32) (v4I : Int32) (σ : AM) : VX (QM eI G args s below z0 u0) G p l e s m args below meth c 3 z0 u0 6 (lpK (lpn F_Pw_nearest n) (T_Pw_nearest_4 v0R v2I v3I v4I σ)) 76 [(0, .ref v0R), (2, .int v2I), (3, .int v3I), (4, .int v4I)] [] σ := by
  unfold T_Pw_nearest_4
  refine x_iinc (v := v4I + (1 : Int32)) (lv' := [(4, .int (v4I + (1 : Int32))), (0, .ref v0R), (2, .int v2I), (3, .int v3I)]) C d_Pw_nearest_76 3 rfl rfl (by decide) rfl ?_
  refine x_goto (tgt := 13) C d_Pw_nearest_79 (by decide) ?_
  refine x_lv [1, 2, 3, 0] rfl ?_
  exact IH.2.1 v0R v2I v3I (v4I + (1 : Int32)) (σ)
theorem i_Pw_nearest {G : GX} {p : Program} {l : Launch} {e : Env} {s : State} {m : MethodId} {args : Array Value} {below : List Frame} {meth : Method} {c : Code} {z0 u0 : Nat} (C : Cx G p s m args meth c prog_8_method_5_code 6 "BellPlate$Power" ((some FieldType.int))) (n : Nat) : I_Pw_nearest G p l e s m args below meth c z0 u0 n := by
  induction n with
  | zero => exact ⟨fun _ _ _ _ => x_none, fun _ _ _ _ _ => x_none, fun _ _ _ _ _ _ => x_none, fun _ _ _ _ => x_none, fun _ _ _ _ _ => x_none⟩
  | succ n IH => exact ⟨fun v0R v1I v2I σ => s_Pw_nearest_0 C IH v0R v1I v2I σ, fun v0R v2I v3I v4I σ => s_Pw_nearest_1 C IH v0R v2I v3I v4I σ, fun v0R v2I v3I v4I s0I σ => s_Pw_nearest_2 C IH v0R v2I v3I v4I s0I σ, fun v0R v2I v4I σ => s_Pw_nearest_3 C IH v0R v2I v4I σ, fun v0R v2I v3I v4I σ => s_Pw_nearest_4 C IH v0R v2I v3I v4I σ⟩
theorem c_Pw_nearest (G : GX) (l : Launch) (v0R : Nat) (v1I : Int32) (v2I : Int32) (σ : AM) : CT eI G l 3 y_Pw_nearest prog_8_method_5_code 6 ((some FieldType.int)) [.ref v0R, .int v1I, .int v2I] σ (M_Pw_nearest v0R v1I v2I σ) := by
  refine ct_of (by decide +kernel) (Nat.le_of_ble_eq_true rfl) (fun p e s m args below meth c C hin => ?_)
  refine x_lve (lv' := [(0, .ref v0R), (1, .int v1I), (2, .int v2I)]) rfl ?_
  intro r σ' h
  obtain ⟨n, hn⟩ := (lp_iff _ _ _).mp h
  exact (i_Pw_nearest C n).1 v0R v1I v2I σ r σ' hn
/-! BellPlate$Power.weightOf(I)I -/
abbrev y_Pw_weightOf : MethodName := ⟨"BellPlate$Power", "weightOf", "(I)I"⟩
theorem k_Pw_weightOf : y_Pw_weightOf.cls ≠ "java/lang/invoke/MethodHandle" ∧ y_Pw_weightOf.cls ≠ "java/lang/invoke/VarHandle" ∧ (parseMethodDescriptor y_Pw_weightOf.desc).map (fun d => d.parameters.length) = some 1 := by decide +kernel
theorem d_Pw_weightOf_0 : decode prog_8_method_7_code 0 = .ok (.aload_n 0, 1) := by decide +kernel
theorem d_Pw_weightOf_1 : decode prog_8_method_7_code 1 = .ok (.getfield 15, 3) := by decide +kernel
theorem d_Pw_weightOf_4 : decode prog_8_method_7_code 4 = .ok (.iload_n 1, 1) := by decide +kernel
theorem d_Pw_weightOf_5 : decode prog_8_method_7_code 5 = .ok (.invokevirtual 61, 3) := by decide +kernel
theorem d_Pw_weightOf_8 : decode prog_8_method_7_code 8 = .ok (.ireturn, 1) := by decide +kernel
abbrev S_Pw_weightOf : Type := Nat × Nat × Int32 × AM
noncomputable def T_Pw_weightOf_0 (v0R : Nat) (v1I : Int32) (σ : AM) : S_Pw_weightOf ⊕ Option (Int32 × AM) :=
  gdT (okO σ v0R 10) <| gdT (okO σ (aR σ v0R 1) 3) <| bndT (M_Ls_weightOf (aR σ v0R 1) v1I σ) fun r3 σ4 => .inr (some (r3, σ4))
noncomputable def F_Pw_weightOf : S_Pw_weightOf → S_Pw_weightOf ⊕ Option (Int32 × AM) := fun s => match s.1 with
  | _ => T_Pw_weightOf_0 (s.2.1) (s.2.2.1) (s.2.2.2)
noncomputable def L_Pw_weightOf_0 (v0R : Nat) (v1I : Int32) (σ : AM) : Option (Int32 × AM) := lp F_Pw_weightOf (0, v0R, v1I, σ)
set_option maxRecDepth 20000 in
theorem E_Pw_weightOf_0 (v0R : Nat) (v1I : Int32) (σ : AM) : L_Pw_weightOf_0 v0R v1I σ = (gd (okO σ v0R 10) <| gd (okO σ (aR σ v0R 1) 3) <| bnd (M_Ls_weightOf (aR σ v0R 1) v1I σ) fun r3 σ4 => (some (r3, σ4))) := by
  unfold L_Pw_weightOf_0
  rw [lp_eq]
  show lpK (lp F_Pw_weightOf) (T_Pw_weightOf_0 v0R v1I σ) = _
  unfold T_Pw_weightOf_0
  simp only [lpK_ite, lq_inl, lq_inr, lpK_bnd, lpK_gd, lq_let]
  try rfl
noncomputable def M_Pw_weightOf (v0R : Nat) (v1I : Int32) (σ : AM) : Option (Int32 × AM) := mw σ (L_Pw_weightOf_0 v0R v1I σ)
def I_Pw_weightOf (G : GX) (p : Program) (l : Launch) (e : Env) (s : State) (m : MethodId) (args : Array Value) (below : List Frame) (meth : Method) (c : Code) (z0 u0 n : Nat) : Prop :=
  (∀ (v0R : Nat) (v1I : Int32) (σ : AM), VX (QM eI G args s below z0 u0) G p l e s m args below meth c 1 z0 u0 2 (lpn F_Pw_weightOf n (0, v0R, v1I, σ)) 0 [(0, .ref v0R), (1, .int v1I)] [] σ)
set_option maxRecDepth 20000 in
theorem s_Pw_weightOf_0 {G : GX} {p : Program} {l : Launch} {e : Env} {s : State} {m : MethodId} {args : Array Value} {below : List Frame} {meth : Method} {c : Code} {z0 u0 n : Nat} (C : Cx G p s m args meth c prog_8_method_7_code 2 "BellPlate$Power" ((some FieldType.int))) (IH : I_Pw_weightOf G p l e s m args below meth c z0 u0 n) (v0R : Nat) (v1I : Int32) (σ : AM) : VX (QM eI G args s below z0 u0) G p l e s m args below meth c 1 z0 u0 2 (lpK (lpn F_Pw_weightOf n) (T_Pw_weightOf_0 v0R v1I σ)) 0 [(0, .ref v0R), (1, .int v1I)] [] σ := by
  unfold T_Pw_weightOf_0
  refine x_aload_n C d_Pw_weightOf_0 0 rfl ?_
  refine x_gd (fun h1 => ?_)
  refine x_gd (fun h2 => ?_)
  refine x_getR (k := 1) (kv := 3) C (okO_iff.mp h1) rfl j9_ok (by decide) rfl (okO_iff.mp h2) (by decide) w589 d_Pw_weightOf_1 ?_
  refine x_iload_n C d_Pw_weightOf_4 1 rfl ?_
  refine x_callVI (As := [.int v1I]) C (c_Ls_weightOf G l (aR σ v0R 1) v1I σ) (okO_iff.mp h2) rfl w1583 w1584 w1582 w1585 w123 k_Ls_weightOf rfl (by decide) (by decide) rfl (Nat.le_of_ble_eq_true rfl) d_Pw_weightOf_5 (fun r3 σ4 => ?_)
  exact x_iret C d_Pw_weightOf_8
theorem i_Pw_weightOf {G : GX} {p : Program} {l : Launch} {e : Env} {s : State} {m : MethodId} {args : Array Value} {below : List Frame} {meth : Method} {c : Code} {z0 u0 : Nat} (C : Cx G p s m args meth c prog_8_method_7_code 2 "BellPlate$Power" ((some FieldType.int))) (n : Nat) : I_Pw_weightOf G p l e s m args below meth c z0 u0 n := by
  induction n with
  | zero => exact fun _ _ _ => x_none
  | succ n IH => exact fun v0R v1I σ => s_Pw_weightOf_0 C IH v0R v1I σ
theorem c_Pw_weightOf (G : GX) (l : Launch) (v0R : Nat) (v1I : Int32) (σ : AM) : CT eI G l 1 y_Pw_weightOf prog_8_method_7_code 2 ((some FieldType.int)) [.ref v0R, .int v1I] σ (M_Pw_weightOf v0R v1I σ) := by
  refine ct_of (by decide +kernel) (Nat.le_of_ble_eq_true rfl) (fun p e s m args below meth c C hin => ?_)
  refine x_lve (lv' := [(0, .ref v0R), (1, .int v1I)]) rfl ?_
  intro r σ' h
  obtain ⟨n, hn⟩ := (lp_iff _ _ _).mp h
  exact (i_Pw_weightOf C n) v0R v1I σ r σ' hn
/-! BellPlate$Power.inAllThatRing(I)I -/
abbrev y_Pw_inAllThatRing : MethodName := ⟨"BellPlate$Power", "inAllThatRing", "(I)I"⟩
theorem k_Pw_inAllThatRing : y_Pw_inAllThatRing.cls ≠ "java/lang/invoke/MethodHandle" ∧ y_Pw_inAllThatRing.cls ≠ "java/lang/invoke/VarHandle" ∧ (parseMethodDescriptor y_Pw_inAllThatRing.desc).map (fun d => d.parameters.length) = some 1 := by decide +kernel
theorem d_Pw_inAllThatRing_0 : decode prog_8_method_8_code 0 = .ok (.aload_n 0, 1) := by decide +kernel
theorem d_Pw_inAllThatRing_1 : decode prog_8_method_8_code 1 = .ok (.getfield 15, 3) := by decide +kernel
theorem d_Pw_inAllThatRing_4 : decode prog_8_method_8_code 4 = .ok (.iload_n 1, 1) := by decide +kernel
theorem d_Pw_inAllThatRing_5 : decode prog_8_method_8_code 5 = .ok (.invokevirtual 33, 3) := by decide +kernel
theorem d_Pw_inAllThatRing_8 : decode prog_8_method_8_code 8 = .ok (.lstore_n 2, 1) := by decide +kernel
theorem d_Pw_inAllThatRing_9 : decode prog_8_method_8_code 9 = .ok (.aload_n 0, 1) := by decide +kernel
theorem d_Pw_inAllThatRing_10 : decode prog_8_method_8_code 10 = .ok (.getfield 9, 3) := by decide +kernel
theorem d_Pw_inAllThatRing_13 : decode prog_8_method_8_code 13 = .ok (.invokevirtual 58, 3) := by decide +kernel
theorem d_Pw_inAllThatRing_16 : decode prog_8_method_8_code 16 = .ok (.iconst 1, 1) := by decide +kernel
theorem d_Pw_inAllThatRing_17 : decode prog_8_method_8_code 17 = .ok (.isub, 1) := by decide +kernel
theorem d_Pw_inAllThatRing_18 : decode prog_8_method_8_code 18 = .ok (.istore 4, 2) := by decide +kernel
theorem d_Pw_inAllThatRing_20 : decode prog_8_method_8_code 20 = .ok (.iconst 0, 1) := by decide +kernel
theorem d_Pw_inAllThatRing_21 : decode prog_8_method_8_code 21 = .ok (.istore 5, 2) := by decide +kernel
theorem d_Pw_inAllThatRing_23 : decode prog_8_method_8_code 23 = .ok (.iload 5, 2) := by decide +kernel
theorem d_Pw_inAllThatRing_25 : decode prog_8_method_8_code 25 = .ok (.aload_n 0, 1) := by decide +kernel
theorem d_Pw_inAllThatRing_26 : decode prog_8_method_8_code 26 = .ok (.getfield 9, 3) := by decide +kernel
theorem d_Pw_inAllThatRing_29 : decode prog_8_method_8_code 29 = .ok (.invokevirtual 58, 3) := by decide +kernel
theorem d_Pw_inAllThatRing_32 : decode prog_8_method_8_code 32 = .ok (.if_icmp .ge 25, 3) := by decide +kernel
theorem d_Pw_inAllThatRing_35 : decode prog_8_method_8_code 35 = .ok (.lload_n 2, 1) := by decide +kernel
theorem d_Pw_inAllThatRing_36 : decode prog_8_method_8_code 36 = .ok (.iload 5, 2) := by decide +kernel
theorem d_Pw_inAllThatRing_38 : decode prog_8_method_8_code 38 = .ok (.invokestatic 75, 3) := by decide +kernel
theorem d_Pw_inAllThatRing_41 : decode prog_8_method_8_code 41 = .ok (.ifCond .eq 10, 3) := by decide +kernel
theorem d_Pw_inAllThatRing_44 : decode prog_8_method_8_code 44 = .ok (.iload 4, 2) := by decide +kernel
theorem d_Pw_inAllThatRing_46 : decode prog_8_method_8_code 46 = .ok (.iload 5, 2) := by decide +kernel
theorem d_Pw_inAllThatRing_48 : decode prog_8_method_8_code 48 = .ok (.iand, 1) := by decide +kernel
theorem d_Pw_inAllThatRing_49 : decode prog_8_method_8_code 49 = .ok (.istore 4, 2) := by decide +kernel
theorem d_Pw_inAllThatRing_51 : decode prog_8_method_8_code 51 = .ok (.iinc 5 1, 3) := by decide +kernel
theorem d_Pw_inAllThatRing_54 : decode prog_8_method_8_code 54 = .ok (.goto (-31), 3) := by decide +kernel
theorem d_Pw_inAllThatRing_57 : decode prog_8_method_8_code 57 = .ok (.iload 4, 2) := by decide +kernel
theorem d_Pw_inAllThatRing_59 : decode prog_8_method_8_code 59 = .ok (.ireturn, 1) := by decide +kernel
abbrev S_Pw_inAllThatRing : Type := Nat × Nat × Int32 × Int64 × Int32 × Int32 × AM
noncomputable def T_Pw_inAllThatRing_0 (v0R : Nat) (v1I : Int32) (σ : AM) : S_Pw_inAllThatRing ⊕ Option (Int32 × AM) :=
  gdT (okO σ v0R 10) <| gdT (okO σ (aR σ v0R 1) 3) <| bndT (M_Ls_listOf (aR σ v0R 1) v1I σ) fun r3 σ4 => gdT (okO σ4 v0R 10) <| gdT (okO σ4 (aR σ4 v0R 0) 1) <| bndT (M_Tw_sets (aR σ4 v0R 0) σ4) fun r7 σ8 => letT (r7 - (1 : Int32)) fun x9 => .inl (1, v0R, 0, r3, x9, (0 : Int32), σ8)
noncomputable def T_Pw_inAllThatRing_1 (v0R : Nat) (v2J : Int64) (v4I : Int32) (v5I : Int32) (σ : AM) : S_Pw_inAllThatRing ⊕ Option (Int32 × AM) :=
  gdT (okO σ v0R 10) <| gdT (okO σ (aR σ v0R 0) 1) <| bndT (M_Tw_sets (aR σ v0R 0) σ) fun r3 σ4 => if v5I < r3 then (bndT (M_St_has v2J v5I σ4) fun r5 σ6 => if r5 = 0 then (.inl (2, v0R, 0, v2J, v4I, v5I, σ6)) else (letT (v4I &&& v5I) fun x7 => .inl (2, v0R, 0, v2J, x7, v5I, σ6))) else (.inr (some (v4I, σ4)))
noncomputable def T_Pw_inAllThatRing_2 (v0R : Nat) (v2J : Int64) (v4I : Int32) (v5I : Int32) (σ : AM) : S_Pw_inAllThatRing ⊕ Option (Int32 × AM) :=
  .inl (1, v0R, 0, v2J, v4I, v5I + (1 : Int32), σ)
noncomputable def F_Pw_inAllThatRing : S_Pw_inAllThatRing → S_Pw_inAllThatRing ⊕ Option (Int32 × AM) := fun s => match s.1 with
  | 0 => T_Pw_inAllThatRing_0 (s.2.1) (s.2.2.1) (s.2.2.2.2.2.2)
  | 1 => T_Pw_inAllThatRing_1 (s.2.1) (s.2.2.2.1) (s.2.2.2.2.1) (s.2.2.2.2.2.1) (s.2.2.2.2.2.2)
  | _ => T_Pw_inAllThatRing_2 (s.2.1) (s.2.2.2.1) (s.2.2.2.2.1) (s.2.2.2.2.2.1) (s.2.2.2.2.2.2)
noncomputable def L_Pw_inAllThatRing_0 (v0R : Nat) (v1I : Int32) (σ : AM) : Option (Int32 × AM) := lp F_Pw_inAllThatRing (0, v0R, v1I, 0, 0, 0, σ)
noncomputable def L_Pw_inAllThatRing_1 (v0R : Nat) (v2J : Int64) (v4I : Int32) (v5I : Int32) (σ : AM) : Option (Int32 × AM) := lp F_Pw_inAllThatRing (1, v0R, 0, v2J, v4I, v5I, σ)
noncomputable def L_Pw_inAllThatRing_2 (v0R : Nat) (v2J : Int64) (v4I : Int32) (v5I : Int32) (σ : AM) : Option (Int32 × AM) := lp F_Pw_inAllThatRing (2, v0R, 0, v2J, v4I, v5I, σ)
set_option maxRecDepth 20000 in
theorem E_Pw_inAllThatRing_0 (v0R : Nat) (v1I : Int32) (σ : AM) : L_Pw_inAllThatRing_0 v0R v1I σ = (gd (okO σ v0R 10) <| gd (okO σ (aR σ v0R 1) 3) <| bnd (M_Ls_listOf (aR σ v0R 1) v1I σ) fun r3 σ4 => gd (okO σ4 v0R 10) <| gd (okO σ4 (aR σ4 v0R 0) 1) <| bnd (M_Tw_sets (aR σ4 v0R 0) σ4) fun r7 σ8 => letT (r7 - (1 : Int32)) fun x9 => L_Pw_inAllThatRing_1 v0R r3 x9 ((0 : Int32)) σ8) := by
  unfold L_Pw_inAllThatRing_0
  rw [lp_eq]
  show lpK (lp F_Pw_inAllThatRing) (T_Pw_inAllThatRing_0 v0R v1I σ) = _
  unfold T_Pw_inAllThatRing_0
  simp only [lpK_ite, lq_inl, lq_inr, lpK_bnd, lpK_gd, lq_let]
  try rfl
set_option maxRecDepth 20000 in
theorem E_Pw_inAllThatRing_1 (v0R : Nat) (v2J : Int64) (v4I : Int32) (v5I : Int32) (σ : AM) : L_Pw_inAllThatRing_1 v0R v2J v4I v5I σ = (gd (okO σ v0R 10) <| gd (okO σ (aR σ v0R 0) 1) <| bnd (M_Tw_sets (aR σ v0R 0) σ) fun r3 σ4 => if v5I < r3 then (bnd (M_St_has v2J v5I σ4) fun r5 σ6 => if r5 = 0 then (L_Pw_inAllThatRing_2 v0R v2J v4I v5I σ6) else (letT (v4I &&& v5I) fun x7 => L_Pw_inAllThatRing_2 v0R v2J x7 v5I σ6)) else ((some (v4I, σ4)))) := by
  unfold L_Pw_inAllThatRing_1
  rw [lp_eq]
  show lpK (lp F_Pw_inAllThatRing) (T_Pw_inAllThatRing_1 v0R v2J v4I v5I σ) = _
  unfold T_Pw_inAllThatRing_1
  simp only [lpK_ite, lq_inl, lq_inr, lpK_bnd, lpK_gd, lq_let]
  try rfl
set_option maxRecDepth 20000 in
theorem E_Pw_inAllThatRing_2 (v0R : Nat) (v2J : Int64) (v4I : Int32) (v5I : Int32) (σ : AM) : L_Pw_inAllThatRing_2 v0R v2J v4I v5I σ = (L_Pw_inAllThatRing_1 v0R v2J v4I (v5I + (1 : Int32)) σ) := by
  unfold L_Pw_inAllThatRing_2
  rw [lp_eq]
  show lpK (lp F_Pw_inAllThatRing) (T_Pw_inAllThatRing_2 v0R v2J v4I v5I σ) = _
  unfold T_Pw_inAllThatRing_2
  simp only [lpK_ite, lq_inl, lq_inr, lpK_bnd, lpK_gd, lq_let]
  try rfl
noncomputable def M_Pw_inAllThatRing (v0R : Nat) (v1I : Int32) (σ : AM) : Option (Int32 × AM) := mw σ (L_Pw_inAllThatRing_0 v0R v1I σ)
def I_Pw_inAllThatRing (G : GX) (p : Program) (l : Launch) (e : Env) (s : State) (m : MethodId) (args : Array Value) (below : List Frame) (meth : Method) (c : Code) (z0 u0 n : Nat) : Prop :=
  (∀ (v0R : Nat) (v1I : Int32) (σ : AM), VX (QM eI G args s below z0 u0) G p l e s m args below meth c 4 z0 u0 6 (lpn F_Pw_inAllThatRing n (0, v0R, v1I, 0, 0, 0, σ)) 0 [(0, .ref v0R), (1, .int v1I)] [] σ) ∧
  (∀ (v0R : Nat) (v2J : Int64) (v4I : Int32) (v5I : Int32) (σ : AM), VX (QM eI G args s below z0 u0) G p l e s m args below meth c 4 z0 u0 6 (lpn F_Pw_inAllThatRing n (1, v0R, 0, v2J, v4I, v5I, σ)) 23 [(0, .ref v0R), (2, .long v2J), (4, .int v4I), (5, .int v5I)] [] σ) ∧
  (∀ (v0R : Nat) (v2J : Int64) (v4I : Int32) (v5I : Int32) (σ : AM), VX (QM eI G args s below z0 u0) G p l e s m args below meth c 4 z0 u0 6 (lpn F_Pw_inAllThatRing n (2, v0R, 0, v2J, v4I, v5I, σ)) 51 [(0, .ref v0R), (2, .long v2J), (4, .int v4I), (5, .int v5I)] [] σ)
set_option maxRecDepth 20000 in
theorem s_Pw_inAllThatRing_0 {G : GX} {p : Program} {l : Launch} {e : Env} {s : State} {m : MethodId} {args : Array Value} {below : List Frame} {meth : Method} {c : Code} {z0 u0 n : Nat} (C : Cx G p s m args meth c prog_8_method_8_code 6 "BellPlate$Power" ((some FieldType.int))) (IH : I_Pw_inAllThatRing G p l e s m args below meth c z0 u0 n) (v0R : Nat) (v1I : Int32) (σ : AM) : VX (QM eI G args s below z0 u0) G p l e s m args below meth c 4 z0 u0 6 (lpK (lpn F_Pw_inAllThatRing n) (T_Pw_inAllThatRing_0 v0R v1I σ)) 0 [(0, .ref v0R), (1, .int v1I)] [] σ := by
  unfold T_Pw_inAllThatRing_0
  refine x_aload_n C d_Pw_inAllThatRing_0 0 rfl ?_
  refine x_gd (fun h1 => ?_)
  refine x_gd (fun h2 => ?_)
  refine x_getR (k := 1) (kv := 3) C (okO_iff.mp h1) rfl j9_ok (by decide) rfl (okO_iff.mp h2) (by decide) w589 d_Pw_inAllThatRing_1 ?_
  refine x_iload_n C d_Pw_inAllThatRing_4 1 rfl ?_
  refine x_callVJ (As := [.int v1I]) C (c_Ls_listOf G l (aR σ v0R 1) v1I σ) (okO_iff.mp h2) rfl w991 w992 w1552 w993 w123 k_Ls_listOf rfl (by decide) (by decide) rfl (Nat.le_of_ble_eq_true rfl) d_Pw_inAllThatRing_5 (fun r3 σ4 => ?_)
  refine x_lstore_n (lv' := [(2, .long r3), (0, .ref v0R), (1, .int v1I)]) C d_Pw_inAllThatRing_8 (by decide) rfl rfl ?_
  refine x_aload_n C d_Pw_inAllThatRing_9 1 rfl ?_
  refine x_gd (fun h5 => ?_)
  refine x_gd (fun h6 => ?_)
  refine x_getR (k := 0) (kv := 1) C (okO_iff.mp h5) rfl j9_ok (by decide) rfl (okO_iff.mp h6) (by decide) w588 d_Pw_inAllThatRing_10 ?_
  refine x_callVI (As := []) C (c_Tw_sets G l (aR σ4 v0R 0)  σ4) (okO_iff.mp h6) rfl w600 w601 w1581 w602 w122 k_Tw_sets rfl (by decide) (by decide) rfl (Nat.le_of_ble_eq_true rfl) d_Pw_inAllThatRing_13 (fun r7 σ8 => ?_)
  refine x_iconst (v := (1 : Int32)) C d_Pw_inAllThatRing_16 (by decide) ?_
  refine x_isub C d_Pw_inAllThatRing_17 ?_
  refine x_letI (fun x9 _ => ?_)
  refine x_istore (lv' := [(4, .int x9), (2, .long r3), (0, .ref v0R), (1, .int v1I)]) C d_Pw_inAllThatRing_18 (by decide) rfl ?_
  refine x_iconst (v := (0 : Int32)) C d_Pw_inAllThatRing_20 (by decide) ?_
  refine x_istore (lv' := [(5, .int (0 : Int32)), (4, .int x9), (2, .long r3), (0, .ref v0R), (1, .int v1I)]) C d_Pw_inAllThatRing_21 (by decide) rfl ?_
  refine x_lv [3, 2, 1, 0] rfl ?_
  exact IH.2.1 v0R r3 x9 ((0 : Int32)) (σ8)
set_option maxRecDepth 20000 in
theorem s_Pw_inAllThatRing_1 {G : GX} {p : Program} {l : Launch} {e : Env} {s : State} {m : MethodId} {args : Array Value} {below : List Frame} {meth : Method} {c : Code} {z0 u0 n : Nat} (C : Cx G p s m args meth c prog_8_method_8_code 6 "BellPlate$Power" ((some FieldType.int))) (IH : I_Pw_inAllThatRing G p l e s m args below meth c z0 u0 n) (v0R : Nat) (v2J : Int64) (v4I : Int32) (v5I : Int32) (σ : AM) : VX (QM eI G args s below z0 u0) G p l e s m args below meth c 4 z0 u0 6 (lpK (lpn F_Pw_inAllThatRing n) (T_Pw_inAllThatRing_1 v0R v2J v4I v5I σ)) 23 [(0, .ref v0R), (2, .long v2J), (4, .int v4I), (5, .int v5I)] [] σ := by
  unfold T_Pw_inAllThatRing_1
  refine x_iload C d_Pw_inAllThatRing_23 3 rfl ?_
  refine x_aload_n C d_Pw_inAllThatRing_25 0 rfl ?_
  refine x_gd (fun h1 => ?_)
  refine x_gd (fun h2 => ?_)
  refine x_getR (k := 0) (kv := 1) C (okO_iff.mp h1) rfl j9_ok (by decide) rfl (okO_iff.mp h2) (by decide) w588 d_Pw_inAllThatRing_26 ?_
  refine x_callVI (As := []) C (c_Tw_sets G l (aR σ v0R 0)  σ) (okO_iff.mp h2) rfl w600 w601 w1581 w602 w122 k_Tw_sets rfl (by decide) (by decide) rfl (Nat.le_of_ble_eq_true rfl) d_Pw_inAllThatRing_29 (fun r3 σ4 => ?_)
  refine x_icmp_ge (tgt := 57) C d_Pw_inAllThatRing_32 (by decide) (fun _ => ?_) (fun _ => ?_)
  · refine x_lload_n C d_Pw_inAllThatRing_35 1 rfl ?_
    refine x_iload C d_Pw_inAllThatRing_36 3 rfl ?_
    refine x_callSI (As := [.long v2J, .int v5I]) C (c_St_has G l v2J v5I σ4) w1101 w1612 w1102 w141 k_St_has rfl (by decide) (by decide) rfl (Nat.le_of_ble_eq_true rfl) d_Pw_inAllThatRing_38 (fun r5 σ6 => ?_)
    refine x_if_eq (tgt := 51) C d_Pw_inAllThatRing_41 (by decide) (fun _ => ?_) (fun _ => ?_)
    · exact IH.2.2 v0R v2J v4I v5I (σ6)
    · refine x_iload C d_Pw_inAllThatRing_44 2 rfl ?_
      refine x_iload C d_Pw_inAllThatRing_46 3 rfl ?_
      refine x_iand C d_Pw_inAllThatRing_48 ?_
      refine x_letI (fun x7 _ => ?_)
      refine x_istore (lv' := [(4, .int x7), (0, .ref v0R), (2, .long v2J), (5, .int v5I)]) C d_Pw_inAllThatRing_49 (by decide) rfl ?_
      refine x_lv [1, 2, 0, 3] rfl ?_
      exact IH.2.2 v0R v2J x7 v5I (σ6)
  · refine x_iload C d_Pw_inAllThatRing_57 2 rfl ?_
    exact x_iret C d_Pw_inAllThatRing_59
set_option maxRecDepth 20000 in
theorem s_Pw_inAllThatRing_2 {G : GX} {p : Program} {l : Launch} {e : Env} {s : State} {m : MethodId} {args : Array Value} {below : List Frame} {meth : Method} {c : Code} {z0 u0 n : Nat} (C : Cx G p s m args meth c prog_8_method_8_code 6 "BellPlate$Power" ((some FieldType.int))) (IH : I_Pw_inAllThatRing G p l e s m args below meth c z0 u0 n) (v0R : Nat) (v2J : Int64) (v4I : Int32) (v5I : Int32) (σ : AM) : VX (QM eI G args s below z0 u0) G p l e s m args below meth c 4 z0 u0 6 (lpK (lpn F_Pw_inAllThatRing n) (T_Pw_inAllThatRing_2 v0R v2J v4I v5I σ)) 51 [(0, .ref v0R), (2, .long v2J), (4, .int v4I), (5, .int v5I)] [] σ := by
  unfold T_Pw_inAllThatRing_2
  refine x_iinc (v := v5I + (1 : Int32)) (lv' := [(5, .int (v5I + (1 : Int32))), (0, .ref v0R), (2, .long v2J), (4, .int v4I)]) C d_Pw_inAllThatRing_51 3 rfl rfl (by decide) rfl ?_
  refine x_goto (tgt := 23) C d_Pw_inAllThatRing_54 (by decide) ?_
  refine x_lv [1, 2, 3, 0] rfl ?_
  exact IH.2.1 v0R v2J v4I (v5I + (1 : Int32)) (σ)
theorem i_Pw_inAllThatRing {G : GX} {p : Program} {l : Launch} {e : Env} {s : State} {m : MethodId} {args : Array Value} {below : List Frame} {meth : Method} {c : Code} {z0 u0 : Nat} (C : Cx G p s m args meth c prog_8_method_8_code 6 "BellPlate$Power" ((some FieldType.int))) (n : Nat) : I_Pw_inAllThatRing G p l e s m args below meth c z0 u0 n := by
  induction n with
  | zero => exact ⟨fun _ _ _ => x_none, fun _ _ _ _ _ => x_none, fun _ _ _ _ _ => x_none⟩
  | succ n IH => exact ⟨fun v0R v1I σ => s_Pw_inAllThatRing_0 C IH v0R v1I σ, fun v0R v2J v4I v5I σ => s_Pw_inAllThatRing_1 C IH v0R v2J v4I v5I σ, fun v0R v2J v4I v5I σ => s_Pw_inAllThatRing_2 C IH v0R v2J v4I v5I σ⟩
theorem c_Pw_inAllThatRing (G : GX) (l : Launch) (v0R : Nat) (v1I : Int32) (σ : AM) : CT eI G l 4 y_Pw_inAllThatRing prog_8_method_8_code 6 ((some FieldType.int)) [.ref v0R, .int v1I] σ (M_Pw_inAllThatRing v0R v1I σ) := by
  refine ct_of (by decide +kernel) (Nat.le_of_ble_eq_true rfl) (fun p e s m args below meth c C hin => ?_)
  refine x_lve (lv' := [(0, .ref v0R), (1, .int v1I)]) rfl ?_
  intro r σ' h
  obtain ⟨n, hn⟩ := (lp_iff _ _ _).mp h
  exact (i_Pw_inAllThatRing C n).1 v0R v1I σ r σ' hn
