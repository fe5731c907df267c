/-! BellPlate$Book.<init>()V -/
abbrev y_Bk_init : MethodName := ⟨"BellPlate$Book", "<init>", "()V"⟩
theorem k_Bk_init : y_Bk_init.cls ≠ "java/lang/invoke/MethodHandle" ∧ y_Bk_init.cls ≠ "java/lang/invoke/VarHandle" ∧ (parseMethodDescriptor y_Bk_init.desc).map (fun d => d.parameters.length) = some 0 := by decide +kernel
theorem d_Bk_init_0 : decode prog_2_method_1_code 0 = .ok (.aload_n 0, 1) := by decide +kernel
theorem d_Bk_init_1 : decode prog_2_method_1_code 1 = .ok (.invokespecial 3, 3) := by decide +kernel
theorem d_Bk_init_4 : decode prog_2_method_1_code 4 = .ok (.aload_n 0, 1) := by decide +kernel
theorem d_Bk_init_5 : decode prog_2_method_1_code 5 = .ok (.bipush 60, 2) := by decide +kernel
theorem d_Bk_init_7 : decode prog_2_method_1_code 7 = .ok (.newarray .int, 2) := by decide +kernel
theorem d_Bk_init_9 : decode prog_2_method_1_code 9 = .ok (.putfield 11, 3) := by decide +kernel
theorem d_Bk_init_12 : decode prog_2_method_1_code 12 = .ok (.aload_n 0, 1) := by decide +kernel
theorem d_Bk_init_13 : decode prog_2_method_1_code 13 = .ok (.bipush 60, 2) := by decide +kernel
theorem d_Bk_init_15 : decode prog_2_method_1_code 15 = .ok (.newarray .boolean, 2) := by decide +kernel
theorem d_Bk_init_17 : decode prog_2_method_1_code 17 = .ok (.putfield 15, 3) := by decide +kernel
theorem d_Bk_init_20 : decode prog_2_method_1_code 20 = .ok (.aload_n 0, 1) := by decide +kernel
theorem d_Bk_init_21 : decode prog_2_method_1_code 21 = .ok (.bipush 8, 2) := by decide +kernel
theorem d_Bk_init_23 : decode prog_2_method_1_code 23 = .ok (.newarray .int, 2) := by decide +kernel
theorem d_Bk_init_25 : decode prog_2_method_1_code 25 = .ok (.putfield 19, 3) := by decide +kernel
theorem d_Bk_init_28 : decode prog_2_method_1_code 28 = .ok (.aload_n 0, 1) := by decide +kernel
theorem d_Bk_init_29 : decode prog_2_method_1_code 29 = .ok (.bipush 8, 2) := by decide +kernel
theorem d_Bk_init_31 : decode prog_2_method_1_code 31 = .ok (.newarray .int, 2) := by decide +kernel
theorem d_Bk_init_33 : decode prog_2_method_1_code 33 = .ok (.putfield 22, 3) := by decide +kernel
theorem d_Bk_init_36 : decode prog_2_method_1_code 36 = .ok (.aload_n 0, 1) := by decide +kernel
theorem d_Bk_init_37 : decode prog_2_method_1_code 37 = .ok (.iconst 4, 1) := by decide +kernel
theorem d_Bk_init_38 : decode prog_2_method_1_code 38 = .ok (.newarray .int, 2) := by decide +kernel
theorem d_Bk_init_40 : decode prog_2_method_1_code 40 = .ok (.putfield 25, 3) := by decide +kernel
theorem d_Bk_init_43 : decode prog_2_method_1_code 43 = .ok (.aload_n 0, 1) := by decide +kernel
theorem d_Bk_init_44 : decode prog_2_method_1_code 44 = .ok (.iconst 4, 1) := by decide +kernel
theorem d_Bk_init_45 : decode prog_2_method_1_code 45 = .ok (.newarray .int, 2) := by decide +kernel
theorem d_Bk_init_47 : decode prog_2_method_1_code 47 = .ok (.putfield 28, 3) := by decide +kernel
theorem d_Bk_init_50 : decode prog_2_method_1_code 50 = .ok (.aload_n 0, 1) := by decide +kernel
theorem d_Bk_init_51 : decode prog_2_method_1_code 51 = .ok (.iconst 4, 1) := by decide +kernel
theorem d_Bk_init_52 : decode prog_2_method_1_code 52 = .ok (.newarray .int, 2) := by decide +kernel
theorem d_Bk_init_54 : decode prog_2_method_1_code 54 = .ok (.putfield 31, 3) := by decide +kernel
theorem d_Bk_init_57 : decode prog_2_method_1_code 57 = .ok (.return_, 1) := by decide +kernel
abbrev S_Bk_init : Type := Nat × Nat × AM
noncomputable def T_Bk_init_0 (v0R : Nat) (σ : AM) : S_Bk_init ⊕ Option (Unit × AM) :=
  gdT (okO σ v0R 4) <| letT (nw σ 101 (60 : Int32).toNatClampNeg) fun σ2 => gdT (okO σ2 v0R 4) <| letT (sR σ2 v0R 0 (aZ σ)) fun σ5 => letT (nw σ5 103 (60 : Int32).toNatClampNeg) fun σ7 => gdT (okO σ7 v0R 4) <| letT (sR σ7 v0R 1 (aZ σ5)) fun σ10 => letT (nw σ10 101 (8 : Int32).toNatClampNeg) fun σ12 => gdT (okO σ12 v0R 4) <| letT (sR σ12 v0R 2 (aZ σ10)) fun σ15 => letT (nw σ15 101 (8 : Int32).toNatClampNeg) fun σ17 => gdT (okO σ17 v0R 4) <| letT (sR σ17 v0R 3 (aZ σ15)) fun σ20 => letT (nw σ20 101 (4 : Int32).toNatClampNeg) fun σ22 => gdT (okO σ22 v0R 4) <| letT (sR σ22 v0R 4 (aZ σ20)) fun σ25 => letT (nw σ25 101 (4 : Int32).toNatClampNeg) fun σ27 => gdT (okO σ27 v0R 4) <| letT (sR σ27 v0R 5 (aZ σ25)) fun σ30 => letT (nw σ30 101 (4 : Int32).toNatClampNeg) fun σ32 => gdT (okO σ32 v0R 4) <| letT (sR σ32 v0R 6 (aZ σ30)) fun σ35 => .inr (some ((), σ35))
noncomputable def F_Bk_init : S_Bk_init → S_Bk_init ⊕ Option (Unit × AM) := fun s => match s.1 with
  | _ => T_Bk_init_0 (s.2.1) (s.2.2)
noncomputable def L_Bk_init_0 (v0R : Nat) (σ : AM) : Option (Unit × AM) := lp F_Bk_init (0, v0R, σ)
set_option maxRecDepth 20000 in
theorem E_Bk_init_0 (v0R : Nat) (σ : AM) : L_Bk_init_0 v0R σ = (gd (okO σ v0R 4) <| letT (nw σ 101 (60 : Int32).toNatClampNeg) fun σ2 => gd (okO σ2 v0R 4) <| letT (sR σ2 v0R 0 (aZ σ)) fun σ5 => letT (nw σ5 103 (60 : Int32).toNatClampNeg) fun σ7 => gd (okO σ7 v0R 4) <| letT (sR σ7 v0R 1 (aZ σ5)) fun σ10 => letT (nw σ10 101 (8 : Int32).toNatClampNeg) fun σ12 => gd (okO σ12 v0R 4) <| letT (sR σ12 v0R 2 (aZ σ10)) fun σ15 => letT (nw σ15 101 (8 : Int32).toNatClampNeg) fun σ17 => gd (okO σ17 v0R 4) <| letT (sR σ17 v0R 3 (aZ σ15)) fun σ20 => letT (nw σ20 101 (4 : Int32).toNatClampNeg) fun σ22 => gd (okO σ22 v0R 4) <| letT (sR σ22 v0R 4 (aZ σ20)) fun σ25 => letT (nw σ25 101 (4 : Int32).toNatClampNeg) fun σ27 => gd (okO σ27 v0R 4) <| letT (sR σ27 v0R 5 (aZ σ25)) fun σ30 => letT (nw σ30 101 (4 : Int32).toNatClampNeg) fun σ32 => gd (okO σ32 v0R 4) <| letT (sR σ32 v0R 6 (aZ σ30)) fun σ35 => (some ((), σ35))) := by
  unfold L_Bk_init_0
  rw [lp_eq]
  show lpK (lp F_Bk_init) (T_Bk_init_0 v0R σ) = _
  unfold T_Bk_init_0
  simp only [lpK_ite, lq_inl, lq_inr, lpK_bnd, lpK_gd, lq_let]
  try rfl
noncomputable def M_Bk_init (v0R : Nat) (σ : AM) : Option (Unit × AM) := mw σ (L_Bk_init_0 v0R σ)
def I_Bk_init (G : GX) (p : Program) (l : Launch) (e : Env) (s : State) (m : MethodId) (args : Array Value) (below : List Frame) (meth : Method) (c : Code) (z0 u0 n : Nat) : Prop :=
  (∀ (v0R : Nat) (σ : AM), VX (QM eV G args s below z0 u0) G p l e s m args below meth c 1 z0 u0 1 (lpn F_Bk_init n (0, v0R, σ)) 0 [(0, .ref v0R)] [] σ)
set_option maxRecDepth 20000 in
theorem s_Bk_init_0 {G : GX} {p : Program} {l : Launch} {e : Env} {s : State} {m : MethodId} {args : Array Value} {below : List Frame} {meth : Method} {c : Code} {z0 u0 n : Nat} (C : Cx G p s m args meth c prog_2_method_1_code 1 "BellPlate$Book" ((none))) (hin : meth.name = "<init>") (IH : I_Bk_init G p l e s m args below meth c z0 u0 n) (v0R : Nat) (σ : AM) : VX (QM eV G args s below z0 u0) G p l e s m args below meth c 1 z0 u0 1 (lpK (lpn F_Bk_init n) (T_Bk_init_0 v0R σ)) 0 [(0, .ref v0R)] [] σ := by
  unfold T_Bk_init_0
  refine x_aload_n C d_Bk_init_0 0 rfl ?_
  refine x_gd (fun h1 => ?_)
  refine x_obj C (okO_iff.mp h1) w297 w153 w154 (by decide) (Nat.le_of_ble_eq_true rfl) d_Bk_init_1 ?_
  refine x_aload_n C d_Bk_init_4 0 rfl ?_
  refine x_bipush (v := (60 : Int32)) C d_Bk_init_5 (by decide) ?_
  refine x_newaI C w203 (by decide) (by decide) d_Bk_init_7 ?_
  refine x_letS (fun σ2 e3 => ?_)
  refine x_gd (fun h4 => ?_)
  refine x_putRF (k := 0) (kv := 101) C (okO_iff.mp h4) rfl j3_ok y3_ok n3_ok (by decide) rfl (fr_K e3) (by decide) rfl hin rfl rfl rfl w298 d_Bk_init_9 ?_
  refine x_letS (fun σ5 e6 => ?_)
  refine x_aload_n C d_Bk_init_12 0 rfl ?_
  refine x_bipush (v := (60 : Int32)) C d_Bk_init_13 (by decide) ?_
  refine x_newaZ C w332 (by decide) (by decide) d_Bk_init_15 ?_
  refine x_letS (fun σ7 e8 => ?_)
  refine x_gd (fun h9 => ?_)
  refine x_putRF (k := 1) (kv := 103) C (okO_iff.mp h9) rfl j3_ok y3_ok n3_ok (by decide) rfl (fr_K e8) (by decide) rfl hin rfl rfl rfl w299 d_Bk_init_17 ?_
  refine x_letS (fun σ10 e11 => ?_)
  refine x_aload_n C d_Bk_init_20 0 rfl ?_
  refine x_bipush (v := (8 : Int32)) C d_Bk_init_21 (by decide) ?_
  refine x_newaI C w203 (by decide) (by decide) d_Bk_init_23 ?_
  refine x_letS (fun σ12 e13 => ?_)
  refine x_gd (fun h14 => ?_)
  refine x_putRF (k := 2) (kv := 101) C (okO_iff.mp h14) rfl j3_ok y3_ok n3_ok (by decide) rfl (fr_K e13) (by decide) rfl hin rfl rfl rfl w300 d_Bk_init_25 ?_
  refine x_letS (fun σ15 e16 => ?_)
  refine x_aload_n C d_Bk_init_28 0 rfl ?_
  refine x_bipush (v := (8 : Int32)) C d_Bk_init_29 (by decide) ?_
  refine x_newaI C w203 (by decide) (by decide) d_Bk_init_31 ?_
  refine x_letS (fun σ17 e18 => ?_)
  refine x_gd (fun h19 => ?_)
  refine x_putRF (k := 3) (kv := 101) C (okO_iff.mp h19) rfl j3_ok y3_ok n3_ok (by decide) rfl (fr_K e18) (by decide) rfl hin rfl rfl rfl w301 d_Bk_init_33 ?_
  refine x_letS (fun σ20 e21 => ?_)
  refine x_aload_n C d_Bk_init_36 0 rfl ?_
  refine x_iconst (v := (4 : Int32)) C d_Bk_init_37 (by decide) ?_
  refine x_newaI C w203 (by decide) (by decide) d_Bk_init_38 ?_
  refine x_letS (fun σ22 e23 => ?_)
  refine x_gd (fun h24 => ?_)
  refine x_putRF (k := 4) (kv := 101) C (okO_iff.mp h24) rfl j3_ok y3_ok n3_ok (by decide) rfl (fr_K e23) (by decide) rfl hin rfl rfl rfl w302 d_Bk_init_40 ?_
  refine x_letS (fun σ25 e26 => ?_)
  refine x_aload_n C d_Bk_init_43 0 rfl ?_
  refine x_iconst (v := (4 : Int32)) C d_Bk_init_44 (by decide) ?_
  refine x_newaI C w203 (by decide) (by decide) d_Bk_init_45 ?_
  refine x_letS (fun σ27 e28 => ?_)
  refine x_gd (fun h29 => ?_)
  refine x_putRF (k := 5) (kv := 101) C (okO_iff.mp h29) rfl j3_ok y3_ok n3_ok (by decide) rfl (fr_K e28) (by decide) rfl hin rfl rfl rfl w303 d_Bk_init_47 ?_
  refine x_letS (fun σ30 e31 => ?_)
  refine x_aload_n C d_Bk_init_50 0 rfl ?_
  refine x_iconst (v := (4 : Int32)) C d_Bk_init_51 (by decide) ?_
  refine x_newaI C w203 (by decide) (by decide) d_Bk_init_52 ?_
  refine x_letS (fun σ32 e33 => ?_)
  refine x_gd (fun h34 => ?_)
  refine x_putRF (k := 6) (kv := 101) C (okO_iff.mp h34) rfl j3_ok y3_ok n3_ok (by decide) rfl (fr_K e33) (by decide) rfl hin rfl rfl rfl w304 d_Bk_init_54 ?_
  refine x_letS (fun σ35 e36 => ?_)
  exact x_vret C d_Bk_init_57
theorem i_Bk_init {G : GX} {p : Program} {l : Launch} {e : Env} {s : State} {m : MethodId} {args : Array Value} {below : List Frame} {meth : Method} {c : Code} {z0 u0 : Nat} (C : Cx G p s m args meth c prog_2_method_1_code 1 "BellPlate$Book" ((none))) (hin : meth.name = "<init>") (n : Nat) : I_Bk_init G p l e s m args below meth c z0 u0 n := by
  induction n with
  | zero => exact fun _ _ => x_none
  | succ n IH => exact fun v0R σ => s_Bk_init_0 C hin IH v0R σ
theorem c_Bk_init (G : GX) (l : Launch) (v0R : Nat) (σ : AM) : CT eV G l 1 y_Bk_init prog_2_method_1_code 1 (none) [.ref v0R] σ (M_Bk_init v0R σ) := by
  refine ct_of (by decide +kernel) (Nat.le_of_ble_eq_true rfl) (fun p e s m args below meth c C hin => ?_)
  refine x_lve (lv' := [(0, .ref v0R)]) rfl ?_
  intro r σ' h
  obtain ⟨n, hn⟩ := (lp_iff _ _ _).mp h
  exact (i_Bk_init C hin n) v0R σ r σ' hn
/-! BellPlate$Book.trials()I -/
abbrev y_Bk_trials : MethodName := ⟨"BellPlate$Book", "trials", "()I"⟩
theorem k_Bk_trials : y_Bk_trials.cls ≠ "java/lang/invoke/MethodHandle" ∧ y_Bk_trials.cls ≠ "java/lang/invoke/VarHandle" ∧ (parseMethodDescriptor y_Bk_trials.desc).map (fun d => d.parameters.length) = some 0 := by decide +kernel
theorem d_Bk_trials_0 : decode prog_2_method_2_code 0 = .ok (.aload_n 0, 1) := by decide +kernel
theorem d_Bk_trials_1 : decode prog_2_method_2_code 1 = .ok (.getfield 34, 3) := by decide +kernel
theorem d_Bk_trials_4 : decode prog_2_method_2_code 4 = .ok (.ireturn, 1) := by decide +kernel
abbrev S_Bk_trials : Type := Nat × Nat × AM
noncomputable def T_Bk_trials_0 (v0R : Nat) (σ : AM) : S_Bk_trials ⊕ Option (Int32 × AM) :=
  gdT (okO σ v0R 4) <| .inr (some ((aI σ v0R 7), σ))
noncomputable def F_Bk_trials : S_Bk_trials → S_Bk_trials ⊕ Option (Int32 × AM) := fun s => match s.1 with
  | _ => T_Bk_trials_0 (s.2.1) (s.2.2)
noncomputable def L_Bk_trials_0 (v0R : Nat) (σ : AM) : Option (Int32 × AM) := lp F_Bk_trials (0, v0R, σ)
set_option maxRecDepth 20000 in
theorem E_Bk_trials_0 (v0R : Nat) (σ : AM) : L_Bk_trials_0 v0R σ = (gd (okO σ v0R 4) <| (some ((aI σ v0R 7), σ))) := by
  unfold L_Bk_trials_0
  rw [lp_eq]
  show lpK (lp F_Bk_trials) (T_Bk_trials_0 v0R σ) = _
  unfold T_Bk_trials_0
  simp only [lpK_ite, lq_inl, lq_inr, lpK_bnd, lpK_gd, lq_let]
  try rfl
noncomputable def M_Bk_trials (v0R : Nat) (σ : AM) : Option (Int32 × AM) := mw σ (L_Bk_trials_0 v0R σ)
def I_Bk_trials (G : GX) (p : Program) (l : Launch) (e : Env) (s : State) (m : MethodId) (args : Array Value) (below : List Frame) (meth : Method) (c : Code) (z0 u0 n : Nat) : Prop :=
  (∀ (v0R : Nat) (σ : AM), VX (QM eI G args s below z0 u0) G p l e s m args below meth c 0 z0 u0 1 (lpn F_Bk_trials n (0, v0R, σ)) 0 [(0, .ref v0R)] [] σ)
set_option maxRecDepth 20000 in
theorem s_Bk_trials_0 {G : GX} {p : Program} {l : Launch} {e : Env} {s : State} {m : MethodId} {args : Array Value} {below : List Frame} {meth : Method} {c : Code} {z0 u0 n : Nat} (C : Cx G p s m args meth c prog_2_method_2_code 1 "BellPlate$Book" ((some FieldType.int))) (IH : I_Bk_trials G p l e s m args below meth c z0 u0 n) (v0R : Nat) (σ : AM) : VX (QM eI G args s below z0 u0) G p l e s m args below meth c 0 z0 u0 1 (lpK (lpn F_Bk_trials n) (T_Bk_trials_0 v0R σ)) 0 [(0, .ref v0R)] [] σ := by
  unfold T_Bk_trials_0
  refine x_aload_n C d_Bk_trials_0 0 rfl ?_
  refine x_gd (fun h1 => ?_)
  refine x_getI (k := 7) C (okO_iff.mp h1) rfl j3_ok (by decide) rfl w305 d_Bk_trials_1 ?_
  exact x_iret C d_Bk_trials_4
theorem i_Bk_trials {G : GX} {p : Program} {l : Launch} {e : Env} {s : State} {m : MethodId} {args : Array Value} {below : List Frame} {meth : Method} {c : Code} {z0 u0 : Nat} (C : Cx G p s m args meth c prog_2_method_2_code 1 "BellPlate$Book" ((some FieldType.int))) (n : Nat) : I_Bk_trials G p l e s m args below meth c z0 u0 n := by
  induction n with
  | zero => exact fun _ _ => x_none
  | succ n IH => exact fun v0R σ => s_Bk_trials_0 C IH v0R σ
theorem c_Bk_trials (G : GX) (l : Launch) (v0R : Nat) (σ : AM) : CT eI G l 0 y_Bk_trials prog_2_method_2_code 1 ((some FieldType.int)) [.ref v0R] σ (M_Bk_trials v0R σ) := by
  refine ct_of (by decide +kernel) (Nat.le_of_ble_eq_true rfl) (fun p e s m args below meth c C hin => ?_)
  refine x_lve (lv' := [(0, .ref v0R)]) rfl ?_
  intro r σ' h
  obtain ⟨n, hn⟩ := (lp_iff _ _ _).mp h
  exact (i_Bk_trials C n) v0R σ r σ' hn
/-! BellPlate$Book.hints()I -/
abbrev y_Bk_hints : MethodName := ⟨"BellPlate$Book", "hints", "()I"⟩
theorem k_Bk_hints : y_Bk_hints.cls ≠ "java/lang/invoke/MethodHandle" ∧ y_Bk_hints.cls ≠ "java/lang/invoke/VarHandle" ∧ (parseMethodDescriptor y_Bk_hints.desc).map (fun d => d.parameters.length) = some 0 := by decide +kernel
theorem d_Bk_hints_0 : decode prog_2_method_3_code 0 = .ok (.aload_n 0, 1) := by decide +kernel
theorem d_Bk_hints_1 : decode prog_2_method_3_code 1 = .ok (.getfield 38, 3) := by decide +kernel
theorem d_Bk_hints_4 : decode prog_2_method_3_code 4 = .ok (.ireturn, 1) := by decide +kernel
abbrev S_Bk_hints : Type := Nat × Nat × AM
noncomputable def T_Bk_hints_0 (v0R : Nat) (σ : AM) : S_Bk_hints ⊕ Option (Int32 × AM) :=
  gdT (okO σ v0R 4) <| .inr (some ((aI σ v0R 8), σ))
noncomputable def F_Bk_hints : S_Bk_hints → S_Bk_hints ⊕ Option (Int32 × AM) := fun s => match s.1 with
  | _ => T_Bk_hints_0 (s.2.1) (s.2.2)
noncomputable def L_Bk_hints_0 (v0R : Nat) (σ : AM) : Option (Int32 × AM) := lp F_Bk_hints (0, v0R, σ)
set_option maxRecDepth 20000 in
theorem E_Bk_hints_0 (v0R : Nat) (σ : AM) : L_Bk_hints_0 v0R σ = (gd (okO σ v0R 4) <| (some ((aI σ v0R 8), σ))) := by
  unfold L_Bk_hints_0
  rw [lp_eq]
  show lpK (lp F_Bk_hints) (T_Bk_hints_0 v0R σ) = _
  unfold T_Bk_hints_0
  simp only [lpK_ite, lq_inl, lq_inr, lpK_bnd, lpK_gd, lq_let]
  try rfl
noncomputable def M_Bk_hints (v0R : Nat) (σ : AM) : Option (Int32 × AM) := mw σ (L_Bk_hints_0 v0R σ)
def I_Bk_hints (G : GX) (p : Program) (l : Launch) (e : Env) (s : State) (m : MethodId) (args : Array Value) (below : List Frame) (meth : Method) (c : Code) (z0 u0 n : Nat) : Prop :=
  (∀ (v0R : Nat) (σ : AM), VX (QM eI G args s below z0 u0) G p l e s m args below meth c 0 z0 u0 1 (lpn F_Bk_hints n (0, v0R, σ)) 0 [(0, .ref v0R)] [] σ)
set_option maxRecDepth 20000 in
theorem s_Bk_hints_0 {G : GX} {p : Program} {l : Launch} {e : Env} {s : State} {m : MethodId} {args : Array Value} {below : List Frame} {meth : Method} {c : Code} {z0 u0 n : Nat} (C : Cx G p s m args meth c prog_2_method_3_code 1 "BellPlate$Book" ((some FieldType.int))) (IH : I_Bk_hints G p l e s m args below meth c z0 u0 n) (v0R : Nat) (σ : AM) : VX (QM eI G args s below z0 u0) G p l e s m args below meth c 0 z0 u0 1 (lpK (lpn F_Bk_hints n) (T_Bk_hints_0 v0R σ)) 0 [(0, .ref v0R)] [] σ := by
  unfold T_Bk_hints_0
  refine x_aload_n C d_Bk_hints_0 0 rfl ?_
  refine x_gd (fun h1 => ?_)
  refine x_getI (k := 8) C (okO_iff.mp h1) rfl j3_ok (by decide) rfl w306 d_Bk_hints_1 ?_
  exact x_iret C d_Bk_hints_4
theorem i_Bk_hints {G : GX} {p : Program} {l : Launch} {e : Env} {s : State} {m : MethodId} {args : Array Value} {below : List Frame} {meth : Method} {c : Code} {z0 u0 : Nat} (C : Cx G p s m args meth c prog_2_method_3_code 1 "BellPlate$Book" ((some FieldType.int))) (n : Nat) : I_Bk_hints G p l e s m args below meth c z0 u0 n := by
  induction n with
  | zero => exact fun _ _ => x_none
  | succ n IH => exact fun v0R σ => s_Bk_hints_0 C IH v0R σ
theorem c_Bk_hints (G : GX) (l : Launch) (v0R : Nat) (σ : AM) : CT eI G l 0 y_Bk_hints prog_2_method_3_code 1 ((some FieldType.int)) [.ref v0R] σ (M_Bk_hints v0R σ) := by
  refine ct_of (by decide +kernel) (Nat.le_of_ble_eq_true rfl) (fun p e s m args below meth c C hin => ?_)
  refine x_lve (lv' := [(0, .ref v0R)]) rfl ?_
  intro r σ' h
  obtain ⟨n, hn⟩ := (lp_iff _ _ _).mp h
  exact (i_Bk_hints C n) v0R σ r σ' hn
/-! BellPlate$Book.age()I -/
abbrev y_Bk_age : MethodName := ⟨"BellPlate$Book", "age", "()I"⟩
theorem k_Bk_age : y_Bk_age.cls ≠ "java/lang/invoke/MethodHandle" ∧ y_Bk_age.cls ≠ "java/lang/invoke/VarHandle" ∧ (parseMethodDescriptor y_Bk_age.desc).map (fun d => d.parameters.length) = some 0 := by decide +kernel
theorem d_Bk_age_0 : decode prog_2_method_4_code 0 = .ok (.aload_n 0, 1) := by decide +kernel
theorem d_Bk_age_1 : decode prog_2_method_4_code 1 = .ok (.getfield 41, 3) := by decide +kernel
theorem d_Bk_age_4 : decode prog_2_method_4_code 4 = .ok (.ireturn, 1) := by decide +kernel
abbrev S_Bk_age : Type := Nat × Nat × AM
noncomputable def T_Bk_age_0 (v0R : Nat) (σ : AM) : S_Bk_age ⊕ Option (Int32 × AM) :=
  gdT (okO σ v0R 4) <| .inr (some ((aI σ v0R 10), σ))
noncomputable def F_Bk_age : S_Bk_age → S_Bk_age ⊕ Option (Int32 × AM) := fun s => match s.1 with
  | _ => T_Bk_age_0 (s.2.1) (s.2.2)
noncomputable def L_Bk_age_0 (v0R : Nat) (σ : AM) : Option (Int32 × AM) := lp F_Bk_age (0, v0R, σ)
set_option maxRecDepth 20000 in
theorem E_Bk_age_0 (v0R : Nat) (σ : AM) : L_Bk_age_0 v0R σ = (gd (okO σ v0R 4) <| (some ((aI σ v0R 10), σ))) := by
  unfold L_Bk_age_0
  rw [lp_eq]
  show lpK (lp F_Bk_age) (T_Bk_age_0 v0R σ) = _
  unfold T_Bk_age_0
  simp only [lpK_ite, lq_inl, lq_inr, lpK_bnd, lpK_gd, lq_let]
  try rfl
noncomputable def M_Bk_age (v0R : Nat) (σ : AM) : Option (Int32 × AM) := mw σ (L_Bk_age_0 v0R σ)
def I_Bk_age (G : GX) (p : Program) (l : Launch) (e : Env) (s : State) (m : MethodId) (args : Array Value) (below : List Frame) (meth : Method) (c : Code) (z0 u0 n : Nat) : Prop :=
  (∀ (v0R : Nat) (σ : AM), VX (QM eI G args s below z0 u0) G p l e s m args below meth c 0 z0 u0 1 (lpn F_Bk_age n (0, v0R, σ)) 0 [(0, .ref v0R)] [] σ)
set_option maxRecDepth 20000 in
theorem s_Bk_age_0 {G : GX} {p : Program} {l : Launch} {e : Env} {s : State} {m : MethodId} {args : Array Value} {below : List Frame} {meth : Method} {c : Code} {z0 u0 n : Nat} (C : Cx G p s m args meth c prog_2_method_4_code 1 "BellPlate$Book" ((some FieldType.int))) (IH : I_Bk_age G p l e s m args below meth c z0 u0 n) (v0R : Nat) (σ : AM) : VX (QM eI G args s below z0 u0) G p l e s m args below meth c 0 z0 u0 1 (lpK (lpn F_Bk_age n) (T_Bk_age_0 v0R σ)) 0 [(0, .ref v0R)] [] σ := by
  unfold T_Bk_age_0
  refine x_aload_n C d_Bk_age_0 0 rfl ?_
  refine x_gd (fun h1 => ?_)
  refine x_getI (k := 10) C (okO_iff.mp h1) rfl j3_ok (by decide) rfl w308 d_Bk_age_1 ?_
  exact x_iret C d_Bk_age_4
theorem i_Bk_age {G : GX} {p : Program} {l : Launch} {e : Env} {s : State} {m : MethodId} {args : Array Value} {below : List Frame} {meth : Method} {c : Code} {z0 u0 : Nat} (C : Cx G p s m args meth c prog_2_method_4_code 1 "BellPlate$Book" ((some FieldType.int))) (n : Nat) : I_Bk_age G p l e s m args below meth c z0 u0 n := by
  induction n with
  | zero => exact fun _ _ => x_none
  | succ n IH => exact fun v0R σ => s_Bk_age_0 C IH v0R σ
theorem c_Bk_age (G : GX) (l : Launch) (v0R : Nat) (σ : AM) : CT eI G l 0 y_Bk_age prog_2_method_4_code 1 ((some FieldType.int)) [.ref v0R] σ (M_Bk_age v0R σ) := by
  refine ct_of (by decide +kernel) (Nat.le_of_ble_eq_true rfl) (fun p e s m args below meth c C hin => ?_)
  refine x_lve (lv' := [(0, .ref v0R)]) rfl ?_
  intro r σ' h
  obtain ⟨n, hn⟩ := (lp_iff _ _ _).mp h
  exact (i_Bk_age C n) v0R σ r σ' hn
/-! BellPlate$Book.hasTrial(I)Z -/
abbrev y_Bk_hasTrial : MethodName := ⟨"BellPlate$Book", "hasTrial", "(I)Z"⟩
theorem k_Bk_hasTrial : y_Bk_hasTrial.cls ≠ "java/lang/invoke/MethodHandle" ∧ y_Bk_hasTrial.cls ≠ "java/lang/invoke/VarHandle" ∧ (parseMethodDescriptor y_Bk_hasTrial.desc).map (fun d => d.parameters.length) = some 1 := by decide +kernel
theorem d_Bk_hasTrial_0 : decode prog_2_method_5_code 0 = .ok (.iload_n 1, 1) := by decide +kernel
theorem d_Bk_hasTrial_1 : decode prog_2_method_5_code 1 = .ok (.ifCond .lt 15, 3) := by decide +kernel
theorem d_Bk_hasTrial_4 : decode prog_2_method_5_code 4 = .ok (.iload_n 1, 1) := by decide +kernel
theorem d_Bk_hasTrial_5 : decode prog_2_method_5_code 5 = .ok (.aload_n 0, 1) := by decide +kernel
theorem d_Bk_hasTrial_6 : decode prog_2_method_5_code 6 = .ok (.getfield 34, 3) := by decide +kernel
theorem d_Bk_hasTrial_9 : decode prog_2_method_5_code 9 = .ok (.if_icmp .ge 7, 3) := by decide +kernel
theorem d_Bk_hasTrial_12 : decode prog_2_method_5_code 12 = .ok (.iconst 1, 1) := by decide +kernel
theorem d_Bk_hasTrial_13 : decode prog_2_method_5_code 13 = .ok (.goto 4, 3) := by decide +kernel
theorem d_Bk_hasTrial_16 : decode prog_2_method_5_code 16 = .ok (.iconst 0, 1) := by decide +kernel
theorem d_Bk_hasTrial_17 : decode prog_2_method_5_code 17 = .ok (.ireturn, 1) := by decide +kernel
abbrev S_Bk_hasTrial : Type := Nat × Nat × Int32 × Int32 × AM
noncomputable def T_Bk_hasTrial_0 (v0R : Nat) (v1I : Int32) (σ : AM) : S_Bk_hasTrial ⊕ Option (Int32 × AM) :=
  if v1I < 0 then (.inl (1, 0, 0, 0, σ)) else (gdT (okO σ v0R 4) <| if v1I < (aI σ v0R 7) then (.inl (2, 0, 0, (1 : Int32), σ)) else (.inl (1, 0, 0, 0, σ)))
noncomputable def T_Bk_hasTrial_1  (σ : AM) : S_Bk_hasTrial ⊕ Option (Int32 × AM) :=
  .inl (2, 0, 0, (0 : Int32), σ)
noncomputable def T_Bk_hasTrial_2 (s0I : Int32) (σ : AM) : S_Bk_hasTrial ⊕ Option (Int32 × AM) :=
  gdT (isB s0I) <| .inr (some (s0I, σ))
noncomputable def F_Bk_hasTrial : S_Bk_hasTrial → S_Bk_hasTrial ⊕ Option (Int32 × AM) := fun s => match s.1 with
  | 0 => T_Bk_hasTrial_0 (s.2.1) (s.2.2.1) (s.2.2.2.2)
  | 1 => T_Bk_hasTrial_1  (s.2.2.2.2)
  | _ => T_Bk_hasTrial_2 (s.2.2.2.1) (s.2.2.2.2)
noncomputable def L_Bk_hasTrial_0 (v0R : Nat) (v1I : Int32) (σ : AM) : Option (Int32 × AM) := lp F_Bk_hasTrial (0, v0R, v1I, 0, σ)
noncomputable def L_Bk_hasTrial_1  (σ : AM) : Option (Int32 × AM) := lp F_Bk_hasTrial (1, 0, 0, 0, σ)
noncomputable def L_Bk_hasTrial_2 (s0I : Int32) (σ : AM) : Option (Int32 × AM) := lp F_Bk_hasTrial (2, 0, 0, s0I, σ)
set_option maxRecDepth 20000 in
theorem E_Bk_hasTrial_0 (v0R : Nat) (v1I : Int32) (σ : AM) : L_Bk_hasTrial_0 v0R v1I σ = (if v1I < 0 then (L_Bk_hasTrial_1 σ) else (gd (okO σ v0R 4) <| if v1I < (aI σ v0R 7) then (L_Bk_hasTrial_2 ((1 : Int32)) σ) else (L_Bk_hasTrial_1 σ))) := by
  unfold L_Bk_hasTrial_0
  rw [lp_eq]
  show lpK (lp F_Bk_hasTrial) (T_Bk_hasTrial_0 v0R v1I σ) = _
  unfold T_Bk_hasTrial_0
  simp only [lpK_ite, lq_inl, lq_inr, lpK_bnd, lpK_gd, lq_let]
  try rfl
set_option maxRecDepth 20000 in
theorem E_Bk_hasTrial_1  (σ : AM) : L_Bk_hasTrial_1  σ = (L_Bk_hasTrial_2 ((0 : Int32)) σ) := by
  unfold L_Bk_hasTrial_1
  rw [lp_eq]
  show lpK (lp F_Bk_hasTrial) (T_Bk_hasTrial_1  σ) = _
  unfold T_Bk_hasTrial_1
  simp only [lpK_ite, lq_inl, lq_inr, lpK_bnd, lpK_gd, lq_let]
  try rfl
set_option maxRecDepth 20000 in
theorem E_Bk_hasTrial_2 (s0I : Int32) (σ : AM) : L_Bk_hasTrial_2 s0I σ = (gd (isB s0I) <| (some (s0I, σ))) := by
  unfold L_Bk_hasTrial_2
  rw [lp_eq]
  show lpK (lp F_Bk_hasTrial) (T_Bk_hasTrial_2 s0I σ) = _
  unfold T_Bk_hasTrial_2
  simp only [lpK_ite, lq_inl, lq_inr, lpK_bnd, lpK_gd, lq_let]
  try rfl
noncomputable def M_Bk_hasTrial (v0R : Nat) (v1I : Int32) (σ : AM) : Option (Int32 × AM) := mw σ (L_Bk_hasTrial_0 v0R v1I σ)
def I_Bk_hasTrial (G : GX) (p : Program) (l : Launch) (e : Env) (s : State) (m : MethodId) (args : Array Value) (below : List Frame) (meth : Method) (c : Code) (z0 u0 n : Nat) : Prop :=
  (∀ (v0R : Nat) (v1I : Int32) (σ : AM), VX (QM eI G args s below z0 u0) G p l e s m args below meth c 0 z0 u0 2 (lpn F_Bk_hasTrial n (0, v0R, v1I, 0, σ)) 0 [(0, .ref v0R), (1, .int v1I)] [] σ) ∧
  (∀ (σ : AM), VX (QM eI G args s below z0 u0) G p l e s m args below meth c 0 z0 u0 2 (lpn F_Bk_hasTrial n (1, 0, 0, 0, σ)) 16 [] [] σ) ∧
  (∀ (s0I : Int32) (σ : AM), VX (QM eI G args s below z0 u0) G p l e s m args below meth c 0 z0 u0 2 (lpn F_Bk_hasTrial n (2, 0, 0, s0I, σ)) 17 [] [.int s0I] σ)
set_option maxRecDepth 20000 in
theorem s_Bk_hasTrial_0 {G : GX} {p : Program} {l : Launch} {e : Env} {s : State} {m : MethodId} {args : Array Value} {below : List Frame} {meth : Method} {c : Code} {z0 u0 n : Nat} (C : Cx G p s m args meth c prog_2_method_5_code 2 "BellPlate$Book" ((some FieldType.boolean))) (IH : I_Bk_hasTrial G p l e s m args below meth c z0 u0 n) (v0R : Nat) (v1I : Int32) (σ : AM) : VX (QM eI G args s below z0 u0) G p l e s m args below meth c 0 z0 u0 2 (lpK (lpn F_Bk_hasTrial n) (T_Bk_hasTrial_0 v0R v1I σ)) 0 [(0, .ref v0R), (1, .int v1I)] [] σ := by
  unfold T_Bk_hasTrial_0
  refine x_iload_n C d_Bk_hasTrial_0 1 rfl ?_
  refine x_if_lt (tgt := 16) C d_Bk_hasTrial_1 (by decide) (fun _ => ?_) (fun _ => ?_)
  · refine x_lv [] rfl ?_
    exact IH.2.1  (σ)
  · refine x_iload_n C d_Bk_hasTrial_4 1 rfl ?_
    refine x_aload_n C d_Bk_hasTrial_5 0 rfl ?_
    refine x_gd (fun h1 => ?_)
    refine x_getI (k := 7) C (okO_iff.mp h1) rfl j3_ok (by decide) rfl w305 d_Bk_hasTrial_6 ?_
    refine x_icmp_ge (tgt := 16) C d_Bk_hasTrial_9 (by decide) (fun _ => ?_) (fun _ => ?_)
    · refine x_iconst (v := (1 : Int32)) C d_Bk_hasTrial_12 (by decide) ?_
      refine x_goto (tgt := 17) C d_Bk_hasTrial_13 (by decide) ?_
      refine x_lv [] rfl ?_
      exact IH.2.2 ((1 : Int32)) (σ)
    · refine x_lv [] rfl ?_
      exact IH.2.1  (σ)
set_option maxRecDepth 20000 in
theorem s_Bk_hasTrial_1 {G : GX} {p : Program} {l : Launch} {e : Env} {s : State} {m : MethodId} {args : Array Value} {below : List Frame} {meth : Method} {c : Code} {z0 u0 n : Nat} (C : Cx G p s m args meth c prog_2_method_5_code 2 "BellPlate$Book" ((some FieldType.boolean))) (IH : I_Bk_hasTrial G p l e s m args below meth c z0 u0 n)  (σ : AM) : VX (QM eI G args s below z0 u0) G p l e s m args below meth c 0 z0 u0 2 (lpK (lpn F_Bk_hasTrial n) (T_Bk_hasTrial_1  σ)) 16 [] [] σ := by
  unfold T_Bk_hasTrial_1
  refine x_iconst (v := (0 : Int32)) C d_Bk_hasTrial_16 (by decide) ?_
  exact IH.2.2 ((0 : Int32)) (σ)
set_option maxRecDepth 20000 in
theorem s_Bk_hasTrial_2 {G : GX} {p : Program} {l : Launch} {e : Env} {s : State} {m : MethodId} {args : Array Value} {below : List Frame} {meth : Method} {c : Code} {z0 u0 n : Nat} (C : Cx G p s m args meth c prog_2_method_5_code 2 "BellPlate$Book" ((some FieldType.boolean))) (IH : I_Bk_hasTrial G p l e s m args below meth c z0 u0 n) (s0I : Int32) (σ : AM) : VX (QM eI G args s below z0 u0) G p l e s m args below meth c 0 z0 u0 2 (lpK (lpn F_Bk_hasTrial n) (T_Bk_hasTrial_2 s0I σ)) 17 [] [.int s0I] σ := by
  unfold T_Bk_hasTrial_2
  refine x_gd (fun h1 => ?_)
  exact x_zret C (isB_narrow h1) d_Bk_hasTrial_17
theorem i_Bk_hasTrial {G : GX} {p : Program} {l : Launch} {e : Env} {s : State} {m : MethodId} {args : Array Value} {below : List Frame} {meth : Method} {c : Code} {z0 u0 : Nat} (C : Cx G p s m args meth c prog_2_method_5_code 2 "BellPlate$Book" ((some FieldType.boolean))) (n : Nat) : I_Bk_hasTrial G p l e s m args below meth c z0 u0 n := by
  induction n with
  | zero => exact ⟨fun _ _ _ => x_none, fun _ => x_none, fun _ _ => x_none⟩
  | succ n IH => exact ⟨fun v0R v1I σ => s_Bk_hasTrial_0 C IH v0R v1I σ, fun σ => s_Bk_hasTrial_1 C IH σ, fun s0I σ => s_Bk_hasTrial_2 C IH s0I σ⟩
theorem c_Bk_hasTrial (G : GX) (l : Launch) (v0R : Nat) (v1I : Int32) (σ : AM) : CT eI G l 0 y_Bk_hasTrial prog_2_method_5_code 2 ((some FieldType.boolean)) [.ref v0R, .int v1I] σ (M_Bk_hasTrial v0R v1I σ) := by
  refine ct_of (by decide +kernel) (Nat.le_of_ble_eq_true rfl) (fun p e s m args below meth c C hin => ?_)
  refine x_lve (lv' := [(0, .ref v0R), (1, .int v1I)]) rfl ?_
  intro r σ' h
  obtain ⟨n, hn⟩ := (lp_iff _ _ _).mp h
  exact (i_Bk_hasTrial C n).1 v0R v1I σ r σ' hn
/-! BellPlate$Book.setAt(I)I -/
abbrev y_Bk_setAt : MethodName := ⟨"BellPlate$Book", "setAt", "(I)I"⟩
theorem k_Bk_setAt : y_Bk_setAt.cls ≠ "java/lang/invoke/MethodHandle" ∧ y_Bk_setAt.cls ≠ "java/lang/invoke/VarHandle" ∧ (parseMethodDescriptor y_Bk_setAt.desc).map (fun d => d.parameters.length) = some 1 := by decide +kernel
theorem d_Bk_setAt_0 : decode prog_2_method_6_code 0 = .ok (.aload_n 0, 1) := by decide +kernel
theorem d_Bk_setAt_1 : decode prog_2_method_6_code 1 = .ok (.iload_n 1, 1) := by decide +kernel
theorem d_Bk_setAt_2 : decode prog_2_method_6_code 2 = .ok (.invokevirtual 44, 3) := by decide +kernel
theorem d_Bk_setAt_5 : decode prog_2_method_6_code 5 = .ok (.ifCond .eq 12, 3) := by decide +kernel
theorem d_Bk_setAt_8 : decode prog_2_method_6_code 8 = .ok (.aload_n 0, 1) := by decide +kernel
theorem d_Bk_setAt_9 : decode prog_2_method_6_code 9 = .ok (.getfield 11, 3) := by decide +kernel
theorem d_Bk_setAt_12 : decode prog_2_method_6_code 12 = .ok (.iload_n 1, 1) := by decide +kernel
theorem d_Bk_setAt_13 : decode prog_2_method_6_code 13 = .ok (.iaload, 1) := by decide +kernel
theorem d_Bk_setAt_14 : decode prog_2_method_6_code 14 = .ok (.goto 4, 3) := by decide +kernel
theorem d_Bk_setAt_17 : decode prog_2_method_6_code 17 = .ok (.iconst 0, 1) := by decide +kernel
theorem d_Bk_setAt_18 : decode prog_2_method_6_code 18 = .ok (.ireturn, 1) := by decide +kernel
abbrev S_Bk_setAt : Type := Nat × Nat × Int32 × Int32 × AM
noncomputable def T_Bk_setAt_0 (v0R : Nat) (v1I : Int32) (σ : AM) : S_Bk_setAt ⊕ Option (Int32 × AM) :=
  gdT (okO σ v0R 4) <| bndT (M_Bk_hasTrial v0R v1I σ) fun r1 σ2 => if r1 = 0 then (.inl (1, 0, 0, (0 : Int32), σ2)) else (gdT (okO σ2 v0R 4) <| gdT (okO σ2 (aR σ2 v0R 0) 101) <| gdT (inB v1I (aN σ2 (aR σ2 v0R 0))) <| .inl (1, 0, 0, aI σ2 (aR σ2 v0R 0) v1I.toNatClampNeg, σ2))
noncomputable def T_Bk_setAt_1 (s0I : Int32) (σ : AM) : S_Bk_setAt ⊕ Option (Int32 × AM) :=
  .inr (some (s0I, σ))
noncomputable def F_Bk_setAt : S_Bk_setAt → S_Bk_setAt ⊕ Option (Int32 × AM) := fun s => match s.1 with
  | 0 => T_Bk_setAt_0 (s.2.1) (s.2.2.1) (s.2.2.2.2)
  | _ => T_Bk_setAt_1 (s.2.2.2.1) (s.2.2.2.2)
noncomputable def L_Bk_setAt_0 (v0R : Nat) (v1I : Int32) (σ : AM) : Option (Int32 × AM) := lp F_Bk_setAt (0, v0R, v1I, 0, σ)
noncomputable def L_Bk_setAt_1 (s0I : Int32) (σ : AM) : Option (Int32 × AM) := lp F_Bk_setAt (1, 0, 0, s0I, σ)
set_option maxRecDepth 20000 in
theorem E_Bk_setAt_0 (v0R : Nat) (v1I : Int32) (σ : AM) : L_Bk_setAt_0 v0R v1I σ = (gd (okO σ v0R 4) <| bnd (M_Bk_hasTrial v0R v1I σ) fun r1 σ2 => if r1 = 0 then (L_Bk_setAt_1 ((0 : Int32)) σ2) else (gd (okO σ2 v0R 4) <| gd (okO σ2 (aR σ2 v0R 0) 101) <| gd (inB v1I (aN σ2 (aR σ2 v0R 0))) <| L_Bk_setAt_1 (aI σ2 (aR σ2 v0R 0) v1I.toNatClampNeg) σ2)) := by
  unfold L_Bk_setAt_0
  rw [lp_eq]
  show lpK (lp F_Bk_setAt) (T_Bk_setAt_0 v0R v1I σ) = _
  unfold T_Bk_setAt_0
  simp only [lpK_ite, lq_inl, lq_inr, lpK_bnd, lpK_gd, lq_let]
  try rfl
set_option maxRecDepth 20000 in
theorem E_Bk_setAt_1 (s0I : Int32) (σ : AM) : L_Bk_setAt_1 s0I σ = ((some (s0I, σ))) := by
  unfold L_Bk_setAt_1
  rw [lp_eq]
  show lpK (lp F_Bk_setAt) (T_Bk_setAt_1 s0I σ) = _
  unfold T_Bk_setAt_1
  simp only [lpK_ite, lq_inl, lq_inr, lpK_bnd, lpK_gd, lq_let]
  try rfl
noncomputable def M_Bk_setAt (v0R : Nat) (v1I : Int32) (σ : AM) : Option (Int32 × AM) := mw σ (L_Bk_setAt_0 v0R v1I σ)
def I_Bk_setAt (G : GX) (p : Program) (l : Launch) (e : Env) (s : State) (m : MethodId) (args : Array Value) (below : List Frame) (meth : Method) (c : Code) (z0 u0 n : Nat) : Prop :=
  (∀ (v0R : Nat) (v1I : Int32) (σ : AM), VX (QM eI G args s below z0 u0) G p l e s m args below meth c 1 z0 u0 2 (lpn F_Bk_setAt n (0, v0R, v1I, 0, σ)) 0 [(0, .ref v0R), (1, .int v1I)] [] σ) ∧
  (∀ (s0I : Int32) (σ : AM), VX (QM eI G args s below z0 u0) G p l e s m args below meth c 1 z0 u0 2 (lpn F_Bk_setAt n (1, 0, 0, s0I, σ)) 18 [] [.int s0I] σ)
set_option maxRecDepth 20000 in
theorem s_Bk_setAt_0 {G : GX} {p : Program} {l : Launch} {e : Env} {s : State} {m : MethodId} {args : Array Value} {below : List Frame} {meth : Method} {c : Code} {z0 u0 n : Nat} (C : Cx G p s m args meth c prog_2_method_6_code 2 "BellPlate$Book" ((some FieldType.int))) (IH : I_Bk_setAt G p l e s m args below meth c z0 u0 n) (v0R : Nat) (v1I : Int32) (σ : AM) : VX (QM eI G args s below z0 u0) G p l e s m args below meth c 1 z0 u0 2 (lpK (lpn F_Bk_setAt n) (T_Bk_setAt_0 v0R v1I σ)) 0 [(0, .ref v0R), (1, .int v1I)] [] σ := by
  unfold T_Bk_setAt_0
  refine x_aload_n C d_Bk_setAt_0 0 rfl ?_
  refine x_iload_n C d_Bk_setAt_1 1 rfl ?_
  refine x_gd (fun h3 => ?_)
  refine x_callVI (As := [.int v1I]) C (c_Bk_hasTrial G l v0R v1I σ) (okO_iff.mp h3) rfl w1375 w1376 w1374 w1377 w124 k_Bk_hasTrial rfl (by decide) (by decide) rfl (Nat.le_of_ble_eq_true rfl) d_Bk_setAt_2 (fun r1 σ2 => ?_)
  refine x_if_eq (tgt := 17) C d_Bk_setAt_5 (by decide) (fun _ => ?_) (fun _ => ?_)
  · refine x_iconst (v := (0 : Int32)) C d_Bk_setAt_17 (by decide) ?_
    refine x_lv [] rfl ?_
    exact IH.2 ((0 : Int32)) (σ2)
  · refine x_aload_n C d_Bk_setAt_8 0 rfl ?_
    refine x_gd (fun h4 => ?_)
    refine x_gd (fun h5 => ?_)
    refine x_getR (k := 0) (kv := 101) C (okO_iff.mp h4) rfl j3_ok (by decide) rfl (okO_iff.mp h5) (by decide) w298 d_Bk_setAt_9 ?_
    refine x_iload_n C d_Bk_setAt_12 1 rfl ?_
    refine x_gd (fun h6 => ?_)
    refine x_aldI C (okO_iff.mp h5) (inB_iff.mp h6) d_Bk_setAt_13 ?_
    refine x_goto (tgt := 18) C d_Bk_setAt_14 (by decide) ?_
    refine x_lv [] rfl ?_
    exact IH.2 (aI σ2 (aR σ2 v0R 0) v1I.toNatClampNeg) (σ2)
set_option maxRecDepth 20000 in
theorem s_Bk_setAt_1 {G : GX} {p : Program} {l : Launch} {e : Env} {s : State} {m : MethodId} {args : Array Value} {below : List Frame} {meth : Method} {c : Code} {z0 u0 n : Nat} (C : Cx G p s m args meth c prog_2_method_6_code 2 "BellPlate$Book" ((some FieldType.int))) (IH : I_Bk_setAt G p l e s m args below meth c z0 u0 n) (s0I : Int32) (σ : AM) : VX (QM eI G args s below z0 u0) G p l e s m args below meth c 1 z0 u0 2 (lpK (lpn F_Bk_setAt n) (T_Bk_setAt_1 s0I σ)) 18 [] [.int s0I] σ := by
  unfold T_Bk_setAt_1
  exact x_iret C d_Bk_setAt_18
theorem i_Bk_setAt {G : GX} {p : Program} {l : Launch} {e : Env} {s : State} {m : MethodId} {args : Array Value} {below : List Frame} {meth : Method} {c : Code} {z0 u0 : Nat} (C : Cx G p s m args meth c prog_2_method_6_code 2 "BellPlate$Book" ((some FieldType.int))) (n : Nat) : I_Bk_setAt G p l e s m args below meth c z0 u0 n := by
  induction n with
  | zero => exact ⟨fun _ _ _ => x_none, fun _ _ => x_none⟩
  | succ n IH => exact ⟨fun v0R v1I σ => s_Bk_setAt_0 C IH v0R v1I σ, fun s0I σ => s_Bk_setAt_1 C IH s0I σ⟩
theorem c_Bk_setAt (G : GX) (l : Launch) (v0R : Nat) (v1I : Int32) (σ : AM) : CT eI G l 1 y_Bk_setAt prog_2_method_6_code 2 ((some FieldType.int)) [.ref v0R, .int v1I] σ (M_Bk_setAt v0R v1I σ) := by
  refine ct_of (by decide +kernel) (Nat.le_of_ble_eq_true rfl) (fun p e s m args below meth c C hin => ?_)
  refine x_lve (lv' := [(0, .ref v0R), (1, .int v1I)]) rfl ?_
  intro r σ' h
  obtain ⟨n, hn⟩ := (lp_iff _ _ _).mp h
  exact (i_Bk_setAt C n).1 v0R v1I σ r σ' hn
/-! BellPlate$Book.rangAt(I)Z -/
abbrev y_Bk_rangAt : MethodName := ⟨"BellPlate$Book", "rangAt", "(I)Z"⟩
theorem k_Bk_rangAt : y_Bk_rangAt.cls ≠ "java/lang/invoke/MethodHandle" ∧ y_Bk_rangAt.cls ≠ "java/lang/invoke/VarHandle" ∧ (parseMethodDescriptor y_Bk_rangAt.desc).map (fun d => d.parameters.length) = some 1 := by decide +kernel
theorem d_Bk_rangAt_0 : decode prog_2_method_7_code 0 = .ok (.aload_n 0, 1) := by decide +kernel
theorem d_Bk_rangAt_1 : decode prog_2_method_7_code 1 = .ok (.iload_n 1, 1) := by decide +kernel
theorem d_Bk_rangAt_2 : decode prog_2_method_7_code 2 = .ok (.invokevirtual 44, 3) := by decide +kernel
theorem d_Bk_rangAt_5 : decode prog_2_method_7_code 5 = .ok (.ifCond .eq 16, 3) := by decide +kernel
theorem d_Bk_rangAt_8 : decode prog_2_method_7_code 8 = .ok (.aload_n 0, 1) := by decide +kernel
theorem d_Bk_rangAt_9 : decode prog_2_method_7_code 9 = .ok (.getfield 15, 3) := by decide +kernel
theorem d_Bk_rangAt_12 : decode prog_2_method_7_code 12 = .ok (.iload_n 1, 1) := by decide +kernel
theorem d_Bk_rangAt_13 : decode prog_2_method_7_code 13 = .ok (.baload, 1) := by decide +kernel
theorem d_Bk_rangAt_14 : decode prog_2_method_7_code 14 = .ok (.ifCond .eq 7, 3) := by decide +kernel
theorem d_Bk_rangAt_17 : decode prog_2_method_7_code 17 = .ok (.iconst 1, 1) := by decide +kernel
theorem d_Bk_rangAt_18 : decode prog_2_method_7_code 18 = .ok (.goto 4, 3) := by decide +kernel
theorem d_Bk_rangAt_21 : decode prog_2_method_7_code 21 = .ok (.iconst 0, 1) := by decide +kernel
theorem d_Bk_rangAt_22 : decode prog_2_method_7_code 22 = .ok (.ireturn, 1) := by decide +kernel
abbrev S_Bk_rangAt : Type := Nat × Nat × Int32 × Int32 × AM
noncomputable def T_Bk_rangAt_0 (v0R : Nat) (v1I : Int32) (σ : AM) : S_Bk_rangAt ⊕ Option (Int32 × AM) :=
  gdT (okO σ v0R 4) <| bndT (M_Bk_hasTrial v0R v1I σ) fun r1 σ2 => if r1 = 0 then (.inl (1, 0, 0, 0, σ2)) else (gdT (okO σ2 v0R 4) <| gdT (okO σ2 (aR σ2 v0R 1) 103) <| gdT (inB v1I (aN σ2 (aR σ2 v0R 1))) <| if (aI σ2 (aR σ2 v0R 1) v1I.toNatClampNeg) = 0 then (.inl (1, 0, 0, 0, σ2)) else (.inl (2, 0, 0, (1 : Int32), σ2)))
noncomputable def T_Bk_rangAt_1  (σ : AM) : S_Bk_rangAt ⊕ Option (Int32 × AM) :=
  .inl (2, 0, 0, (0 : Int32), σ)
noncomputable def T_Bk_rangAt_2 (s0I : Int32) (σ : AM) : S_Bk_rangAt ⊕ Option (Int32 × AM) :=
  gdT (isB s0I) <| .inr (some (s0I, σ))
noncomputable def F_Bk_rangAt : S_Bk_rangAt → S_Bk_rangAt ⊕ Option (Int32 × AM) := fun s => match s.1 with
  | 0 => T_Bk_rangAt_0 (s.2.1) (s.2.2.1) (s.2.2.2.2)
  | 1 => T_Bk_rangAt_1  (s.2.2.2.2)
  | _ => T_Bk_rangAt_2 (s.2.2.2.1) (s.2.2.2.2)
noncomputable def L_Bk_rangAt_0 (v0R : Nat) (v1I : Int32) (σ : AM) : Option (Int32 × AM) := lp F_Bk_rangAt (0, v0R, v1I, 0, σ)
noncomputable def L_Bk_rangAt_1  (σ : AM) : Option (Int32 × AM) := lp F_Bk_rangAt (1, 0, 0, 0, σ)
noncomputable def L_Bk_rangAt_2 (s0I : Int32) (σ : AM) : Option (Int32 × AM) := lp F_Bk_rangAt (2, 0, 0, s0I, σ)
set_option maxRecDepth 20000 in
theorem E_Bk_rangAt_0 (v0R : Nat) (v1I : Int32) (σ : AM) : L_Bk_rangAt_0 v0R v1I σ = (gd (okO σ v0R 4) <| bnd (M_Bk_hasTrial v0R v1I σ) fun r1 σ2 => if r1 = 0 then (L_Bk_rangAt_1 σ2) else (gd (okO σ2 v0R 4) <| gd (okO σ2 (aR σ2 v0R 1) 103) <| gd (inB v1I (aN σ2 (aR σ2 v0R 1))) <| if (aI σ2 (aR σ2 v0R 1) v1I.toNatClampNeg) = 0 then (L_Bk_rangAt_1 σ2) else (L_Bk_rangAt_2 ((1 : Int32)) σ2))) := by
  unfold L_Bk_rangAt_0
  rw [lp_eq]
  show lpK (lp F_Bk_rangAt) (T_Bk_rangAt_0 v0R v1I σ) = _
  unfold T_Bk_rangAt_0
  simp only [lpK_ite, lq_inl, lq_inr, lpK_bnd, lpK_gd, lq_let]
  try rfl
set_option maxRecDepth 20000 in
theorem E_Bk_rangAt_1  (σ : AM) : L_Bk_rangAt_1  σ = (L_Bk_rangAt_2 ((0 : Int32)) σ) := by
  unfold L_Bk_rangAt_1
  rw [lp_eq]
  show lpK (lp F_Bk_rangAt) (T_Bk_rangAt_1  σ) = _
  unfold T_Bk_rangAt_1
  simp only [lpK_ite, lq_inl, lq_inr, lpK_bnd, lpK_gd, lq_let]
  try rfl
set_option maxRecDepth 20000 in
theorem E_Bk_rangAt_2 (s0I : Int32) (σ : AM) : L_Bk_rangAt_2 s0I σ = (gd (isB s0I) <| (some (s0I, σ))) := by
  unfold L_Bk_rangAt_2
  rw [lp_eq]
  show lpK (lp F_Bk_rangAt) (T_Bk_rangAt_2 s0I σ) = _
  unfold T_Bk_rangAt_2
  simp only [lpK_ite, lq_inl, lq_inr, lpK_bnd, lpK_gd, lq_let]
  try rfl
noncomputable def M_Bk_rangAt (v0R : Nat) (v1I : Int32) (σ : AM) : Option (Int32 × AM) := mw σ (L_Bk_rangAt_0 v0R v1I σ)
def I_Bk_rangAt (G : GX) (p : Program) (l : Launch) (e : Env) (s : State) (m : MethodId) (args : Array Value) (below : List Frame) (meth : Method) (c : Code) (z0 u0 n : Nat) : Prop :=
  (∀ (v0R : Nat) (v1I : Int32) (σ : AM), VX (QM eI G args s below z0 u0) G p l e s m args below meth c 1 z0 u0 2 (lpn F_Bk_rangAt n (0, v0R, v1I, 0, σ)) 0 [(0, .ref v0R), (1, .int v1I)] [] σ) ∧
  (∀ (σ : AM), VX (QM eI G args s below z0 u0) G p l e s m args below meth c 1 z0 u0 2 (lpn F_Bk_rangAt n (1, 0, 0, 0, σ)) 21 [] [] σ) ∧
  (∀ (s0I : Int32) (σ : AM), VX (QM eI G args s below z0 u0) G p l e s m args below meth c 1 z0 u0 2 (lpn F_Bk_rangAt n (2, 0, 0, s0I, σ)) 22 [] [.int s0I] σ)
set_option maxRecDepth 20000 in
theorem s_Bk_rangAt_0 {G : GX} {p : Program} {l : Launch} {e : Env} {s : State} {m : MethodId} {args : Array Value} {below : List Frame} {meth : Method} {c : Code} {z0 u0 n : Nat} (C : Cx G p s m args meth c prog_2_method_7_code 2 "BellPlate$Book" ((some FieldType.boolean))) (IH : I_Bk_rangAt G p l e s m args below meth c z0 u0 n) (v0R : Nat) (v1I : Int32) (σ : AM) : VX (QM eI G args s below z0 u0) G p l e s m args below meth c 1 z0 u0 2 (lpK (lpn F_Bk_rangAt n) (T_Bk_rangAt_0 v0R v1I σ)) 0 [(0, .ref v0R), (1, .int v1I)] [] σ := by
  unfold T_Bk_rangAt_0
  refine x_aload_n C d_Bk_rangAt_0 0 rfl ?_
  refine x_iload_n C d_Bk_rangAt_1 1 rfl ?_
  refine x_gd (fun h3 => ?_)
  refine x_callVI (As := [.int v1I]) C (c_Bk_hasTrial G l v0R v1I σ) (okO_iff.mp h3) rfl w1375 w1376 w1374 w1377 w124 k_Bk_hasTrial rfl (by decide) (by decide) rfl (Nat.le_of_ble_eq_true rfl) d_Bk_rangAt_2 (fun r1 σ2 => ?_)
  refine x_if_eq (tgt := 21) C d_Bk_rangAt_5 (by decide) (fun _ => ?_) (fun _ => ?_)
  · refine x_lv [] rfl ?_
    exact IH.2.1  (σ2)
  · refine x_aload_n C d_Bk_rangAt_8 0 rfl ?_
    refine x_gd (fun h4 => ?_)
    refine x_gd (fun h5 => ?_)
    refine x_getR (k := 1) (kv := 103) C (okO_iff.mp h4) rfl j3_ok (by decide) rfl (okO_iff.mp h5) (by decide) w299 d_Bk_rangAt_9 ?_
    refine x_iload_n C d_Bk_rangAt_12 1 rfl ?_
    refine x_gd (fun h6 => ?_)
    refine x_aldZ C (okO_iff.mp h5) (inB_iff.mp h6) d_Bk_rangAt_13 ?_
    refine x_if_eq (tgt := 21) C d_Bk_rangAt_14 (by decide) (fun _ => ?_) (fun _ => ?_)
    · refine x_lv [] rfl ?_
      exact IH.2.1  (σ2)
    · refine x_iconst (v := (1 : Int32)) C d_Bk_rangAt_17 (by decide) ?_
      refine x_goto (tgt := 22) C d_Bk_rangAt_18 (by decide) ?_
      refine x_lv [] rfl ?_
      exact IH.2.2 ((1 : Int32)) (σ2)
set_option maxRecDepth 20000 in
theorem s_Bk_rangAt_1 {G : GX} {p : Program} {l : Launch} {e : Env} {s : State} {m : MethodId} {args : Array Value} {below : List Frame} {meth : Method} {c : Code} {z0 u0 n : Nat} (C : Cx G p s m args meth c prog_2_method_7_code 2 "BellPlate$Book" ((some FieldType.boolean))) (IH : I_Bk_rangAt G p l e s m args below meth c z0 u0 n)  (σ : AM) : VX (QM eI G args s below z0 u0) G p l e s m args below meth c 1 z0 u0 2 (lpK (lpn F_Bk_rangAt n) (T_Bk_rangAt_1  σ)) 21 [] [] σ := by
  unfold T_Bk_rangAt_1
  refine x_iconst (v := (0 : Int32)) C d_Bk_rangAt_21 (by decide) ?_
  exact IH.2.2 ((0 : Int32)) (σ)
set_option maxRecDepth 20000 in
theorem s_Bk_rangAt_2 {G : GX} {p : Program} {l : Launch} {e : Env} {s : State} {m : MethodId} {args : Array Value} {below : List Frame} {meth : Method} {c : Code} {z0 u0 n : Nat} (C : Cx G p s m args meth c prog_2_method_7_code 2 "BellPlate$Book" ((some FieldType.boolean))) (IH : I_Bk_rangAt G p l e s m args below meth c z0 u0 n) (s0I : Int32) (σ : AM) : VX (QM eI G args s below z0 u0) G p l e s m args below meth c 1 z0 u0 2 (lpK (lpn F_Bk_rangAt n) (T_Bk_rangAt_2 s0I σ)) 22 [] [.int s0I] σ := by
  unfold T_Bk_rangAt_2
  refine x_gd (fun h1 => ?_)
  exact x_zret C (isB_narrow h1) d_Bk_rangAt_22
theorem i_Bk_rangAt {G : GX} {p : Program} {l : Launch} {e : Env} {s : State} {m : MethodId} {args : Array Value} {below : List Frame} {meth : Method} {c : Code} {z0 u0 : Nat} (C : Cx G p s m args meth c prog_2_method_7_code 2 "BellPlate$Book" ((some FieldType.boolean))) (n : Nat) : I_Bk_rangAt G p l e s m args below meth c z0 u0 n := by
  induction n with
  | zero => exact ⟨fun _ _ _ => x_none, fun _ => x_none, fun _ _ => x_none⟩
  | succ n IH => exact ⟨fun v0R v1I σ => s_Bk_rangAt_0 C IH v0R v1I σ, fun σ => s_Bk_rangAt_1 C IH σ, fun s0I σ => s_Bk_rangAt_2 C IH s0I σ⟩
theorem c_Bk_rangAt (G : GX) (l : Launch) (v0R : Nat) (v1I : Int32) (σ : AM) : CT eI G l 1 y_Bk_rangAt prog_2_method_7_code 2 ((some FieldType.boolean)) [.ref v0R, .int v1I] σ (M_Bk_rangAt v0R v1I σ) := by
  refine ct_of (by decide +kernel) (Nat.le_of_ble_eq_true rfl) (fun p e s m args below meth c C hin => ?_)
  refine x_lve (lv' := [(0, .ref v0R), (1, .int v1I)]) rfl ?_
  intro r σ' h
  obtain ⟨n, hn⟩ := (lp_iff _ _ _).mp h
  exact (i_Bk_rangAt C n).1 v0R v1I σ r σ' hn
/-! BellPlate$Book.forget()V -/
abbrev y_Bk_forget : MethodName := ⟨"BellPlate$Book", "forget", "()V"⟩
theorem k_Bk_forget : y_Bk_forget.cls ≠ "java/lang/invoke/MethodHandle" ∧ y_Bk_forget.cls ≠ "java/lang/invoke/VarHandle" ∧ (parseMethodDescriptor y_Bk_forget.desc).map (fun d => d.parameters.length) = some 0 := by decide +kernel
theorem d_Bk_forget_0 : decode prog_2_method_8_code 0 = .ok (.aload_n 0, 1) := by decide +kernel
theorem d_Bk_forget_1 : decode prog_2_method_8_code 1 = .ok (.iconst 0, 1) := by decide +kernel
theorem d_Bk_forget_2 : decode prog_2_method_8_code 2 = .ok (.putfield 34, 3) := by decide +kernel
theorem d_Bk_forget_5 : decode prog_2_method_8_code 5 = .ok (.aload_n 0, 1) := by decide +kernel
theorem d_Bk_forget_6 : decode prog_2_method_8_code 6 = .ok (.iconst 0, 1) := by decide +kernel
theorem d_Bk_forget_7 : decode prog_2_method_8_code 7 = .ok (.putfield 38, 3) := by decide +kernel
theorem d_Bk_forget_10 : decode prog_2_method_8_code 10 = .ok (.aload_n 0, 1) := by decide +kernel
theorem d_Bk_forget_11 : decode prog_2_method_8_code 11 = .ok (.getfield 31, 3) := by decide +kernel
theorem d_Bk_forget_14 : decode prog_2_method_8_code 14 = .ok (.iconst 0, 1) := by decide +kernel
theorem d_Bk_forget_15 : decode prog_2_method_8_code 15 = .ok (.invokestatic 48, 3) := by decide +kernel
theorem d_Bk_forget_18 : decode prog_2_method_8_code 18 = .ok (.aload_n 0, 1) := by decide +kernel
theorem d_Bk_forget_19 : decode prog_2_method_8_code 19 = .ok (.dup, 1) := by decide +kernel
theorem d_Bk_forget_20 : decode prog_2_method_8_code 20 = .ok (.getfield 41, 3) := by decide +kernel
theorem d_Bk_forget_23 : decode prog_2_method_8_code 23 = .ok (.iconst 1, 1) := by decide +kernel
theorem d_Bk_forget_24 : decode prog_2_method_8_code 24 = .ok (.iadd, 1) := by decide +kernel
theorem d_Bk_forget_25 : decode prog_2_method_8_code 25 = .ok (.putfield 41, 3) := by decide +kernel
theorem d_Bk_forget_28 : decode prog_2_method_8_code 28 = .ok (.return_, 1) := by decide +kernel
abbrev S_Bk_forget : Type := Nat × Nat × AM
noncomputable def T_Bk_forget_0 (v0R : Nat) (σ : AM) : S_Bk_forget ⊕ Option (Unit × AM) :=
  gdT (okO σ v0R 4) <| letT (sI σ v0R 7 (0 : Int32)) fun σ2 => letT (sI σ2 v0R 8 (0 : Int32)) fun σ4 => gdT (okO σ4 (aR σ4 v0R 6) 101) <| bndT (M_JArr_fill2 (aR σ4 v0R 6) (0 : Int32) σ4) fun _ σ8 => gdT (okO σ8 v0R 4) <| letT (sI σ8 v0R 10 ((aI σ8 v0R 10) + (1 : Int32))) fun σ10 => .inr (some ((), σ10))
noncomputable def F_Bk_forget : S_Bk_forget → S_Bk_forget ⊕ Option (Unit × AM) := fun s => match s.1 with
  | _ => T_Bk_forget_0 (s.2.1) (s.2.2)
noncomputable def L_Bk_forget_0 (v0R : Nat) (σ : AM) : Option (Unit × AM) := lp F_Bk_forget (0, v0R, σ)
set_option maxRecDepth 20000 in
theorem E_Bk_forget_0 (v0R : Nat) (σ : AM) : L_Bk_forget_0 v0R σ = (gd (okO σ v0R 4) <| letT (sI σ v0R 7 (0 : Int32)) fun σ2 => letT (sI σ2 v0R 8 (0 : Int32)) fun σ4 => gd (okO σ4 (aR σ4 v0R 6) 101) <| bnd (M_JArr_fill2 (aR σ4 v0R 6) (0 : Int32) σ4) fun _ σ8 => gd (okO σ8 v0R 4) <| letT (sI σ8 v0R 10 ((aI σ8 v0R 10) + (1 : Int32))) fun σ10 => (some ((), σ10))) := by
  unfold L_Bk_forget_0
  rw [lp_eq]
  show lpK (lp F_Bk_forget) (T_Bk_forget_0 v0R σ) = _
  unfold T_Bk_forget_0
  simp only [lpK_ite, lq_inl, lq_inr, lpK_bnd, lpK_gd, lq_let]
  try rfl
noncomputable def M_Bk_forget (v0R : Nat) (σ : AM) : Option (Unit × AM) := mw σ (L_Bk_forget_0 v0R σ)
def I_Bk_forget (G : GX) (p : Program) (l : Launch) (e : Env) (s : State) (m : MethodId) (args : Array Value) (below : List Frame) (meth : Method) (c : Code) (z0 u0 n : Nat) : Prop :=
  (∀ (v0R : Nat) (σ : AM), VX (QM eV G args s below z0 u0) G p l e s m args below meth c 1 z0 u0 1 (lpn F_Bk_forget n (0, v0R, σ)) 0 [(0, .ref v0R)] [] σ)
set_option maxRecDepth 20000 in
theorem s_Bk_forget_0 {G : GX} {p : Program} {l : Launch} {e : Env} {s : State} {m : MethodId} {args : Array Value} {below : List Frame} {meth : Method} {c : Code} {z0 u0 n : Nat} (C : Cx G p s m args meth c prog_2_method_8_code 1 "BellPlate$Book" ((none))) (IH : I_Bk_forget G p l e s m args below meth c z0 u0 n) (v0R : Nat) (σ : AM) : VX (QM eV G args s below z0 u0) G p l e s m args below meth c 1 z0 u0 1 (lpK (lpn F_Bk_forget n) (T_Bk_forget_0 v0R σ)) 0 [(0, .ref v0R)] [] σ := by
  unfold T_Bk_forget_0
  refine x_aload_n C d_Bk_forget_0 0 rfl ?_
  refine x_iconst (v := (0 : Int32)) C d_Bk_forget_1 (by decide) ?_
  refine x_gd (fun h1 => ?_)
  refine x_putI (k := 7) C (okO_iff.mp h1) rfl j3_ok y3_ok n3_ok (by decide) rfl rfl rfl rfl w305 d_Bk_forget_2 ?_
  refine x_letS (fun σ2 e3 => ?_)
  refine x_aload_n C d_Bk_forget_5 0 rfl ?_
  refine x_iconst (v := (0 : Int32)) C d_Bk_forget_6 (by decide) ?_
  refine x_putI (k := 8) C (by first | exact (okO_iff.mp h1) | (rw [e3]; exact (okO_iff.mp h1))) rfl j3_ok y3_ok n3_ok (by decide) rfl rfl rfl rfl w306 d_Bk_forget_7 ?_
  refine x_letS (fun σ4 e5 => ?_)
  refine x_aload_n C d_Bk_forget_10 0 rfl ?_
  refine x_gd (fun h6 => ?_)
  refine x_getR (k := 6) (kv := 101) C (by first | exact (okO_iff.mp h1) | (rw [e5, e3]; exact (okO_iff.mp h1))) rfl j3_ok (by decide) rfl (okO_iff.mp h6) (by decide) w304 d_Bk_forget_11 ?_
  refine x_iconst (v := (0 : Int32)) C d_Bk_forget_14 (by decide) ?_
  refine x_callSV (As := [.ref (aR σ4 v0R 6), .int (0 : Int32)]) C (c_JArr_fill2 G l (aR σ4 v0R 6) (0 : Int32) σ4) w377 w972 w378 w127 k_JArr_fill2 rfl (by decide) (by decide) rfl (Nat.le_of_ble_eq_true rfl) d_Bk_forget_15 (fun r7 σ8 => ?_)
  refine x_aload_n C d_Bk_forget_18 0 rfl ?_
  refine x_dup C d_Bk_forget_19 rfl ?_
  refine x_gd (fun h9 => ?_)
  refine x_getI (k := 10) C (okO_iff.mp h9) rfl j3_ok (by decide) rfl w308 d_Bk_forget_20 ?_
  refine x_iconst (v := (1 : Int32)) C d_Bk_forget_23 (by decide) ?_
  refine x_iadd C d_Bk_forget_24 ?_
  refine x_putI (k := 10) C (okO_iff.mp h9) rfl j3_ok y3_ok n3_ok (by decide) rfl rfl rfl rfl w308 d_Bk_forget_25 ?_
  refine x_letS (fun σ10 e11 => ?_)
  exact x_vret C d_Bk_forget_28
theorem i_Bk_forget {G : GX} {p : Program} {l : Launch} {e : Env} {s : State} {m : MethodId} {args : Array Value} {below : List Frame} {meth : Method} {c : Code} {z0 u0 : Nat} (C : Cx G p s m args meth c prog_2_method_8_code 1 "BellPlate$Book" ((none))) (n : Nat) : I_Bk_forget G p l e s m args below meth c z0 u0 n := by
  induction n with
  | zero => exact fun _ _ => x_none
  | succ n IH => exact fun v0R σ => s_Bk_forget_0 C IH v0R σ
theorem c_Bk_forget (G : GX) (l : Launch) (v0R : Nat) (σ : AM) : CT eV G l 1 y_Bk_forget prog_2_method_8_code 1 (none) [.ref v0R] σ (M_Bk_forget v0R σ) := by
  refine ct_of (by decide +kernel) (Nat.le_of_ble_eq_true rfl) (fun p e s m args below meth c C hin => ?_)
  refine x_lve (lv' := [(0, .ref v0R)]) rfl ?_
  intro r σ' h
  obtain ⟨n, hn⟩ := (lp_iff _ _ _).mp h
  exact (i_Bk_forget C n) v0R σ r σ' hn
/-! BellPlate$Book.addTrial(IZ)I -/
abbrev y_Bk_addTrial : MethodName := ⟨"BellPlate$Book", "addTrial", "(IZ)I"⟩
theorem k_Bk_addTrial : y_Bk_addTrial.cls ≠ "java/lang/invoke/MethodHandle" ∧ y_Bk_addTrial.cls ≠ "java/lang/invoke/VarHandle" ∧ (parseMethodDescriptor y_Bk_addTrial.desc).map (fun d => d.parameters.length) = some 2 := by decide +kernel
theorem d_Bk_addTrial_0 : decode prog_2_method_9_code 0 = .ok (.aload_n 0, 1) := by decide +kernel
theorem d_Bk_addTrial_1 : decode prog_2_method_9_code 1 = .ok (.getfield 34, 3) := by decide +kernel
theorem d_Bk_addTrial_4 : decode prog_2_method_9_code 4 = .ok (.bipush 60, 2) := by decide +kernel
theorem d_Bk_addTrial_6 : decode prog_2_method_9_code 6 = .ok (.if_icmp .lt 5, 3) := by decide +kernel
theorem d_Bk_addTrial_9 : decode prog_2_method_9_code 9 = .ok (.iconst (-1), 1) := by decide +kernel
theorem d_Bk_addTrial_10 : decode prog_2_method_9_code 10 = .ok (.ireturn, 1) := by decide +kernel
theorem d_Bk_addTrial_11 : decode prog_2_method_9_code 11 = .ok (.aload_n 0, 1) := by decide +kernel
theorem d_Bk_addTrial_12 : decode prog_2_method_9_code 12 = .ok (.getfield 11, 3) := by decide +kernel
theorem d_Bk_addTrial_15 : decode prog_2_method_9_code 15 = .ok (.aload_n 0, 1) := by decide +kernel
theorem d_Bk_addTrial_16 : decode prog_2_method_9_code 16 = .ok (.getfield 34, 3) := by decide +kernel
theorem d_Bk_addTrial_19 : decode prog_2_method_9_code 19 = .ok (.iload_n 1, 1) := by decide +kernel
theorem d_Bk_addTrial_20 : decode prog_2_method_9_code 20 = .ok (.iastore, 1) := by decide +kernel
theorem d_Bk_addTrial_21 : decode prog_2_method_9_code 21 = .ok (.aload_n 0, 1) := by decide +kernel
theorem d_Bk_addTrial_22 : decode prog_2_method_9_code 22 = .ok (.getfield 15, 3) := by decide +kernel
theorem d_Bk_addTrial_25 : decode prog_2_method_9_code 25 = .ok (.aload_n 0, 1) := by decide +kernel
theorem d_Bk_addTrial_26 : decode prog_2_method_9_code 26 = .ok (.getfield 34, 3) := by decide +kernel
theorem d_Bk_addTrial_29 : decode prog_2_method_9_code 29 = .ok (.iload_n 2, 1) := by decide +kernel
theorem d_Bk_addTrial_30 : decode prog_2_method_9_code 30 = .ok (.bastore, 1) := by decide +kernel
theorem d_Bk_addTrial_31 : decode prog_2_method_9_code 31 = .ok (.aload_n 0, 1) := by decide +kernel
theorem d_Bk_addTrial_32 : decode prog_2_method_9_code 32 = .ok (.dup, 1) := by decide +kernel
theorem d_Bk_addTrial_33 : decode prog_2_method_9_code 33 = .ok (.getfield 34, 3) := by decide +kernel
theorem d_Bk_addTrial_36 : decode prog_2_method_9_code 36 = .ok (.iconst 1, 1) := by decide +kernel
theorem d_Bk_addTrial_37 : decode prog_2_method_9_code 37 = .ok (.iadd, 1) := by decide +kernel
theorem d_Bk_addTrial_38 : decode prog_2_method_9_code 38 = .ok (.putfield 34, 3) := by decide +kernel
theorem d_Bk_addTrial_41 : decode prog_2_method_9_code 41 = .ok (.aload_n 0, 1) := by decide +kernel
theorem d_Bk_addTrial_42 : decode prog_2_method_9_code 42 = .ok (.dup, 1) := by decide +kernel
theorem d_Bk_addTrial_43 : decode prog_2_method_9_code 43 = .ok (.getfield 41, 3) := by decide +kernel
theorem d_Bk_addTrial_46 : decode prog_2_method_9_code 46 = .ok (.iconst 1, 1) := by decide +kernel
theorem d_Bk_addTrial_47 : decode prog_2_method_9_code 47 = .ok (.iadd, 1) := by decide +kernel
theorem d_Bk_addTrial_48 : decode prog_2_method_9_code 48 = .ok (.putfield 41, 3) := by decide +kernel
theorem d_Bk_addTrial_51 : decode prog_2_method_9_code 51 = .ok (.aload_n 0, 1) := by decide +kernel
theorem d_Bk_addTrial_52 : decode prog_2_method_9_code 52 = .ok (.getfield 34, 3) := by decide +kernel
theorem d_Bk_addTrial_55 : decode prog_2_method_9_code 55 = .ok (.iconst 1, 1) := by decide +kernel
theorem d_Bk_addTrial_56 : decode prog_2_method_9_code 56 = .ok (.isub, 1) := by decide +kernel
theorem d_Bk_addTrial_57 : decode prog_2_method_9_code 57 = .ok (.ireturn, 1) := by decide +kernel
abbrev S_Bk_addTrial : Type := Nat × Nat × Int32 × Int32 × AM
noncomputable def T_Bk_addTrial_0 (v0R : Nat) (v1I : Int32) (v2I : Int32) (σ : AM) : S_Bk_addTrial ⊕ Option (Int32 × AM) :=
  gdT (okO σ v0R 4) <| if (aI σ v0R 7) < (60 : Int32) then (gdT (okO σ (aR σ v0R 0) 101) <| gdT (inB (aI σ v0R 7) (aN σ (aR σ v0R 0))) <| letT (sI σ (aR σ v0R 0) (aI σ v0R 7).toNatClampNeg v1I) fun σ4 => gdT (okO σ4 (aR σ4 v0R 1) 103) <| gdT (inB (aI σ4 v0R 7) (aN σ4 (aR σ4 v0R 1))) <| letT (sI σ4 (aR σ4 v0R 1) (aI σ4 v0R 7).toNatClampNeg (vp_nar .boolean v2I)) fun σ8 => letT (sI σ8 v0R 7 ((aI σ8 v0R 7) + (1 : Int32))) fun σ10 => letT (sI σ10 v0R 10 ((aI σ10 v0R 10) + (1 : Int32))) fun σ12 => .inr (some (((aI σ12 v0R 7) - (1 : Int32)), σ12))) else (.inr (some (((-1) : Int32), σ)))
noncomputable def F_Bk_addTrial : S_Bk_addTrial → S_Bk_addTrial ⊕ Option (Int32 × AM) := fun s => match s.1 with
  | _ => T_Bk_addTrial_0 (s.2.1) (s.2.2.1) (s.2.2.2.1) (s.2.2.2.2)
noncomputable def L_Bk_addTrial_0 (v0R : Nat) (v1I : Int32) (v2I : Int32) (σ : AM) : Option (Int32 × AM) := lp F_Bk_addTrial (0, v0R, v1I, v2I, σ)
set_option maxRecDepth 20000 in
theorem E_Bk_addTrial_0 (v0R : Nat) (v1I : Int32) (v2I : Int32) (σ : AM) : L_Bk_addTrial_0 v0R v1I v2I σ = (gd (okO σ v0R 4) <| if (aI σ v0R 7) < (60 : Int32) then (gd (okO σ (aR σ v0R 0) 101) <| gd (inB (aI σ v0R 7) (aN σ (aR σ v0R 0))) <| letT (sI σ (aR σ v0R 0) (aI σ v0R 7).toNatClampNeg v1I) fun σ4 => gd (okO σ4 (aR σ4 v0R 1) 103) <| gd (inB (aI σ4 v0R 7) (aN σ4 (aR σ4 v0R 1))) <| letT (sI σ4 (aR σ4 v0R 1) (aI σ4 v0R 7).toNatClampNeg (vp_nar .boolean v2I)) fun σ8 => letT (sI σ8 v0R 7 ((aI σ8 v0R 7) + (1 : Int32))) fun σ10 => letT (sI σ10 v0R 10 ((aI σ10 v0R 10) + (1 : Int32))) fun σ12 => (some (((aI σ12 v0R 7) - (1 : Int32)), σ12))) else ((some (((-1) : Int32), σ)))) := by
  unfold L_Bk_addTrial_0
  rw [lp_eq]
  show lpK (lp F_Bk_addTrial) (T_Bk_addTrial_0 v0R v1I v2I σ) = _
  unfold T_Bk_addTrial_0
  simp only [lpK_ite, lq_inl, lq_inr, lpK_bnd, lpK_gd, lq_let]
  try rfl
noncomputable def M_Bk_addTrial (v0R : Nat) (v1I : Int32) (v2I : Int32) (σ : AM) : Option (Int32 × AM) := mw σ (L_Bk_addTrial_0 v0R v1I v2I σ)
def I_Bk_addTrial (G : GX) (p : Program) (l : Launch) (e : Env) (s : State) (m : MethodId) (args : Array Value) (below : List Frame) (meth : Method) (c : Code) (z0 u0 n : Nat) : Prop :=
  (∀ (v0R : Nat) (v1I : Int32) (v2I : Int32) (σ : AM), VX (QM eI G args s below z0 u0) G p l e s m args below meth c 0 z0 u0 3 (lpn F_Bk_addTrial n (0, v0R, v1I, v2I, σ)) 0 [(0, .ref v0R), (1, .int v1I), (2, .int v2I)] [] σ)
set_option maxRecDepth 20000 in
theorem s_Bk_addTrial_0 {G : GX} {p : Program} {l : Launch} {e : Env} {s : State} {m : MethodId} {args : Array Value} {below : List Frame} {meth : Method} {c : Code} {z0 u0 n : Nat} (C : Cx G p s m args meth c prog_2_method_9_code 3 "BellPlate$Book" ((some FieldType.int))) (IH : I_Bk_addTrial G p l e s m args below meth c z0 u0 n) (v0R : Nat) (v1I : Int32) (v2I : Int32) (σ : AM) : VX (QM eI G args s below z0 u0) G p l e s m args below meth c 0 z0 u0 3 (lpK (lpn F_Bk_addTrial n) (T_Bk_addTrial_0 v0R v1I v2I σ)) 0 [(0, .ref v0R), (1, .int v1I), (2, .int v2I)] [] σ := by
  unfold T_Bk_addTrial_0
  refine x_aload_n C d_Bk_addTrial_0 0 rfl ?_
  refine x_gd (fun h1 => ?_)
  refine x_getI (k := 7) C (okO_iff.mp h1) rfl j3_ok (by decide) rfl w305 d_Bk_addTrial_1 ?_
  refine x_bipush (v := (60 : Int32)) C d_Bk_addTrial_4 (by decide) ?_
  refine x_icmp_lt (tgt := 11) C d_Bk_addTrial_6 (by decide) (fun _ => ?_) (fun _ => ?_)
  · refine x_aload_n C d_Bk_addTrial_11 0 rfl ?_
    refine x_gd (fun h2 => ?_)
    refine x_getR (k := 0) (kv := 101) C (okO_iff.mp h1) rfl j3_ok (by decide) rfl (okO_iff.mp h2) (by decide) w298 d_Bk_addTrial_12 ?_
    refine x_aload_n C d_Bk_addTrial_15 0 rfl ?_
    refine x_getI (k := 7) C (okO_iff.mp h1) rfl j3_ok (by decide) rfl w305 d_Bk_addTrial_16 ?_
    refine x_iload_n C d_Bk_addTrial_19 1 rfl ?_
    refine x_gd (fun h3 => ?_)
    refine x_astI C (okO_iff.mp h2) (inB_iff.mp h3) d_Bk_addTrial_20 ?_
    refine x_letS (fun σ4 e5 => ?_)
    refine x_aload_n C d_Bk_addTrial_21 0 rfl ?_
    refine x_gd (fun h6 => ?_)
    refine x_getR (k := 1) (kv := 103) C (by first | exact (okO_iff.mp h1) | (rw [e5]; exact (okO_iff.mp h1))) rfl j3_ok (by decide) rfl (okO_iff.mp h6) (by decide) w299 d_Bk_addTrial_22 ?_
    refine x_aload_n C d_Bk_addTrial_25 0 rfl ?_
    refine x_getI (k := 7) C (by first | exact (okO_iff.mp h1) | (rw [e5]; exact (okO_iff.mp h1))) rfl j3_ok (by decide) rfl w305 d_Bk_addTrial_26 ?_
    refine x_iload_n C d_Bk_addTrial_29 2 rfl ?_
    refine x_gd (fun h7 => ?_)
    refine x_astZ C (okO_iff.mp h6) (inB_iff.mp h7) d_Bk_addTrial_30 ?_
    refine x_letS (fun σ8 e9 => ?_)
    refine x_aload_n C d_Bk_addTrial_31 0 rfl ?_
    refine x_dup C d_Bk_addTrial_32 rfl ?_
    refine x_getI (k := 7) C (by first | exact (okO_iff.mp h1) | (rw [e9, e5]; exact (okO_iff.mp h1))) rfl j3_ok (by decide) rfl w305 d_Bk_addTrial_33 ?_
    refine x_iconst (v := (1 : Int32)) C d_Bk_addTrial_36 (by decide) ?_
    refine x_iadd C d_Bk_addTrial_37 ?_
    refine x_putI (k := 7) C (by first | exact (okO_iff.mp h1) | (rw [e9, e5]; exact (okO_iff.mp h1))) rfl j3_ok y3_ok n3_ok (by decide) rfl rfl rfl rfl w305 d_Bk_addTrial_38 ?_
    refine x_letS (fun σ10 e11 => ?_)
    refine x_aload_n C d_Bk_addTrial_41 0 rfl ?_
    refine x_dup C d_Bk_addTrial_42 rfl ?_
    refine x_getI (k := 10) C (by first | exact (okO_iff.mp h1) | (rw [e11, e9, e5]; exact (okO_iff.mp h1))) rfl j3_ok (by decide) rfl w308 d_Bk_addTrial_43 ?_
    refine x_iconst (v := (1 : Int32)) C d_Bk_addTrial_46 (by decide) ?_
    refine x_iadd C d_Bk_addTrial_47 ?_
    refine x_putI (k := 10) C (by first | exact (okO_iff.mp h1) | (rw [e11, e9, e5]; exact (okO_iff.mp h1))) rfl j3_ok y3_ok n3_ok (by decide) rfl rfl rfl rfl w308 d_Bk_addTrial_48 ?_
    refine x_letS (fun σ12 e13 => ?_)
    refine x_aload_n C d_Bk_addTrial_51 0 rfl ?_
    refine x_getI (k := 7) C (by first | exact (okO_iff.mp h1) | (rw [e13, e11, e9, e5]; exact (okO_iff.mp h1))) rfl j3_ok (by decide) rfl w305 d_Bk_addTrial_52 ?_
    refine x_iconst (v := (1 : Int32)) C d_Bk_addTrial_55 (by decide) ?_
    refine x_isub C d_Bk_addTrial_56 ?_
    exact x_iret C d_Bk_addTrial_57
  · refine x_iconst (v := ((-1) : Int32)) C d_Bk_addTrial_9 (by decide) ?_
    exact x_iret C d_Bk_addTrial_10
theorem i_Bk_addTrial {G : GX} {p : Program} {l : Launch} {e : Env} {s : State} {m : MethodId} {args : Array Value} {below : List Frame} {meth : Method} {c : Code} {z0 u0 : Nat} (C : Cx G p s m args meth c prog_2_method_9_code 3 "BellPlate$Book" ((some FieldType.int))) (n : Nat) : I_Bk_addTrial G p l e s m args below meth c z0 u0 n := by
  induction n with
  | zero => exact fun _ _ _ _ => x_none
  | succ n IH => exact fun v0R v1I v2I σ => s_Bk_addTrial_0 C IH v0R v1I v2I σ
theorem c_Bk_addTrial (G : GX) (l : Launch) (v0R : Nat) (v1I : Int32) (v2I : Int32) (σ : AM) : CT eI G l 0 y_Bk_addTrial prog_2_method_9_code 3 ((some FieldType.int)) [.ref v0R, .int v1I, .int v2I] σ (M_Bk_addTrial v0R v1I v2I σ) := by
  refine ct_of (by decide +kernel) (Nat.le_of_ble_eq_true rfl) (fun p e s m args below meth c C hin => ?_)
  refine x_lve (lv' := [(0, .ref v0R), (1, .int v1I), (2, .int v2I)]) rfl ?_
  intro r σ' h
  obtain ⟨n, hn⟩ := (lp_iff _ _ _).mp h
  exact (i_Bk_addTrial C n) v0R v1I v2I σ r σ' hn
/-! BellPlate$Book.addHint(II)I -/
abbrev y_Bk_addHint : MethodName := ⟨"BellPlate$Book", "addHint", "(II)I"⟩
theorem k_Bk_addHint : y_Bk_addHint.cls ≠ "java/lang/invoke/MethodHandle" ∧ y_Bk_addHint.cls ≠ "java/lang/invoke/VarHandle" ∧ (parseMethodDescriptor y_Bk_addHint.desc).map (fun d => d.parameters.length) = some 2 := by decide +kernel
theorem d_Bk_addHint_0 : decode prog_2_method_10_code 0 = .ok (.aload_n 0, 1) := by decide +kernel
theorem d_Bk_addHint_1 : decode prog_2_method_10_code 1 = .ok (.getfield 38, 3) := by decide +kernel
theorem d_Bk_addHint_4 : decode prog_2_method_10_code 4 = .ok (.bipush 8, 2) := by decide +kernel
theorem d_Bk_addHint_6 : decode prog_2_method_10_code 6 = .ok (.if_icmp .lt 5, 3) := by decide +kernel
theorem d_Bk_addHint_9 : decode prog_2_method_10_code 9 = .ok (.iconst (-1), 1) := by decide +kernel
theorem d_Bk_addHint_10 : decode prog_2_method_10_code 10 = .ok (.ireturn, 1) := by decide +kernel
theorem d_Bk_addHint_11 : decode prog_2_method_10_code 11 = .ok (.aload_n 0, 1) := by decide +kernel
theorem d_Bk_addHint_12 : decode prog_2_method_10_code 12 = .ok (.getfield 19, 3) := by decide +kernel
theorem d_Bk_addHint_15 : decode prog_2_method_10_code 15 = .ok (.aload_n 0, 1) := by decide +kernel
theorem d_Bk_addHint_16 : decode prog_2_method_10_code 16 = .ok (.getfield 38, 3) := by decide +kernel
theorem d_Bk_addHint_19 : decode prog_2_method_10_code 19 = .ok (.iload_n 1, 1) := by decide +kernel
theorem d_Bk_addHint_20 : decode prog_2_method_10_code 20 = .ok (.iastore, 1) := by decide +kernel
theorem d_Bk_addHint_21 : decode prog_2_method_10_code 21 = .ok (.aload_n 0, 1) := by decide +kernel
theorem d_Bk_addHint_22 : decode prog_2_method_10_code 22 = .ok (.getfield 22, 3) := by decide +kernel
theorem d_Bk_addHint_25 : decode prog_2_method_10_code 25 = .ok (.aload_n 0, 1) := by decide +kernel
theorem d_Bk_addHint_26 : decode prog_2_method_10_code 26 = .ok (.getfield 38, 3) := by decide +kernel
theorem d_Bk_addHint_29 : decode prog_2_method_10_code 29 = .ok (.iload_n 2, 1) := by decide +kernel
theorem d_Bk_addHint_30 : decode prog_2_method_10_code 30 = .ok (.iastore, 1) := by decide +kernel
theorem d_Bk_addHint_31 : decode prog_2_method_10_code 31 = .ok (.aload_n 0, 1) := by decide +kernel
theorem d_Bk_addHint_32 : decode prog_2_method_10_code 32 = .ok (.dup, 1) := by decide +kernel
theorem d_Bk_addHint_33 : decode prog_2_method_10_code 33 = .ok (.getfield 38, 3) := by decide +kernel
theorem d_Bk_addHint_36 : decode prog_2_method_10_code 36 = .ok (.iconst 1, 1) := by decide +kernel
theorem d_Bk_addHint_37 : decode prog_2_method_10_code 37 = .ok (.iadd, 1) := by decide +kernel
theorem d_Bk_addHint_38 : decode prog_2_method_10_code 38 = .ok (.putfield 38, 3) := by decide +kernel
theorem d_Bk_addHint_41 : decode prog_2_method_10_code 41 = .ok (.aload_n 0, 1) := by decide +kernel
theorem d_Bk_addHint_42 : decode prog_2_method_10_code 42 = .ok (.dup, 1) := by decide +kernel
theorem d_Bk_addHint_43 : decode prog_2_method_10_code 43 = .ok (.getfield 41, 3) := by decide +kernel
theorem d_Bk_addHint_46 : decode prog_2_method_10_code 46 = .ok (.iconst 1, 1) := by decide +kernel
theorem d_Bk_addHint_47 : decode prog_2_method_10_code 47 = .ok (.iadd, 1) := by decide +kernel
theorem d_Bk_addHint_48 : decode prog_2_method_10_code 48 = .ok (.putfield 41, 3) := by decide +kernel
theorem d_Bk_addHint_51 : decode prog_2_method_10_code 51 = .ok (.aload_n 0, 1) := by decide +kernel
theorem d_Bk_addHint_52 : decode prog_2_method_10_code 52 = .ok (.getfield 38, 3) := by decide +kernel
theorem d_Bk_addHint_55 : decode prog_2_method_10_code 55 = .ok (.iconst 1, 1) := by decide +kernel
theorem d_Bk_addHint_56 : decode prog_2_method_10_code 56 = .ok (.isub, 1) := by decide +kernel
theorem d_Bk_addHint_57 : decode prog_2_method_10_code 57 = .ok (.ireturn, 1) := by decide +kernel
abbrev S_Bk_addHint : Type := Nat × Nat × Int32 × Int32 × AM
noncomputable def T_Bk_addHint_0 (v0R : Nat) (v1I : Int32) (v2I : Int32) (σ : AM) : S_Bk_addHint ⊕ Option (Int32 × AM) :=
  gdT (okO σ v0R 4) <| if (aI σ v0R 8) < (8 : Int32) then (gdT (okO σ (aR σ v0R 2) 101) <| gdT (inB (aI σ v0R 8) (aN σ (aR σ v0R 2))) <| letT (sI σ (aR σ v0R 2) (aI σ v0R 8).toNatClampNeg v1I) fun σ4 => gdT (okO σ4 (aR σ4 v0R 3) 101) <| gdT (inB (aI σ4 v0R 8) (aN σ4 (aR σ4 v0R 3))) <| letT (sI σ4 (aR σ4 v0R 3) (aI σ4 v0R 8).toNatClampNeg v2I) fun σ8 => letT (sI σ8 v0R 8 ((aI σ8 v0R 8) + (1 : Int32))) fun σ10 => letT (sI σ10 v0R 10 ((aI σ10 v0R 10) + (1 : Int32))) fun σ12 => .inr (some (((aI σ12 v0R 8) - (1 : Int32)), σ12))) else (.inr (some (((-1) : Int32), σ)))
noncomputable def F_Bk_addHint : S_Bk_addHint → S_Bk_addHint ⊕ Option (Int32 × AM) := fun s => match s.1 with
  | _ => T_Bk_addHint_0 (s.2.1) (s.2.2.1) (s.2.2.2.1) (s.2.2.2.2)
noncomputable def L_Bk_addHint_0 (v0R : Nat) (v1I : Int32) (v2I : Int32) (σ : AM) : Option (Int32 × AM) := lp F_Bk_addHint (0, v0R, v1I, v2I, σ)
set_option maxRecDepth 20000 in
theorem E_Bk_addHint_0 (v0R : Nat) (v1I : Int32) (v2I : Int32) (σ : AM) : L_Bk_addHint_0 v0R v1I v2I σ = (gd (okO σ v0R 4) <| if (aI σ v0R 8) < (8 : Int32) then (gd (okO σ (aR σ v0R 2) 101) <| gd (inB (aI σ v0R 8) (aN σ (aR σ v0R 2))) <| letT (sI σ (aR σ v0R 2) (aI σ v0R 8).toNatClampNeg v1I) fun σ4 => gd (okO σ4 (aR σ4 v0R 3) 101) <| gd (inB (aI σ4 v0R 8) (aN σ4 (aR σ4 v0R 3))) <| letT (sI σ4 (aR σ4 v0R 3) (aI σ4 v0R 8).toNatClampNeg v2I) fun σ8 => letT (sI σ8 v0R 8 ((aI σ8 v0R 8) + (1 : Int32))) fun σ10 => letT (sI σ10 v0R 10 ((aI σ10 v0R 10) + (1 : Int32))) fun σ12 => (some (((aI σ12 v0R 8) - (1 : Int32)), σ12))) else ((some (((-1) : Int32), σ)))) := by
  unfold L_Bk_addHint_0
  rw [lp_eq]
  show lpK (lp F_Bk_addHint) (T_Bk_addHint_0 v0R v1I v2I σ) = _
  unfold T_Bk_addHint_0
  simp only [lpK_ite, lq_inl, lq_inr, lpK_bnd, lpK_gd, lq_let]
  try rfl
noncomputable def M_Bk_addHint (v0R : Nat) (v1I : Int32) (v2I : Int32) (σ : AM) : Option (Int32 × AM) := mw σ (L_Bk_addHint_0 v0R v1I v2I σ)
def I_Bk_addHint (G : GX) (p : Program) (l : Launch) (e : Env) (s : State) (m : MethodId) (args : Array Value) (below : List Frame) (meth : Method) (c : Code) (z0 u0 n : Nat) : Prop :=
  (∀ (v0R : Nat) (v1I : Int32) (v2I : Int32) (σ : AM), VX (QM eI G args s below z0 u0) G p l e s m args below meth c 0 z0 u0 3 (lpn F_Bk_addHint n (0, v0R, v1I, v2I, σ)) 0 [(0, .ref v0R), (1, .int v1I), (2, .int v2I)] [] σ)
set_option maxRecDepth 20000 in
theorem s_Bk_addHint_0 {G : GX} {p : Program} {l : Launch} {e : Env} {s : State} {m : MethodId} {args : Array Value} {below : List Frame} {meth : Method} {c : Code} {z0 u0 n : Nat} (C : Cx G p s m args meth c prog_2_method_10_code 3 "BellPlate$Book" ((some FieldType.int))) (IH : I_Bk_addHint G p l e s m args below meth c z0 u0 n) (v0R : Nat) (v1I : Int32) (v2I : Int32) (σ : AM) : VX (QM eI G args s below z0 u0) G p l e s m args below meth c 0 z0 u0 3 (lpK (lpn F_Bk_addHint n) (T_Bk_addHint_0 v0R v1I v2I σ)) 0 [(0, .ref v0R), (1, .int v1I), (2, .int v2I)] [] σ := by
  unfold T_Bk_addHint_0
  refine x_aload_n C d_Bk_addHint_0 0 rfl ?_
  refine x_gd (fun h1 => ?_)
  refine x_getI (k := 8) C (okO_iff.mp h1) rfl j3_ok (by decide) rfl w306 d_Bk_addHint_1 ?_
  refine x_bipush (v := (8 : Int32)) C d_Bk_addHint_4 (by decide) ?_
  refine x_icmp_lt (tgt := 11) C d_Bk_addHint_6 (by decide) (fun _ => ?_) (fun _ => ?_)
  · refine x_aload_n C d_Bk_addHint_11 0 rfl ?_
    refine x_gd (fun h2 => ?_)
    refine x_getR (k := 2) (kv := 101) C (okO_iff.mp h1) rfl j3_ok (by decide) rfl (okO_iff.mp h2) (by decide) w300 d_Bk_addHint_12 ?_
    refine x_aload_n C d_Bk_addHint_15 0 rfl ?_
    refine x_getI (k := 8) C (okO_iff.mp h1) rfl j3_ok (by decide) rfl w306 d_Bk_addHint_16 ?_
    refine x_iload_n C d_Bk_addHint_19 1 rfl ?_
    refine x_gd (fun h3 => ?_)
    refine x_astI C (okO_iff.mp h2) (inB_iff.mp h3) d_Bk_addHint_20 ?_
    refine x_letS (fun σ4 e5 => ?_)
    refine x_aload_n C d_Bk_addHint_21 0 rfl ?_
    refine x_gd (fun h6 => ?_)
    refine x_getR (k := 3) (kv := 101) C (by first | exact (okO_iff.mp h1) | (rw [e5]; exact (okO_iff.mp h1))) rfl j3_ok (by decide) rfl (okO_iff.mp h6) (by decide) w301 d_Bk_addHint_22 ?_
    refine x_aload_n C d_Bk_addHint_25 0 rfl ?_
    refine x_getI (k := 8) C (by first | exact (okO_iff.mp h1) | (rw [e5]; exact (okO_iff.mp h1))) rfl j3_ok (by decide) rfl w306 d_Bk_addHint_26 ?_
    refine x_iload_n C d_Bk_addHint_29 2 rfl ?_
    refine x_gd (fun h7 => ?_)
    refine x_astI C (okO_iff.mp h6) (inB_iff.mp h7) d_Bk_addHint_30 ?_
    refine x_letS (fun σ8 e9 => ?_)
    refine x_aload_n C d_Bk_addHint_31 0 rfl ?_
    refine x_dup C d_Bk_addHint_32 rfl ?_
    refine x_getI (k := 8) C (by first | exact (okO_iff.mp h1) | (rw [e9, e5]; exact (okO_iff.mp h1))) rfl j3_ok (by decide) rfl w306 d_Bk_addHint_33 ?_
    refine x_iconst (v := (1 : Int32)) C d_Bk_addHint_36 (by decide) ?_
    refine x_iadd C d_Bk_addHint_37 ?_
    refine x_putI (k := 8) C (by first | exact (okO_iff.mp h1) | (rw [e9, e5]; exact (okO_iff.mp h1))) rfl j3_ok y3_ok n3_ok (by decide) rfl rfl rfl rfl w306 d_Bk_addHint_38 ?_
    refine x_letS (fun σ10 e11 => ?_)
    refine x_aload_n C d_Bk_addHint_41 0 rfl ?_
    refine x_dup C d_Bk_addHint_42 rfl ?_
    refine x_getI (k := 10) C (by first | exact (okO_iff.mp h1) | (rw [e11, e9, e5]; exact (okO_iff.mp h1))) rfl j3_ok (by decide) rfl w308 d_Bk_addHint_43 ?_
    refine x_iconst (v := (1 : Int32)) C d_Bk_addHint_46 (by decide) ?_
    refine x_iadd C d_Bk_addHint_47 ?_
    refine x_putI (k := 10) C (by first | exact (okO_iff.mp h1) | (rw [e11, e9, e5]; exact (okO_iff.mp h1))) rfl j3_ok y3_ok n3_ok (by decide) rfl rfl rfl rfl w308 d_Bk_addHint_48 ?_
    refine x_letS (fun σ12 e13 => ?_)
    refine x_aload_n C d_Bk_addHint_51 0 rfl ?_
    refine x_getI (k := 8) C (by first | exact (okO_iff.mp h1) | (rw [e13, e11, e9, e5]; exact (okO_iff.mp h1))) rfl j3_ok (by decide) rfl w306 d_Bk_addHint_52 ?_
    refine x_iconst (v := (1 : Int32)) C d_Bk_addHint_55 (by decide) ?_
    refine x_isub C d_Bk_addHint_56 ?_
    exact x_iret C d_Bk_addHint_57
  · refine x_iconst (v := ((-1) : Int32)) C d_Bk_addHint_9 (by decide) ?_
    exact x_iret C d_Bk_addHint_10
theorem i_Bk_addHint {G : GX} {p : Program} {l : Launch} {e : Env} {s : State} {m : MethodId} {args : Array Value} {below : List Frame} {meth : Method} {c : Code} {z0 u0 : Nat} (C : Cx G p s m args meth c prog_2_method_10_code 3 "BellPlate$Book" ((some FieldType.int))) (n : Nat) : I_Bk_addHint G p l e s m args below meth c z0 u0 n := by
  induction n with
  | zero => exact fun _ _ _ _ => x_none
  | succ n IH => exact fun v0R v1I v2I σ => s_Bk_addHint_0 C IH v0R v1I v2I σ
theorem c_Bk_addHint (G : GX) (l : Launch) (v0R : Nat) (v1I : Int32) (v2I : Int32) (σ : AM) : CT eI G l 0 y_Bk_addHint prog_2_method_10_code 3 ((some FieldType.int)) [.ref v0R, .int v1I, .int v2I] σ (M_Bk_addHint v0R v1I v2I σ) := by
  refine ct_of (by decide +kernel) (Nat.le_of_ble_eq_true rfl) (fun p e s m args below meth c C hin => ?_)
  refine x_lve (lv' := [(0, .ref v0R), (1, .int v1I), (2, .int v2I)]) rfl ?_
  intro r σ' h
  obtain ⟨n, hn⟩ := (lp_iff _ _ _).mp h
  exact (i_Bk_addHint C n) v0R v1I v2I σ r σ' hn
/-! BellPlate$Book.layMark(I)Z -/
abbrev y_Bk_layMark : MethodName := ⟨"BellPlate$Book", "layMark", "(I)Z"⟩
theorem k_Bk_layMark : y_Bk_layMark.cls ≠ "java/lang/invoke/MethodHandle" ∧ y_Bk_layMark.cls ≠ "java/lang/invoke/VarHandle" ∧ (parseMethodDescriptor y_Bk_layMark.desc).map (fun d => d.parameters.length) = some 1 := by decide +kernel
theorem d_Bk_layMark_0 : decode prog_2_method_11_code 0 = .ok (.aload_n 0, 1) := by decide +kernel
theorem d_Bk_layMark_1 : decode prog_2_method_11_code 1 = .ok (.dup, 1) := by decide +kernel
theorem d_Bk_layMark_2 : decode prog_2_method_11_code 2 = .ok (.getfield 54, 3) := by decide +kernel
theorem d_Bk_layMark_5 : decode prog_2_method_11_code 5 = .ok (.iconst 1, 1) := by decide +kernel
theorem d_Bk_layMark_6 : decode prog_2_method_11_code 6 = .ok (.iadd, 1) := by decide +kernel
theorem d_Bk_layMark_7 : decode prog_2_method_11_code 7 = .ok (.putfield 54, 3) := by decide +kernel
theorem d_Bk_layMark_10 : decode prog_2_method_11_code 10 = .ok (.aload_n 0, 1) := by decide +kernel
theorem d_Bk_layMark_11 : decode prog_2_method_11_code 11 = .ok (.getfield 31, 3) := by decide +kernel
theorem d_Bk_layMark_14 : decode prog_2_method_11_code 14 = .ok (.iload_n 1, 1) := by decide +kernel
theorem d_Bk_layMark_15 : decode prog_2_method_11_code 15 = .ok (.aload_n 0, 1) := by decide +kernel
theorem d_Bk_layMark_16 : decode prog_2_method_11_code 16 = .ok (.getfield 54, 3) := by decide +kernel
theorem d_Bk_layMark_19 : decode prog_2_method_11_code 19 = .ok (.iastore, 1) := by decide +kernel
theorem d_Bk_layMark_20 : decode prog_2_method_11_code 20 = .ok (.aload_n 0, 1) := by decide +kernel
theorem d_Bk_layMark_21 : decode prog_2_method_11_code 21 = .ok (.getfield 25, 3) := by decide +kernel
theorem d_Bk_layMark_24 : decode prog_2_method_11_code 24 = .ok (.iload_n 1, 1) := by decide +kernel
theorem d_Bk_layMark_25 : decode prog_2_method_11_code 25 = .ok (.aload_n 0, 1) := by decide +kernel
theorem d_Bk_layMark_26 : decode prog_2_method_11_code 26 = .ok (.getfield 34, 3) := by decide +kernel
theorem d_Bk_layMark_29 : decode prog_2_method_11_code 29 = .ok (.iastore, 1) := by decide +kernel
theorem d_Bk_layMark_30 : decode prog_2_method_11_code 30 = .ok (.aload_n 0, 1) := by decide +kernel
theorem d_Bk_layMark_31 : decode prog_2_method_11_code 31 = .ok (.getfield 28, 3) := by decide +kernel
theorem d_Bk_layMark_34 : decode prog_2_method_11_code 34 = .ok (.iload_n 1, 1) := by decide +kernel
theorem d_Bk_layMark_35 : decode prog_2_method_11_code 35 = .ok (.aload_n 0, 1) := by decide +kernel
theorem d_Bk_layMark_36 : decode prog_2_method_11_code 36 = .ok (.getfield 38, 3) := by decide +kernel
theorem d_Bk_layMark_39 : decode prog_2_method_11_code 39 = .ok (.iastore, 1) := by decide +kernel
theorem d_Bk_layMark_40 : decode prog_2_method_11_code 40 = .ok (.iconst 1, 1) := by decide +kernel
theorem d_Bk_layMark_41 : decode prog_2_method_11_code 41 = .ok (.ireturn, 1) := by decide +kernel
abbrev S_Bk_layMark : Type := Nat × Nat × Int32 × AM
noncomputable def T_Bk_layMark_0 (v0R : Nat) (v1I : Int32) (σ : AM) : S_Bk_layMark ⊕ Option (Int32 × AM) :=
  gdT (okO σ v0R 4) <| letT (sI σ v0R 9 ((aI σ v0R 9) + (1 : Int32))) fun σ2 => gdT (okO σ2 (aR σ2 v0R 6) 101) <| gdT (inB v1I (aN σ2 (aR σ2 v0R 6))) <| letT (sI σ2 (aR σ2 v0R 6) v1I.toNatClampNeg (aI σ2 v0R 9)) fun σ6 => gdT (okO σ6 (aR σ6 v0R 4) 101) <| gdT (inB v1I (aN σ6 (aR σ6 v0R 4))) <| letT (sI σ6 (aR σ6 v0R 4) v1I.toNatClampNeg (aI σ6 v0R 7)) fun σ10 => gdT (okO σ10 (aR σ10 v0R 5) 101) <| gdT (inB v1I (aN σ10 (aR σ10 v0R 5))) <| letT (sI σ10 (aR σ10 v0R 5) v1I.toNatClampNeg (aI σ10 v0R 8)) fun σ14 => .inr (some ((1 : Int32), σ14))
noncomputable def F_Bk_layMark : S_Bk_layMark → S_Bk_layMark ⊕ Option (Int32 × AM) := fun s => match s.1 with
  | _ => T_Bk_layMark_0 (s.2.1) (s.2.2.1) (s.2.2.2)
noncomputable def L_Bk_layMark_0 (v0R : Nat) (v1I : Int32) (σ : AM) : Option (Int32 × AM) := lp F_Bk_layMark (0, v0R, v1I, σ)
set_option maxRecDepth 20000 in
theorem E_Bk_layMark_0 (v0R : Nat) (v1I : Int32) (σ : AM) : L_Bk_layMark_0 v0R v1I σ = (gd (okO σ v0R 4) <| letT (sI σ v0R 9 ((aI σ v0R 9) + (1 : Int32))) fun σ2 => gd (okO σ2 (aR σ2 v0R 6) 101) <| gd (inB v1I (aN σ2 (aR σ2 v0R 6))) <| letT (sI σ2 (aR σ2 v0R 6) v1I.toNatClampNeg (aI σ2 v0R 9)) fun σ6 => gd (okO σ6 (aR σ6 v0R 4) 101) <| gd (inB v1I (aN σ6 (aR σ6 v0R 4))) <| letT (sI σ6 (aR σ6 v0R 4) v1I.toNatClampNeg (aI σ6 v0R 7)) fun σ10 => gd (okO σ10 (aR σ10 v0R 5) 101) <| gd (inB v1I (aN σ10 (aR σ10 v0R 5))) <| letT (sI σ10 (aR σ10 v0R 5) v1I.toNatClampNeg (aI σ10 v0R 8)) fun σ14 => (some ((1 : Int32), σ14))) := by
  unfold L_Bk_layMark_0
  rw [lp_eq]
  show lpK (lp F_Bk_layMark) (T_Bk_layMark_0 v0R v1I σ) = _
  unfold T_Bk_layMark_0
  simp only [lpK_ite, lq_inl, lq_inr, lpK_bnd, lpK_gd, lq_let]
  try rfl
noncomputable def M_Bk_layMark (v0R : Nat) (v1I : Int32) (σ : AM) : Option (Int32 × AM) := mw σ (L_Bk_layMark_0 v0R v1I σ)
def I_Bk_layMark (G : GX) (p : Program) (l : Launch) (e : Env) (s : State) (m : MethodId) (args : Array Value) (below : List Frame) (meth : Method) (c : Code) (z0 u0 n : Nat) : Prop :=
  (∀ (v0R : Nat) (v1I : Int32) (σ : AM), VX (QM eI G args s below z0 u0) G p l e s m args below meth c 0 z0 u0 2 (lpn F_Bk_layMark n (0, v0R, v1I, σ)) 0 [(0, .ref v0R), (1, .int v1I)] [] σ)
set_option maxRecDepth 20000 in
theorem s_Bk_layMark_0 {G : GX} {p : Program} {l : Launch} {e : Env} {s : State} {m : MethodId} {args : Array Value} {below : List Frame} {meth : Method} {c : Code} {z0 u0 n : Nat} (C : Cx G p s m args meth c prog_2_method_11_code 2 "BellPlate$Book" ((some FieldType.boolean))) (IH : I_Bk_layMark G p l e s m args below meth c z0 u0 n) (v0R : Nat) (v1I : Int32) (σ : AM) : VX (QM eI G args s below z0 u0) G p l e s m args below meth c 0 z0 u0 2 (lpK (lpn F_Bk_layMark n) (T_Bk_layMark_0 v0R v1I σ)) 0 [(0, .ref v0R), (1, .int v1I)] [] σ := by
  unfold T_Bk_layMark_0
  refine x_aload_n C d_Bk_layMark_0 0 rfl ?_
  refine x_dup C d_Bk_layMark_1 rfl ?_
  refine x_gd (fun h1 => ?_)
  refine x_getI (k := 9) C (okO_iff.mp h1) rfl j3_ok (by decide) rfl w307 d_Bk_layMark_2 ?_
  refine x_iconst (v := (1 : Int32)) C d_Bk_layMark_5 (by decide) ?_
  refine x_iadd C d_Bk_layMark_6 ?_
  refine x_putI (k := 9) C (okO_iff.mp h1) rfl j3_ok y3_ok n3_ok (by decide) rfl rfl rfl rfl w307 d_Bk_layMark_7 ?_
  refine x_letS (fun σ2 e3 => ?_)
  refine x_aload_n C d_Bk_layMark_10 0 rfl ?_
  refine x_gd (fun h4 => ?_)
  refine x_getR (k := 6) (kv := 101) C (by first | exact (okO_iff.mp h1) | (rw [e3]; exact (okO_iff.mp h1))) rfl j3_ok (by decide) rfl (okO_iff.mp h4) (by decide) w304 d_Bk_layMark_11 ?_
  refine x_iload_n C d_Bk_layMark_14 1 rfl ?_
  refine x_aload_n C d_Bk_layMark_15 0 rfl ?_
  refine x_getI (k := 9) C (by first | exact (okO_iff.mp h1) | (rw [e3]; exact (okO_iff.mp h1))) rfl j3_ok (by decide) rfl w307 d_Bk_layMark_16 ?_
  refine x_gd (fun h5 => ?_)
  refine x_astI C (okO_iff.mp h4) (inB_iff.mp h5) d_Bk_layMark_19 ?_
  refine x_letS (fun σ6 e7 => ?_)
  refine x_aload_n C d_Bk_layMark_20 0 rfl ?_
  refine x_gd (fun h8 => ?_)
  refine x_getR (k := 4) (kv := 101) C (by first | exact (okO_iff.mp h1) | (rw [e7, e3]; exact (okO_iff.mp h1))) rfl j3_ok (by decide) rfl (okO_iff.mp h8) (by decide) w302 d_Bk_layMark_21 ?_
  refine x_iload_n C d_Bk_layMark_24 1 rfl ?_
  refine x_aload_n C d_Bk_layMark_25 0 rfl ?_
  refine x_getI (k := 7) C (by first | exact (okO_iff.mp h1) | (rw [e7, e3]; exact (okO_iff.mp h1))) rfl j3_ok (by decide) rfl w305 d_Bk_layMark_26 ?_
  refine x_gd (fun h9 => ?_)
  refine x_astI C (okO_iff.mp h8) (inB_iff.mp h9) d_Bk_layMark_29 ?_
  refine x_letS (fun σ10 e11 => ?_)
  refine x_aload_n C d_Bk_layMark_30 0 rfl ?_
  refine x_gd (fun h12 => ?_)
  refine x_getR (k := 5) (kv := 101) C (by first | exact (okO_iff.mp h1) | (rw [e11, e7, e3]; exact (okO_iff.mp h1))) rfl j3_ok (by decide) rfl (okO_iff.mp h12) (by decide) w303 d_Bk_layMark_31 ?_
  refine x_iload_n C d_Bk_layMark_34 1 rfl ?_
  refine x_aload_n C d_Bk_layMark_35 0 rfl ?_
  refine x_getI (k := 8) C (by first | exact (okO_iff.mp h1) | (rw [e11, e7, e3]; exact (okO_iff.mp h1))) rfl j3_ok (by decide) rfl w306 d_Bk_layMark_36 ?_
  refine x_gd (fun h13 => ?_)
  refine x_astI C (okO_iff.mp h12) (inB_iff.mp h13) d_Bk_layMark_39 ?_
  refine x_letS (fun σ14 e15 => ?_)
  refine x_iconst (v := (1 : Int32)) C d_Bk_layMark_40 (by decide) ?_
  exact x_zret C (by decide) d_Bk_layMark_41
theorem i_Bk_layMark {G : GX} {p : Program} {l : Launch} {e : Env} {s : State} {m : MethodId} {args : Array Value} {below : List Frame} {meth : Method} {c : Code} {z0 u0 : Nat} (C : Cx G p s m args meth c prog_2_method_11_code 2 "BellPlate$Book" ((some FieldType.boolean))) (n : Nat) : I_Bk_layMark G p l e s m args below meth c z0 u0 n := by
  induction n with
  | zero => exact fun _ _ _ => x_none
  | succ n IH => exact fun v0R v1I σ => s_Bk_layMark_0 C IH v0R v1I σ
theorem c_Bk_layMark (G : GX) (l : Launch) (v0R : Nat) (v1I : Int32) (σ : AM) : CT eI G l 0 y_Bk_layMark prog_2_method_11_code 2 ((some FieldType.boolean)) [.ref v0R, .int v1I] σ (M_Bk_layMark v0R v1I σ) := by
  refine ct_of (by decide +kernel) (Nat.le_of_ble_eq_true rfl) (fun p e s m args below meth c C hin => ?_)
  refine x_lve (lv' := [(0, .ref v0R), (1, .int v1I)]) rfl ?_
  intro r σ' h
  obtain ⟨n, hn⟩ := (lp_iff _ _ _).mp h
  exact (i_Bk_layMark C n) v0R v1I σ r σ' hn
/-! BellPlate$Book.goBack(I)Z -/
abbrev y_Bk_goBack : MethodName := ⟨"BellPlate$Book", "goBack", "(I)Z"⟩
theorem k_Bk_goBack : y_Bk_goBack.cls ≠ "java/lang/invoke/MethodHandle" ∧ y_Bk_goBack.cls ≠ "java/lang/invoke/VarHandle" ∧ (parseMethodDescriptor y_Bk_goBack.desc).map (fun d => d.parameters.length) = some 1 := by decide +kernel
theorem d_Bk_goBack_0 : decode prog_2_method_12_code 0 = .ok (.aload_n 0, 1) := by decide +kernel
theorem d_Bk_goBack_1 : decode prog_2_method_12_code 1 = .ok (.getfield 31, 3) := by decide +kernel
theorem d_Bk_goBack_4 : decode prog_2_method_12_code 4 = .ok (.iload_n 1, 1) := by decide +kernel
theorem d_Bk_goBack_5 : decode prog_2_method_12_code 5 = .ok (.iaload, 1) := by decide +kernel
theorem d_Bk_goBack_6 : decode prog_2_method_12_code 6 = .ok (.ifCond .ne 5, 3) := by decide +kernel
theorem d_Bk_goBack_9 : decode prog_2_method_12_code 9 = .ok (.iconst 0, 1) := by decide +kernel
theorem d_Bk_goBack_10 : decode prog_2_method_12_code 10 = .ok (.ireturn, 1) := by decide +kernel
theorem d_Bk_goBack_11 : decode prog_2_method_12_code 11 = .ok (.aload_n 0, 1) := by decide +kernel
theorem d_Bk_goBack_12 : decode prog_2_method_12_code 12 = .ok (.aload_n 0, 1) := by decide +kernel
theorem d_Bk_goBack_13 : decode prog_2_method_12_code 13 = .ok (.getfield 25, 3) := by decide +kernel
theorem d_Bk_goBack_16 : decode prog_2_method_12_code 16 = .ok (.iload_n 1, 1) := by decide +kernel
theorem d_Bk_goBack_17 : decode prog_2_method_12_code 17 = .ok (.iaload, 1) := by decide +kernel
theorem d_Bk_goBack_18 : decode prog_2_method_12_code 18 = .ok (.putfield 34, 3) := by decide +kernel
theorem d_Bk_goBack_21 : decode prog_2_method_12_code 21 = .ok (.aload_n 0, 1) := by decide +kernel
theorem d_Bk_goBack_22 : decode prog_2_method_12_code 22 = .ok (.aload_n 0, 1) := by decide +kernel
theorem d_Bk_goBack_23 : decode prog_2_method_12_code 23 = .ok (.getfield 28, 3) := by decide +kernel
theorem d_Bk_goBack_26 : decode prog_2_method_12_code 26 = .ok (.iload_n 1, 1) := by decide +kernel
theorem d_Bk_goBack_27 : decode prog_2_method_12_code 27 = .ok (.iaload, 1) := by decide +kernel
theorem d_Bk_goBack_28 : decode prog_2_method_12_code 28 = .ok (.putfield 38, 3) := by decide +kernel
theorem d_Bk_goBack_31 : decode prog_2_method_12_code 31 = .ok (.iconst 0, 1) := by decide +kernel
theorem d_Bk_goBack_32 : decode prog_2_method_12_code 32 = .ok (.istore_n 2, 1) := by decide +kernel
theorem d_Bk_goBack_33 : decode prog_2_method_12_code 33 = .ok (.iload_n 2, 1) := by decide +kernel
theorem d_Bk_goBack_34 : decode prog_2_method_12_code 34 = .ok (.iconst 4, 1) := by decide +kernel
theorem d_Bk_goBack_35 : decode prog_2_method_12_code 35 = .ok (.if_icmp .ge 31, 3) := by decide +kernel
theorem d_Bk_goBack_38 : decode prog_2_method_12_code 38 = .ok (.aload_n 0, 1) := by decide +kernel
theorem d_Bk_goBack_39 : decode prog_2_method_12_code 39 = .ok (.getfield 31, 3) := by decide +kernel
theorem d_Bk_goBack_42 : decode prog_2_method_12_code 42 = .ok (.iload_n 2, 1) := by decide +kernel
theorem d_Bk_goBack_43 : decode prog_2_method_12_code 43 = .ok (.iaload, 1) := by decide +kernel
theorem d_Bk_goBack_44 : decode prog_2_method_12_code 44 = .ok (.aload_n 0, 1) := by decide +kernel
theorem d_Bk_goBack_45 : decode prog_2_method_12_code 45 = .ok (.getfield 31, 3) := by decide +kernel
theorem d_Bk_goBack_48 : decode prog_2_method_12_code 48 = .ok (.iload_n 1, 1) := by decide +kernel
theorem d_Bk_goBack_49 : decode prog_2_method_12_code 49 = .ok (.iaload, 1) := by decide +kernel
theorem d_Bk_goBack_50 : decode prog_2_method_12_code 50 = .ok (.if_icmp .le 10, 3) := by decide +kernel
theorem d_Bk_goBack_53 : decode prog_2_method_12_code 53 = .ok (.aload_n 0, 1) := by decide +kernel
theorem d_Bk_goBack_54 : decode prog_2_method_12_code 54 = .ok (.getfield 31, 3) := by decide +kernel
theorem d_Bk_goBack_57 : decode prog_2_method_12_code 57 = .ok (.iload_n 2, 1) := by decide +kernel
theorem d_Bk_goBack_58 : decode prog_2_method_12_code 58 = .ok (.iconst 0, 1) := by decide +kernel
theorem d_Bk_goBack_59 : decode prog_2_method_12_code 59 = .ok (.iastore, 1) := by decide +kernel
theorem d_Bk_goBack_60 : decode prog_2_method_12_code 60 = .ok (.iinc 2 1, 3) := by decide +kernel
theorem d_Bk_goBack_63 : decode prog_2_method_12_code 63 = .ok (.goto (-30), 3) := by decide +kernel
theorem d_Bk_goBack_66 : decode prog_2_method_12_code 66 = .ok (.aload_n 0, 1) := by decide +kernel
theorem d_Bk_goBack_67 : decode prog_2_method_12_code 67 = .ok (.dup, 1) := by decide +kernel
theorem d_Bk_goBack_68 : decode prog_2_method_12_code 68 = .ok (.getfield 41, 3) := by decide +kernel
theorem d_Bk_goBack_71 : decode prog_2_method_12_code 71 = .ok (.iconst 1, 1) := by decide +kernel
theorem d_Bk_goBack_72 : decode prog_2_method_12_code 72 = .ok (.iadd, 1) := by decide +kernel
theorem d_Bk_goBack_73 : decode prog_2_method_12_code 73 = .ok (.putfield 41, 3) := by decide +kernel
theorem d_Bk_goBack_76 : decode prog_2_method_12_code 76 = .ok (.iconst 1, 1) := by decide +kernel
theorem d_Bk_goBack_77 : decode prog_2_method_12_code 77 = .ok (.ireturn, 1) := by decide +kernel
abbrev S_Bk_goBack : Type := Nat × Nat × Int32 × Int32 × AM
noncomputable def T_Bk_goBack_0 (v0R : Nat) (v1I : Int32) (σ : AM) : S_Bk_goBack ⊕ Option (Int32 × AM) :=
  gdT (okO σ v0R 4) <| gdT (okO σ (aR σ v0R 6) 101) <| gdT (inB v1I (aN σ (aR σ v0R 6))) <| if (aI σ (aR σ v0R 6) v1I.toNatClampNeg) = 0 then (.inr (some ((0 : Int32), σ))) else (gdT (okO σ (aR σ v0R 4) 101) <| gdT (inB v1I (aN σ (aR σ v0R 4))) <| letT (sI σ v0R 7 (aI σ (aR σ v0R 4) v1I.toNatClampNeg)) fun σ6 => gdT (okO σ6 (aR σ6 v0R 5) 101) <| gdT (inB v1I (aN σ6 (aR σ6 v0R 5))) <| letT (sI σ6 v0R 8 (aI σ6 (aR σ6 v0R 5) v1I.toNatClampNeg)) fun σ10 => .inl (1, v0R, v1I, (0 : Int32), σ10))
noncomputable def T_Bk_goBack_1 (v0R : Nat) (v1I : Int32) (v2I : Int32) (σ : AM) : S_Bk_goBack ⊕ Option (Int32 × AM) :=
  if v2I < (4 : Int32) then (gdT (okO σ v0R 4) <| gdT (okO σ (aR σ v0R 6) 101) <| gdT (inB v2I (aN σ (aR σ v0R 6))) <| gdT (inB v1I (aN σ (aR σ v0R 6))) <| if (aI σ (aR σ v0R 6) v1I.toNatClampNeg) < (aI σ (aR σ v0R 6) v2I.toNatClampNeg) then (letT (sI σ (aR σ v0R 6) v2I.toNatClampNeg (0 : Int32)) fun σ5 => .inl (2, v0R, v1I, v2I, σ5)) else (.inl (2, v0R, v1I, v2I, σ))) else (gdT (okO σ v0R 4) <| letT (sI σ v0R 10 ((aI σ v0R 10) + (1 : Int32))) fun σ8 => .inr (some ((1 : Int32), σ8)))
noncomputable def T_Bk_goBack_2 (v0R : Nat) (v1I : Int32) (v2I : Int32) (σ : AM) : S_Bk_goBack ⊕ Option (Int32 × AM) :=
  .inl (1, v0R, v1I, v2I + (1 : Int32), σ)
noncomputable def F_Bk_goBack : S_Bk_goBack → S_Bk_goBack ⊕ Option (Int32 × AM) := fun s => match s.1 with
  | 0 => T_Bk_goBack_0 (s.2.1) (s.2.2.1) (s.2.2.2.2)
  | 1 => T_Bk_goBack_1 (s.2.1) (s.2.2.1) (s.2.2.2.1) (s.2.2.2.2)
  | _ => T_Bk_goBack_2 (s.2.1) (s.2.2.1) (s.2.2.2.1) (s.2.2.2.2)
noncomputable def L_Bk_goBack_0 (v0R : Nat) (v1I : Int32) (σ : AM) : Option (Int32 × AM) := lp F_Bk_goBack (0, v0R, v1I, 0, σ)
noncomputable def L_Bk_goBack_1 (v0R : Nat) (v1I : Int32) (v2I : Int32) (σ : AM) : Option (Int32 × AM) := lp F_Bk_goBack (1, v0R, v1I, v2I, σ)
noncomputable def L_Bk_goBack_2 (v0R : Nat) (v1I : Int32) (v2I : Int32) (σ : AM) : Option (Int32 × AM) := lp F_Bk_goBack (2, v0R, v1I, v2I, σ)
set_option maxRecDepth 20000 in
theorem E_Bk_goBack_0 (v0R : Nat) (v1I : Int32) (σ : AM) : L_Bk_goBack_0 v0R v1I σ = (gd (okO σ v0R 4) <| gd (okO σ (aR σ v0R 6) 101) <| gd (inB v1I (aN σ (aR σ v0R 6))) <| if (aI σ (aR σ v0R 6) v1I.toNatClampNeg) = 0 then ((some ((0 : Int32), σ))) else (gd (okO σ (aR σ v0R 4) 101) <| gd (inB v1I (aN σ (aR σ v0R 4))) <| letT (sI σ v0R 7 (aI σ (aR σ v0R 4) v1I.toNatClampNeg)) fun σ6 => gd (okO σ6 (aR σ6 v0R 5) 101) <| gd (inB v1I (aN σ6 (aR σ6 v0R 5))) <| letT (sI σ6 v0R 8 (aI σ6 (aR σ6 v0R 5) v1I.toNatClampNeg)) fun σ10 => L_Bk_goBack_1 v0R v1I ((0 : Int32)) σ10)) := by
  unfold L_Bk_goBack_0
  rw [lp_eq]
  show lpK (lp F_Bk_goBack) (T_Bk_goBack_0 v0R v1I σ) = _
  unfold T_Bk_goBack_0
  simp only [lpK_ite, lq_inl, lq_inr, lpK_bnd, lpK_gd, lq_let]
  try rfl
set_option maxRecDepth 20000 in
theorem E_Bk_goBack_1 (v0R : Nat) (v1I : Int32) (v2I : Int32) (σ : AM) : L_Bk_goBack_1 v0R v1I v2I σ = (if v2I < (4 : Int32) then (gd (okO σ v0R 4) <| gd (okO σ (aR σ v0R 6) 101) <| gd (inB v2I (aN σ (aR σ v0R 6))) <| gd (inB v1I (aN σ (aR σ v0R 6))) <| if (aI σ (aR σ v0R 6) v1I.toNatClampNeg) < (aI σ (aR σ v0R 6) v2I.toNatClampNeg) then (letT (sI σ (aR σ v0R 6) v2I.toNatClampNeg (0 : Int32)) fun σ5 => L_Bk_goBack_2 v0R v1I v2I σ5) else (L_Bk_goBack_2 v0R v1I v2I σ)) else (gd (okO σ v0R 4) <| letT (sI σ v0R 10 ((aI σ v0R 10) + (1 : Int32))) fun σ8 => (some ((1 : Int32), σ8)))) := by
  unfold L_Bk_goBack_1
  rw [lp_eq]
  show lpK (lp F_Bk_goBack) (T_Bk_goBack_1 v0R v1I v2I σ) = _
  unfold T_Bk_goBack_1
  simp only [lpK_ite, lq_inl, lq_inr, lpK_bnd, lpK_gd, lq_let]
  try rfl
set_option maxRecDepth 20000 in
theorem E_Bk_goBack_2 (v0R : Nat) (v1I : Int32) (v2I : Int32) (σ : AM) : L_Bk_goBack_2 v0R v1I v2I σ = (L_Bk_goBack_1 v0R v1I (v2I + (1 : Int32)) σ) := by
  unfold L_Bk_goBack_2
  rw [lp_eq]
  show lpK (lp F_Bk_goBack) (T_Bk_goBack_2 v0R v1I v2I σ) = _
  unfold T_Bk_goBack_2
  simp only [lpK_ite, lq_inl, lq_inr, lpK_bnd, lpK_gd, lq_let]
  try rfl
noncomputable def M_Bk_goBack (v0R : Nat) (v1I : Int32) (σ : AM) : Option (Int32 × AM) := mw σ (L_Bk_goBack_0 v0R v1I σ)
def I_Bk_goBack (G : GX) (p : Program) (l : Launch) (e : Env) (s : State) (m : MethodId) (args : Array Value) (below : List Frame) (meth : Method) (c : Code) (z0 u0 n : Nat) : Prop :=
  (∀ (v0R : Nat) (v1I : Int32) (σ : AM), VX (QM eI G args s below z0 u0) G p l e s m args below meth c 0 z0 u0 3 (lpn F_Bk_goBack n (0, v0R, v1I, 0, σ)) 0 [(0, .ref v0R), (1, .int v1I)] [] σ) ∧
  (∀ (v0R : Nat) (v1I : Int32) (v2I : Int32) (σ : AM), VX (QM eI G args s below z0 u0) G p l e s m args below meth c 0 z0 u0 3 (lpn F_Bk_goBack n (1, v0R, v1I, v2I, σ)) 33 [(0, .ref v0R), (1, .int v1I), (2, .int v2I)] [] σ) ∧
  (∀ (v0R : Nat) (v1I : Int32) (v2I : Int32) (σ : AM), VX (QM eI G args s below z0 u0) G p l e s m args below meth c 0 z0 u0 3 (lpn F_Bk_goBack n (2, v0R, v1I, v2I, σ)) 60 [(0, .ref v0R), (1, .int v1I), (2, .int v2I)] [] σ)
set_option maxRecDepth 20000 in
theorem s_Bk_goBack_0 {G : GX} {p : Program} {l : Launch} {e : Env} {s : State} {m : MethodId} {args : Array Value} {below : List Frame} {meth : Method} {c : Code} {z0 u0 n : Nat} (C : Cx G p s m args meth c prog_2_method_12_code 3 "BellPlate$Book" ((some FieldType.boolean))) (IH : I_Bk_goBack G p l e s m args below meth c z0 u0 n) (v0R : Nat) (v1I : Int32) (σ : AM) : VX (QM eI G args s below z0 u0) G p l e s m args below meth c 0 z0 u0 3 (lpK (lpn F_Bk_goBack n) (T_Bk_goBack_0 v0R v1I σ)) 0 [(0, .ref v0R), (1, .int v1I)] [] σ := by
  unfold T_Bk_goBack_0
  refine x_aload_n C d_Bk_goBack_0 0 rfl ?_
  refine x_gd (fun h1 => ?_)
  refine x_gd (fun h2 => ?_)
  refine x_getR (k := 6) (kv := 101) C (okO_iff.mp h1) rfl j3_ok (by decide) rfl (okO_iff.mp h2) (by decide) w304 d_Bk_goBack_1 ?_
  refine x_iload_n C d_Bk_goBack_4 1 rfl ?_
  refine x_gd (fun h3 => ?_)
  refine x_aldI C (okO_iff.mp h2) (inB_iff.mp h3) d_Bk_goBack_5 ?_
  refine x_if_ne (tgt := 11) C d_Bk_goBack_6 (by decide) (fun _ => ?_) (fun _ => ?_)
  · refine x_iconst (v := (0 : Int32)) C d_Bk_goBack_9 (by decide) ?_
    exact x_zret C (by decide) d_Bk_goBack_10
  · refine x_aload_n C d_Bk_goBack_11 0 rfl ?_
    refine x_aload_n C d_Bk_goBack_12 0 rfl ?_
    refine x_gd (fun h4 => ?_)
    refine x_getR (k := 4) (kv := 101) C (okO_iff.mp h1) rfl j3_ok (by decide) rfl (okO_iff.mp h4) (by decide) w302 d_Bk_goBack_13 ?_
    refine x_iload_n C d_Bk_goBack_16 1 rfl ?_
    refine x_gd (fun h5 => ?_)
    refine x_aldI C (okO_iff.mp h4) (inB_iff.mp h5) d_Bk_goBack_17 ?_
    refine x_putI (k := 7) C (okO_iff.mp h1) rfl j3_ok y3_ok n3_ok (by decide) rfl rfl rfl rfl w305 d_Bk_goBack_18 ?_
    refine x_letS (fun σ6 e7 => ?_)
    refine x_aload_n C d_Bk_goBack_21 0 rfl ?_
    refine x_aload_n C d_Bk_goBack_22 0 rfl ?_
    refine x_gd (fun h8 => ?_)
    refine x_getR (k := 5) (kv := 101) C (by first | exact (okO_iff.mp h1) | (rw [e7]; exact (okO_iff.mp h1))) rfl j3_ok (by decide) rfl (okO_iff.mp h8) (by decide) w303 d_Bk_goBack_23 ?_
    refine x_iload_n C d_Bk_goBack_26 1 rfl ?_
    refine x_gd (fun h9 => ?_)
    refine x_aldI C (okO_iff.mp h8) (inB_iff.mp h9) d_Bk_goBack_27 ?_
    refine x_putI (k := 8) C (by first | exact (okO_iff.mp h1) | (rw [e7]; exact (okO_iff.mp h1))) rfl j3_ok y3_ok n3_ok (by decide) rfl rfl rfl rfl w306 d_Bk_goBack_28 ?_
    refine x_letS (fun σ10 e11 => ?_)
    refine x_iconst (v := (0 : Int32)) C d_Bk_goBack_31 (by decide) ?_
    refine x_istore_n (lv' := [(2, .int (0 : Int32)), (0, .ref v0R), (1, .int v1I)]) C d_Bk_goBack_32 (by decide) rfl rfl ?_
    refine x_lv [1, 2, 0] rfl ?_
    exact IH.2.1 v0R v1I ((0 : Int32)) (σ10)
set_option maxRecDepth 20000 in
theorem s_Bk_goBack_1 {G : GX} {p : Program} {l : Launch} {e : Env} {s : State} {m : MethodId} {args : Array Value} {below : List Frame} {meth : Method} {c : Code} {z0 u0 n : Nat} (C : Cx G p s m args meth c prog_2_method_12_code 3 "BellPlate$Book" ((some FieldType.boolean))) (IH : I_Bk_goBack G p l e s m args below meth c z0 u0 n) (v0R : Nat) (v1I : Int32) (v2I : Int32) (σ : AM) : VX (QM eI G args s below z0 u0) G p l e s m args below meth c 0 z0 u0 3 (lpK (lpn F_Bk_goBack n) (T_Bk_goBack_1 v0R v1I v2I σ)) 33 [(0, .ref v0R), (1, .int v1I), (2, .int v2I)] [] σ := by
  unfold T_Bk_goBack_1
  refine x_iload_n C d_Bk_goBack_33 2 rfl ?_
  refine x_iconst (v := (4 : Int32)) C d_Bk_goBack_34 (by decide) ?_
  refine x_icmp_ge (tgt := 66) C d_Bk_goBack_35 (by decide) (fun _ => ?_) (fun _ => ?_)
  · refine x_aload_n C d_Bk_goBack_38 0 rfl ?_
    refine x_gd (fun h1 => ?_)
    refine x_gd (fun h2 => ?_)
    refine x_getR (k := 6) (kv := 101) C (okO_iff.mp h1) rfl j3_ok (by decide) rfl (okO_iff.mp h2) (by decide) w304 d_Bk_goBack_39 ?_
    refine x_iload_n C d_Bk_goBack_42 2 rfl ?_
    refine x_gd (fun h3 => ?_)
    refine x_aldI C (okO_iff.mp h2) (inB_iff.mp h3) d_Bk_goBack_43 ?_
    refine x_aload_n C d_Bk_goBack_44 0 rfl ?_
    refine x_getR (k := 6) (kv := 101) C (okO_iff.mp h1) rfl j3_ok (by decide) rfl (okO_iff.mp h2) (by decide) w304 d_Bk_goBack_45 ?_
    refine x_iload_n C d_Bk_goBack_48 1 rfl ?_
    refine x_gd (fun h4 => ?_)
    refine x_aldI C (okO_iff.mp h2) (inB_iff.mp h4) d_Bk_goBack_49 ?_
    refine x_icmp_le (tgt := 60) C d_Bk_goBack_50 (by decide) (fun _ => ?_) (fun _ => ?_)
    · refine x_aload_n C d_Bk_goBack_53 0 rfl ?_
      refine x_getR (k := 6) (kv := 101) C (okO_iff.mp h1) rfl j3_ok (by decide) rfl (okO_iff.mp h2) (by decide) w304 d_Bk_goBack_54 ?_
      refine x_iload_n C d_Bk_goBack_57 2 rfl ?_
      refine x_iconst (v := (0 : Int32)) C d_Bk_goBack_58 (by decide) ?_
      refine x_astI C (okO_iff.mp h2) (inB_iff.mp h3) d_Bk_goBack_59 ?_
      refine x_letS (fun σ5 e6 => ?_)
      exact IH.2.2 v0R v1I v2I (σ5)
    · exact IH.2.2 v0R v1I v2I (σ)
  · refine x_aload_n C d_Bk_goBack_66 0 rfl ?_
    refine x_dup C d_Bk_goBack_67 rfl ?_
    refine x_gd (fun h7 => ?_)
    refine x_getI (k := 10) C (okO_iff.mp h7) rfl j3_ok (by decide) rfl w308 d_Bk_goBack_68 ?_
    refine x_iconst (v := (1 : Int32)) C d_Bk_goBack_71 (by decide) ?_
    refine x_iadd C d_Bk_goBack_72 ?_
    refine x_putI (k := 10) C (okO_iff.mp h7) rfl j3_ok y3_ok n3_ok (by decide) rfl rfl rfl rfl w308 d_Bk_goBack_73 ?_
    refine x_letS (fun σ8 e9 => ?_)
    refine x_iconst (v := (1 : Int32)) C d_Bk_goBack_76 (by decide) ?_
    exact x_zret C (by decide) d_Bk_goBack_77
set_option maxRecDepth 20000 in
theorem s_Bk_goBack_2 {G : GX} {p : Program} {l : Launch} {e : Env} {s : State} {m : MethodId} {args : Array Value} {below : List Frame} {meth : Method} {c : Code} {z0 u0 n : Nat} (C : Cx G p s m args meth c prog_2_method_12_code 3 "BellPlate$Book" ((some FieldType.boolean))) (IH : I_Bk_goBack G p l e s m args below meth c z0 u0 n) (v0R : Nat) (v1I : Int32) (v2I : Int32) (σ : AM) : VX (QM eI G args s below z0 u0) G p l e s m args below meth c 0 z0 u0 3 (lpK (lpn F_Bk_goBack n) (T_Bk_goBack_2 v0R v1I v2I σ)) 60 [(0, .ref v0R), (1, .int v1I), (2, .int v2I)] [] σ := by
  unfold T_Bk_goBack_2
  refine x_iinc (v := v2I + (1 : Int32)) (lv' := [(2, .int (v2I + (1 : Int32))), (0, .ref v0R), (1, .int v1I)]) C d_Bk_goBack_60 2 rfl rfl (by decide) rfl ?_
  refine x_goto (tgt := 33) C d_Bk_goBack_63 (by decide) ?_
  refine x_lv [1, 2, 0] rfl ?_
  exact IH.2.1 v0R v1I (v2I + (1 : Int32)) (σ)
theorem i_Bk_goBack {G : GX} {p : Program} {l : Launch} {e : Env} {s : State} {m : MethodId} {args : Array Value} {below : List Frame} {meth : Method} {c : Code} {z0 u0 : Nat} (C : Cx G p s m args meth c prog_2_method_12_code 3 "BellPlate$Book" ((some FieldType.boolean))) (n : Nat) : I_Bk_goBack G p l e s m args below meth c z0 u0 n := by
  induction n with
  | zero => exact ⟨fun _ _ _ => x_none, fun _ _ _ _ => x_none, fun _ _ _ _ => x_none⟩
  | succ n IH => exact ⟨fun v0R v1I σ => s_Bk_goBack_0 C IH v0R v1I σ, fun v0R v1I v2I σ => s_Bk_goBack_1 C IH v0R v1I v2I σ, fun v0R v1I v2I σ => s_Bk_goBack_2 C IH v0R v1I v2I σ⟩
theorem c_Bk_goBack (G : GX) (l : Launch) (v0R : Nat) (v1I : Int32) (σ : AM) : CT eI G l 0 y_Bk_goBack prog_2_method_12_code 3 ((some FieldType.boolean)) [.ref v0R, .int v1I] σ (M_Bk_goBack v0R v1I σ) := by
  refine ct_of (by decide +kernel) (Nat.le_of_ble_eq_true rfl) (fun p e s m args below meth c C hin => ?_)
  refine x_lve (lv' := [(0, .ref v0R), (1, .int v1I)]) rfl ?_
  intro r σ' h
  obtain ⟨n, hn⟩ := (lp_iff _ _ _).mp h
  exact (i_Bk_goBack C n).1 v0R v1I σ r σ' hn
/-! BellPlate$Book.ringing()I -/
abbrev y_Bk_ringing : MethodName := ⟨"BellPlate$Book", "ringing", "()I"⟩
theorem k_Bk_ringing : y_Bk_ringing.cls ≠ "java/lang/invoke/MethodHandle" ∧ y_Bk_ringing.cls ≠ "java/lang/invoke/VarHandle" ∧ (parseMethodDescriptor y_Bk_ringing.desc).map (fun d => d.parameters.length) = some 0 := by decide +kernel
theorem d_Bk_ringing_0 : decode prog_2_method_13_code 0 = .ok (.iconst 0, 1) := by decide +kernel
theorem d_Bk_ringing_1 : decode prog_2_method_13_code 1 = .ok (.istore_n 1, 1) := by decide +kernel
theorem d_Bk_ringing_2 : decode prog_2_method_13_code 2 = .ok (.iconst 0, 1) := by decide +kernel
theorem d_Bk_ringing_3 : decode prog_2_method_13_code 3 = .ok (.istore_n 2, 1) := by decide +kernel
theorem d_Bk_ringing_4 : decode prog_2_method_13_code 4 = .ok (.iload_n 2, 1) := by decide +kernel
theorem d_Bk_ringing_5 : decode prog_2_method_13_code 5 = .ok (.aload_n 0, 1) := by decide +kernel
theorem d_Bk_ringing_6 : decode prog_2_method_13_code 6 = .ok (.getfield 34, 3) := by decide +kernel
theorem d_Bk_ringing_9 : decode prog_2_method_13_code 9 = .ok (.if_icmp .ge 21, 3) := by decide +kernel
theorem d_Bk_ringing_12 : decode prog_2_method_13_code 12 = .ok (.aload_n 0, 1) := by decide +kernel
theorem d_Bk_ringing_13 : decode prog_2_method_13_code 13 = .ok (.getfield 15, 3) := by decide +kernel
theorem d_Bk_ringing_16 : decode prog_2_method_13_code 16 = .ok (.iload_n 2, 1) := by decide +kernel
theorem d_Bk_ringing_17 : decode prog_2_method_13_code 17 = .ok (.baload, 1) := by decide +kernel
theorem d_Bk_ringing_18 : decode prog_2_method_13_code 18 = .ok (.ifCond .eq 6, 3) := by decide +kernel
theorem d_Bk_ringing_21 : decode prog_2_method_13_code 21 = .ok (.iinc 1 1, 3) := by decide +kernel
theorem d_Bk_ringing_24 : decode prog_2_method_13_code 24 = .ok (.iinc 2 1, 3) := by decide +kernel
theorem d_Bk_ringing_27 : decode prog_2_method_13_code 27 = .ok (.goto (-23), 3) := by decide +kernel
theorem d_Bk_ringing_30 : decode prog_2_method_13_code 30 = .ok (.iload_n 1, 1) := by decide +kernel
theorem d_Bk_ringing_31 : decode prog_2_method_13_code 31 = .ok (.ireturn, 1) := by decide +kernel
abbrev S_Bk_ringing : Type := Nat × Nat × Int32 × Int32 × AM
noncomputable def T_Bk_ringing_0 (v0R : Nat) (σ : AM) : S_Bk_ringing ⊕ Option (Int32 × AM) :=
  .inl (1, v0R, (0 : Int32), (0 : Int32), σ)
noncomputable def T_Bk_ringing_1 (v0R : Nat) (v1I : Int32) (v2I : Int32) (σ : AM) : S_Bk_ringing ⊕ Option (Int32 × AM) :=
  gdT (okO σ v0R 4) <| if v2I < (aI σ v0R 7) then (gdT (okO σ (aR σ v0R 1) 103) <| gdT (inB v2I (aN σ (aR σ v0R 1))) <| if (aI σ (aR σ v0R 1) v2I.toNatClampNeg) = 0 then (.inl (2, v0R, v1I, v2I, σ)) else (.inl (2, v0R, v1I + (1 : Int32), v2I, σ))) else (.inr (some (v1I, σ)))
noncomputable def T_Bk_ringing_2 (v0R : Nat) (v1I : Int32) (v2I : Int32) (σ : AM) : S_Bk_ringing ⊕ Option (Int32 × AM) :=
  .inl (1, v0R, v1I, v2I + (1 : Int32), σ)
noncomputable def F_Bk_ringing : S_Bk_ringing → S_Bk_ringing ⊕ Option (Int32 × AM) := fun s => match s.1 with
  | 0 => T_Bk_ringing_0 (s.2.1) (s.2.2.2.2)
  | 1 => T_Bk_ringing_1 (s.2.1) (s.2.2.1) (s.2.2.2.1) (s.2.2.2.2)
  | _ => T_Bk_ringing_2 (s.2.1) (s.2.2.1) (s.2.2.2.1) (s.2.2.2.2)
noncomputable def L_Bk_ringing_0 (v0R : Nat) (σ : AM) : Option (Int32 × AM) := lp F_Bk_ringing (0, v0R, 0, 0, σ)
noncomputable def L_Bk_ringing_1 (v0R : Nat) (v1I : Int32) (v2I : Int32) (σ : AM) : Option (Int32 × AM) := lp F_Bk_ringing (1, v0R, v1I, v2I, σ)
noncomputable def L_Bk_ringing_2 (v0R : Nat) (v1I : Int32) (v2I : Int32) (σ : AM) : Option (Int32 × AM) := lp F_Bk_ringing (2, v0R, v1I, v2I, σ)
set_option maxRecDepth 20000 in
theorem E_Bk_ringing_0 (v0R : Nat) (σ : AM) : L_Bk_ringing_0 v0R σ = (L_Bk_ringing_1 v0R ((0 : Int32)) ((0 : Int32)) σ) := by
  unfold L_Bk_ringing_0
  rw [lp_eq]
  show lpK (lp F_Bk_ringing) (T_Bk_ringing_0 v0R σ) = _
  unfold T_Bk_ringing_0
  simp only [lpK_ite, lq_inl, lq_inr, lpK_bnd, lpK_gd, lq_let]
  try rfl
set_option maxRecDepth 20000 in
theorem E_Bk_ringing_1 (v0R : Nat) (v1I : Int32) (v2I : Int32) (σ : AM) : L_Bk_ringing_1 v0R v1I v2I σ = (gd (okO σ v0R 4) <| if v2I < (aI σ v0R 7) then (gd (okO σ (aR σ v0R 1) 103) <| gd (inB v2I (aN σ (aR σ v0R 1))) <| if (aI σ (aR σ v0R 1) v2I.toNatClampNeg) = 0 then (L_Bk_ringing_2 v0R v1I v2I σ) else (L_Bk_ringing_2 v0R (v1I + (1 : Int32)) v2I σ)) else ((some (v1I, σ)))) := by
  unfold L_Bk_ringing_1
  rw [lp_eq]
  show lpK (lp F_Bk_ringing) (T_Bk_ringing_1 v0R v1I v2I σ) = _
  unfold T_Bk_ringing_1
  simp only [lpK_ite, lq_inl, lq_inr, lpK_bnd, lpK_gd, lq_let]
  try rfl
set_option maxRecDepth 20000 in
theorem E_Bk_ringing_2 (v0R : Nat) (v1I : Int32) (v2I : Int32) (σ : AM) : L_Bk_ringing_2 v0R v1I v2I σ = (L_Bk_ringing_1 v0R v1I (v2I + (1 : Int32)) σ) := by
  unfold L_Bk_ringing_2
  rw [lp_eq]
  show lpK (lp F_Bk_ringing) (T_Bk_ringing_2 v0R v1I v2I σ) = _
  unfold T_Bk_ringing_2
  simp only [lpK_ite, lq_inl, lq_inr, lpK_bnd, lpK_gd, lq_let]
  try rfl
noncomputable def M_Bk_ringing (v0R : Nat) (σ : AM) : Option (Int32 × AM) := mw σ (L_Bk_ringing_0 v0R σ)
def I_Bk_ringing (G : GX) (p : Program) (l : Launch) (e : Env) (s : State) (m : MethodId) (args : Array Value) (below : List Frame) (meth : Method) (c : Code) (z0 u0 n : Nat) : Prop :=
  (∀ (v0R : Nat) (σ : AM), VX (QM eI G args s below z0 u0) G p l e s m args below meth c 0 z0 u0 3 (lpn F_Bk_ringing n (0, v0R, 0, 0, σ)) 0 [(0, .ref v0R)] [] σ) ∧
  (∀ (v0R : Nat) (v1I : Int32) (v2I : Int32) (σ : AM), VX (QM eI G args s below z0 u0) G p l e s m args below meth c 0 z0 u0 3 (lpn F_Bk_ringing n (1, v0R, v1I, v2I, σ)) 4 [(0, .ref v0R), (1, .int v1I), (2, .int v2I)] [] σ) ∧
  (∀ (v0R : Nat) (v1I : Int32) (v2I : Int32) (σ : AM), VX (QM eI G args s below z0 u0) G p l e s m args below meth c 0 z0 u0 3 (lpn F_Bk_ringing n (2, v0R, v1I, v2I, σ)) 24 [(0, .ref v0R), (1, .int v1I), (2, .int v2I)] [] σ)
set_option maxRecDepth 20000 in
theorem s_Bk_ringing_0 {G : GX} {p : Program} {l : Launch} {e : Env} {s : State} {m : MethodId} {args : Array Value} {below : List Frame} {meth : Method} {c : Code} {z0 u0 n : Nat} (C : Cx G p s m args meth c prog_2_method_13_code 3 "BellPlate$Book" ((some FieldType.int))) (IH : I_Bk_ringing G p l e s m args below meth c z0 u0 n) (v0R : Nat) (σ : AM) : VX (QM eI G args s below z0 u0) G p l e s m args below meth c 0 z0 u0 3 (lpK (lpn F_Bk_ringing n) (T_Bk_ringing_0 v0R σ)) 0 [(0, .ref v0R)] [] σ := by
  unfold T_Bk_ringing_0
  refine x_iconst (v := (0 : Int32)) C d_Bk_ringing_0 (by decide) ?_
  refine x_istore_n (lv' := [(1, .int (0 : Int32)), (0, .ref v0R)]) C d_Bk_ringing_1 (by decide) rfl rfl ?_
  refine x_iconst (v := (0 : Int32)) C d_Bk_ringing_2 (by decide) ?_
  refine x_istore_n (lv' := [(2, .int (0 : Int32)), (1, .int (0 : Int32)), (0, .ref v0R)]) C d_Bk_ringing_3 (by decide) rfl rfl ?_
  refine x_lv [2, 1, 0] rfl ?_
  exact IH.2.1 v0R ((0 : Int32)) ((0 : Int32)) (σ)
set_option maxRecDepth 20000 in
theorem s_Bk_ringing_1 {G : GX} {p : Program} {l : Launch} {e : Env} {s : State} {m : MethodId} {args : Array Value} {below : List Frame} {meth : Method} {c : Code} {z0 u0 n : Nat} (C : Cx G p s m args meth c prog_2_method_13_code 3 "BellPlate$Book" ((some FieldType.int))) (IH : I_Bk_ringing G p l e s m args below meth c z0 u0 n) (v0R : Nat) (v1I : Int32) (v2I : Int32) (σ : AM) : VX (QM eI G args s below z0 u0) G p l e s m args below meth c 0 z0 u0 3 (lpK (lpn F_Bk_ringing n) (T_Bk_ringing_1 v0R v1I v2I σ)) 4 [(0, .ref v0R), (1, .int v1I), (2, .int v2I)] [] σ := by
  unfold T_Bk_ringing_1
  refine x_iload_n C d_Bk_ringing_4 2 rfl ?_
  refine x_aload_n C d_Bk_ringing_5 0 rfl ?_
  refine x_gd (fun h1 => ?_)
  refine x_getI (k := 7) C (okO_iff.mp h1) rfl j3_ok (by decide) rfl w305 d_Bk_ringing_6 ?_
  refine x_icmp_ge (tgt := 30) C d_Bk_ringing_9 (by decide) (fun _ => ?_) (fun _ => ?_)
  · refine x_aload_n C d_Bk_ringing_12 0 rfl ?_
    refine x_gd (fun h2 => ?_)
    refine x_getR (k := 1) (kv := 103) C (okO_iff.mp h1) rfl j3_ok (by decide) rfl (okO_iff.mp h2) (by decide) w299 d_Bk_ringing_13 ?_
    refine x_iload_n C d_Bk_ringing_16 2 rfl ?_
    refine x_gd (fun h3 => ?_)
    refine x_aldZ C (okO_iff.mp h2) (inB_iff.mp h3) d_Bk_ringing_17 ?_
    refine x_if_eq (tgt := 24) C d_Bk_ringing_18 (by decide) (fun _ => ?_) (fun _ => ?_)
    · exact IH.2.2 v0R v1I v2I (σ)
    · refine x_iinc (v := v1I + (1 : Int32)) (lv' := [(1, .int (v1I + (1 : Int32))), (0, .ref v0R), (2, .int v2I)]) C d_Bk_ringing_21 1 rfl rfl (by decide) rfl ?_
      refine x_lv [1, 0, 2] rfl ?_
      exact IH.2.2 v0R (v1I + (1 : Int32)) v2I (σ)
  · refine x_iload_n C d_Bk_ringing_30 1 rfl ?_
    exact x_iret C d_Bk_ringing_31
set_option maxRecDepth 20000 in
theorem s_Bk_ringing_2 {G : GX} {p : Program} {l : Launch} {e : Env} {s : State} {m : MethodId} {args : Array Value} {below : List Frame} {meth : Method} {c : Code} {z0 u0 n : Nat} (C : Cx G p s m args meth c prog_2_method_13_code 3 "BellPlate$Book" ((some FieldType.int))) (IH : I_Bk_ringing G p l e s m args below meth c z0 u0 n) (v0R : Nat) (v1I : Int32) (v2I : Int32) (σ : AM) : VX (QM eI G args s below z0 u0) G p l e s m args below meth c 0 z0 u0 3 (lpK (lpn F_Bk_ringing n) (T_Bk_ringing_2 v0R v1I v2I σ)) 24 [(0, .ref v0R), (1, .int v1I), (2, .int v2I)] [] σ := by
  unfold T_Bk_ringing_2
  refine x_iinc (v := v2I + (1 : Int32)) (lv' := [(2, .int (v2I + (1 : Int32))), (0, .ref v0R), (1, .int v1I)]) C d_Bk_ringing_24 2 rfl rfl (by decide) rfl ?_
  refine x_goto (tgt := 4) C d_Bk_ringing_27 (by decide) ?_
  refine x_lv [1, 2, 0] rfl ?_
  exact IH.2.1 v0R v1I (v2I + (1 : Int32)) (σ)
theorem i_Bk_ringing {G : GX} {p : Program} {l : Launch} {e : Env} {s : State} {m : MethodId} {args : Array Value} {below : List Frame} {meth : Method} {c : Code} {z0 u0 : Nat} (C : Cx G p s m args meth c prog_2_method_13_code 3 "BellPlate$Book" ((some FieldType.int))) (n : Nat) : I_Bk_ringing G p l e s m args below meth c z0 u0 n := by
  induction n with
  | zero => exact ⟨fun _ _ => x_none, fun _ _ _ _ => x_none, fun _ _ _ _ => x_none⟩
  | succ n IH => exact ⟨fun v0R σ => s_Bk_ringing_0 C IH v0R σ, fun v0R v1I v2I σ => s_Bk_ringing_1 C IH v0R v1I v2I σ, fun v0R v1I v2I σ => s_Bk_ringing_2 C IH v0R v1I v2I σ⟩
theorem c_Bk_ringing (G : GX) (l : Launch) (v0R : Nat) (σ : AM) : CT eI G l 0 y_Bk_ringing prog_2_method_13_code 3 ((some FieldType.int)) [.ref v0R] σ (M_Bk_ringing v0R σ) := by
  refine ct_of (by decide +kernel) (Nat.le_of_ble_eq_true rfl) (fun p e s m args below meth c C hin => ?_)
  refine x_lve (lv' := [(0, .ref v0R)]) rfl ?_
  intro r σ' h
  obtain ⟨n, hn⟩ := (lp_iff _ _ _).mp h
  exact (i_Bk_ringing C n).1 v0R σ r σ' hn
/-! BellPlate$Book.setsTold(ZI)J -/
abbrev y_Bk_setsTold : MethodName := ⟨"BellPlate$Book", "setsTold", "(ZI)J"⟩
theorem k_Bk_setsTold : y_Bk_setsTold.cls ≠ "java/lang/invoke/MethodHandle" ∧ y_Bk_setsTold.cls ≠ "java/lang/invoke/VarHandle" ∧ (parseMethodDescriptor y_Bk_setsTold.desc).map (fun d => d.parameters.length) = some 2 := by decide +kernel
theorem d_Bk_setsTold_0 : decode prog_2_method_14_code 0 = .ok (.lconst 0, 1) := by decide +kernel
theorem d_Bk_setsTold_1 : decode prog_2_method_14_code 1 = .ok (.lstore_n 3, 1) := by decide +kernel
theorem d_Bk_setsTold_2 : decode prog_2_method_14_code 2 = .ok (.iload_n 2, 1) := by decide +kernel
theorem d_Bk_setsTold_3 : decode prog_2_method_14_code 3 = .ok (.istore 5, 2) := by decide +kernel
theorem d_Bk_setsTold_5 : decode prog_2_method_14_code 5 = .ok (.iload 5, 2) := by decide +kernel
theorem d_Bk_setsTold_7 : decode prog_2_method_14_code 7 = .ok (.aload_n 0, 1) := by decide +kernel
theorem d_Bk_setsTold_8 : decode prog_2_method_14_code 8 = .ok (.getfield 34, 3) := by decide +kernel
theorem d_Bk_setsTold_11 : decode prog_2_method_14_code 11 = .ok (.if_icmp .ge 34, 3) := by decide +kernel
theorem d_Bk_setsTold_14 : decode prog_2_method_14_code 14 = .ok (.aload_n 0, 1) := by decide +kernel
theorem d_Bk_setsTold_15 : decode prog_2_method_14_code 15 = .ok (.getfield 15, 3) := by decide +kernel
theorem d_Bk_setsTold_18 : decode prog_2_method_14_code 18 = .ok (.iload 5, 2) := by decide +kernel
theorem d_Bk_setsTold_20 : decode prog_2_method_14_code 20 = .ok (.baload, 1) := by decide +kernel
theorem d_Bk_setsTold_21 : decode prog_2_method_14_code 21 = .ok (.iload_n 1, 1) := by decide +kernel
theorem d_Bk_setsTold_22 : decode prog_2_method_14_code 22 = .ok (.if_icmp .ne 17, 3) := by decide +kernel
theorem d_Bk_setsTold_25 : decode prog_2_method_14_code 25 = .ok (.lload_n 3, 1) := by decide +kernel
theorem d_Bk_setsTold_26 : decode prog_2_method_14_code 26 = .ok (.lconst 1, 1) := by decide +kernel
theorem d_Bk_setsTold_27 : decode prog_2_method_14_code 27 = .ok (.aload_n 0, 1) := by decide +kernel
theorem d_Bk_setsTold_28 : decode prog_2_method_14_code 28 = .ok (.getfield 11, 3) := by decide +kernel
theorem d_Bk_setsTold_31 : decode prog_2_method_14_code 31 = .ok (.iload 5, 2) := by decide +kernel
theorem d_Bk_setsTold_33 : decode prog_2_method_14_code 33 = .ok (.iload_n 2, 1) := by decide +kernel
theorem d_Bk_setsTold_34 : decode prog_2_method_14_code 34 = .ok (.isub, 1) := by decide +kernel
theorem d_Bk_setsTold_35 : decode prog_2_method_14_code 35 = .ok (.iaload, 1) := by decide +kernel
theorem d_Bk_setsTold_36 : decode prog_2_method_14_code 36 = .ok (.lshl, 1) := by decide +kernel
theorem d_Bk_setsTold_37 : decode prog_2_method_14_code 37 = .ok (.lor, 1) := by decide +kernel
theorem d_Bk_setsTold_38 : decode prog_2_method_14_code 38 = .ok (.lstore_n 3, 1) := by decide +kernel
theorem d_Bk_setsTold_39 : decode prog_2_method_14_code 39 = .ok (.iinc 5 1, 3) := by decide +kernel
theorem d_Bk_setsTold_42 : decode prog_2_method_14_code 42 = .ok (.goto (-37), 3) := by decide +kernel
theorem d_Bk_setsTold_45 : decode prog_2_method_14_code 45 = .ok (.lload_n 3, 1) := by decide +kernel
theorem d_Bk_setsTold_46 : decode prog_2_method_14_code 46 = .ok (.lreturn, 1) := by decide +kernel
abbrev S_Bk_setsTold : Type := Nat × Nat × Int32 × Int32 × Int64 × Int32 × AM
noncomputable def T_Bk_setsTold_0 (v0R : Nat) (v1I : Int32) (v2I : Int32) (σ : AM) : S_Bk_setsTold ⊕ Option (Int64 × AM) :=
  .inl (1, v0R, v1I, v2I, (0 : Int64), v2I, σ)
noncomputable def T_Bk_setsTold_1 (v0R : Nat) (v1I : Int32) (v2I : Int32) (v3J : Int64) (v5I : Int32) (σ : AM) : S_Bk_setsTold ⊕ Option (Int64 × AM) :=
  gdT (okO σ v0R 4) <| if v5I < (aI σ v0R 7) then (gdT (okO σ (aR σ v0R 1) 103) <| gdT (inB v5I (aN σ (aR σ v0R 1))) <| if (aI σ (aR σ v0R 1) v5I.toNatClampNeg) = v1I then (gdT (okO σ (aR σ v0R 0) 101) <| gdT (inB (v5I - v2I) (aN σ (aR σ v0R 0))) <| letT (v3J ||| ((1 : Int64) <<< ((aI σ (aR σ v0R 0) (v5I - v2I).toNatClampNeg).toInt64 &&& 63))) fun x6 => .inl (2, v0R, v1I, v2I, x6, v5I, σ)) else (.inl (2, v0R, v1I, v2I, v3J, v5I, σ))) else (.inr (some (v3J, σ)))
noncomputable def T_Bk_setsTold_2 (v0R : Nat) (v1I : Int32) (v2I : Int32) (v3J : Int64) (v5I : Int32) (σ : AM) : S_Bk_setsTold ⊕ Option (Int64 × AM) :=
  .inl (1, v0R, v1I, v2I, v3J, v5I + (1 : Int32), σ)
noncomputable def F_Bk_setsTold : S_Bk_setsTold → S_Bk_setsTold ⊕ Option (Int64 × AM) := fun s => match s.1 with
  | 0 => T_Bk_setsTold_0 (s.2.1) (s.2.2.1) (s.2.2.2.1) (s.2.2.2.2.2.2)
  | 1 => T_Bk_setsTold_1 (s.2.1) (s.2.2.1) (s.2.2.2.1) (s.2.2.2.2.1) (s.2.2.2.2.2.1) (s.2.2.2.2.2.2)
  | _ => T_Bk_setsTold_2 (s.2.1) (s.2.2.1) (s.2.2.2.1) (s.2.2.2.2.1) (s.2.2.2.2.2.1) (s.2.2.2.2.2.2)
noncomputable def L_Bk_setsTold_0 (v0R : Nat) (v1I : Int32) (v2I : Int32) (σ : AM) : Option (Int64 × AM) := lp F_Bk_setsTold (0, v0R, v1I, v2I, 0, 0, σ)
noncomputable def L_Bk_setsTold_1 (v0R : Nat) (v1I : Int32) (v2I : Int32) (v3J : Int64) (v5I : Int32) (σ : AM) : Option (Int64 × AM) := lp F_Bk_setsTold (1, v0R, v1I, v2I, v3J, v5I, σ)
noncomputable def L_Bk_setsTold_2 (v0R : Nat) (v1I : Int32) (v2I : Int32) (v3J : Int64) (v5I : Int32) (σ : AM) : Option (Int64 × AM) := lp F_Bk_setsTold (2, v0R, v1I, v2I, v3J, v5I, σ)
set_option maxRecDepth 20000 in
theorem E_Bk_setsTold_0 (v0R : Nat) (v1I : Int32) (v2I : Int32) (σ : AM) : L_Bk_setsTold_0 v0R v1I v2I σ = (L_Bk_setsTold_1 v0R v1I v2I ((0 : Int64)) v2I σ) := by
  unfold L_Bk_setsTold_0
  rw [lp_eq]
  show lpK (lp F_Bk_setsTold) (T_Bk_setsTold_0 v0R v1I v2I σ) = _
  unfold T_Bk_setsTold_0
  simp only [lpK_ite, lq_inl, lq_inr, lpK_bnd, lpK_gd, lq_let]
  try rfl
set_option maxRecDepth 20000 in
theorem E_Bk_setsTold_1 (v0R : Nat) (v1I : Int32) (v2I : Int32) (v3J : Int64) (v5I : Int32) (σ : AM) : L_Bk_setsTold_1 v0R v1I v2I v3J v5I σ = (gd (okO σ v0R 4) <| if v5I < (aI σ v0R 7) then (gd (okO σ (aR σ v0R 1) 103) <| gd (inB v5I (aN σ (aR σ v0R 1))) <| if (aI σ (aR σ v0R 1) v5I.toNatClampNeg) = v1I then (gd (okO σ (aR σ v0R 0) 101) <| gd (inB (v5I - v2I) (aN σ (aR σ v0R 0))) <| letT (v3J ||| ((1 : Int64) <<< ((aI σ (aR σ v0R 0) (v5I - v2I).toNatClampNeg).toInt64 &&& 63))) fun x6 => L_Bk_setsTold_2 v0R v1I v2I x6 v5I σ) else (L_Bk_setsTold_2 v0R v1I v2I v3J v5I σ)) else ((some (v3J, σ)))) := by
  unfold L_Bk_setsTold_1
  rw [lp_eq]
  show lpK (lp F_Bk_setsTold) (T_Bk_setsTold_1 v0R v1I v2I v3J v5I σ) = _
  unfold T_Bk_setsTold_1
  simp only [lpK_ite, lq_inl, lq_inr, lpK_bnd, lpK_gd, lq_let]
  try rfl
set_option maxRecDepth 20000 in
theorem E_Bk_setsTold_2 (v0R : Nat) (v1I : Int32) (v2I : Int32) (v3J : Int64) (v5I : Int32) (σ : AM) : L_Bk_setsTold_2 v0R v1I v2I v3J v5I σ = (L_Bk_setsTold_1 v0R v1I v2I v3J (v5I + (1 : Int32)) σ) := by
  unfold L_Bk_setsTold_2
  rw [lp_eq]
  show lpK (lp F_Bk_setsTold) (T_Bk_setsTold_2 v0R v1I v2I v3J v5I σ) = _
  unfold T_Bk_setsTold_2
  simp only [lpK_ite, lq_inl, lq_inr, lpK_bnd, lpK_gd, lq_let]
  try rfl
noncomputable def M_Bk_setsTold (v0R : Nat) (v1I : Int32) (v2I : Int32) (σ : AM) : Option (Int64 × AM) := mw σ (L_Bk_setsTold_0 v0R v1I v2I σ)
def I_Bk_setsTold (G : GX) (p : Program) (l : Launch) (e : Env) (s : State) (m : MethodId) (args : Array Value) (below : List Frame) (meth : Method) (c : Code) (z0 u0 n : Nat) : Prop :=
  (∀ (v0R : Nat) (v1I : Int32) (v2I : Int32) (σ : AM), VX (QM eJ G args s below z0 u0) G p l e s m args below meth c 0 z0 u0 6 (lpn F_Bk_setsTold n (0, v0R, v1I, v2I, 0, 0, σ)) 0 [(0, .ref v0R), (1, .int v1I), (2, .int v2I)] [] σ) ∧
  (∀ (v0R : Nat) (v1I : Int32) (v2I : Int32) (v3J : Int64) (v5I : Int32) (σ : AM), VX (QM eJ G args s below z0 u0) G p l e s m args below meth c 0 z0 u0 6 (lpn F_Bk_setsTold n (1, v0R, v1I, v2I, v3J, v5I, σ)) 5 [(0, .ref v0R), (1, .int v1I), (2, .int v2I), (3, .long v3J), (5, .int v5I)] [] σ) ∧
  (∀ (v0R : Nat) (v1I : Int32) (v2I : Int32) (v3J : Int64) (v5I : Int32) (σ : AM), VX (QM eJ G args s below z0 u0) G p l e s m args below meth c 0 z0 u0 6 (lpn F_Bk_setsTold n (2, v0R, v1I, v2I, v3J, v5I, σ)) 39 [(0, .ref v0R), (1, .int v1I), (2, .int v2I), (3, .long v3J), (5, .int v5I)] [] σ)
set_option maxRecDepth 20000 in
theorem s_Bk_setsTold_0 {G : GX} {p : Program} {l : Launch} {e : Env} {s : State} {m : MethodId} {args : Array Value} {below : List Frame} {meth : Method} {c : Code} {z0 u0 n : Nat} (C : Cx G p s m args meth c prog_2_method_14_code 6 "BellPlate$Book" ((some FieldType.long))) (IH : I_Bk_setsTold G p l e s m args below meth c z0 u0 n) (v0R : Nat) (v1I : Int32) (v2I : Int32) (σ : AM) : VX (QM eJ G args s below z0 u0) G p l e s m args below meth c 0 z0 u0 6 (lpK (lpn F_Bk_setsTold n) (T_Bk_setsTold_0 v0R v1I v2I σ)) 0 [(0, .ref v0R), (1, .int v1I), (2, .int v2I)] [] σ := by
  unfold T_Bk_setsTold_0
  refine x_lconst (v := (0 : Int64)) C d_Bk_setsTold_0 (by decide) ?_
  refine x_lstore_n (lv' := [(3, .long (0 : Int64)), (0, .ref v0R), (1, .int v1I), (2, .int v2I)]) C d_Bk_setsTold_1 (by decide) rfl rfl ?_
  refine x_iload_n C d_Bk_setsTold_2 3 rfl ?_
  refine x_istore (lv' := [(5, .int v2I), (3, .long (0 : Int64)), (0, .ref v0R), (1, .int v1I), (2, .int v2I)]) C d_Bk_setsTold_3 (by decide) rfl ?_
  refine x_lv [2, 3, 4, 1, 0] rfl ?_
  exact IH.2.1 v0R v1I v2I ((0 : Int64)) v2I (σ)
set_option maxRecDepth 20000 in
theorem s_Bk_setsTold_1 {G : GX} {p : Program} {l : Launch} {e : Env} {s : State} {m : MethodId} {args : Array Value} {below : List Frame} {meth : Method} {c : Code} {z0 u0 n : Nat} (C : Cx G p s m args meth c prog_2_method_14_code 6 "BellPlate$Book" ((some FieldType.long))) (IH : I_Bk_setsTold G p l e s m args below meth c z0 u0 n) (v0R : Nat) (v1I : Int32) (v2I : Int32) (v3J : Int64) (v5I : Int32) (σ : AM) : VX (QM eJ G args s below z0 u0) G p l e s m args below meth c 0 z0 u0 6 (lpK (lpn F_Bk_setsTold n) (T_Bk_setsTold_1 v0R v1I v2I v3J v5I σ)) 5 [(0, .ref v0R), (1, .int v1I), (2, .int v2I), (3, .long v3J), (5, .int v5I)] [] σ := by
  unfold T_Bk_setsTold_1
  refine x_iload C d_Bk_setsTold_5 4 rfl ?_
  refine x_aload_n C d_Bk_setsTold_7 0 rfl ?_
  refine x_gd (fun h1 => ?_)
  refine x_getI (k := 7) C (okO_iff.mp h1) rfl j3_ok (by decide) rfl w305 d_Bk_setsTold_8 ?_
  refine x_icmp_ge (tgt := 45) C d_Bk_setsTold_11 (by decide) (fun _ => ?_) (fun _ => ?_)
  · refine x_aload_n C d_Bk_setsTold_14 0 rfl ?_
    refine x_gd (fun h2 => ?_)
    refine x_getR (k := 1) (kv := 103) C (okO_iff.mp h1) rfl j3_ok (by decide) rfl (okO_iff.mp h2) (by decide) w299 d_Bk_setsTold_15 ?_
    refine x_iload C d_Bk_setsTold_18 4 rfl ?_
    refine x_gd (fun h3 => ?_)
    refine x_aldZ C (okO_iff.mp h2) (inB_iff.mp h3) d_Bk_setsTold_20 ?_
    refine x_iload_n C d_Bk_setsTold_21 1 rfl ?_
    refine x_icmp_ne (tgt := 39) C d_Bk_setsTold_22 (by decide) (fun _ => ?_) (fun _ => ?_)
    · refine x_lload_n C d_Bk_setsTold_25 3 rfl ?_
      refine x_lconst (v := (1 : Int64)) C d_Bk_setsTold_26 (by decide) ?_
      refine x_aload_n C d_Bk_setsTold_27 0 rfl ?_
      refine x_gd (fun h4 => ?_)
      refine x_getR (k := 0) (kv := 101) C (okO_iff.mp h1) rfl j3_ok (by decide) rfl (okO_iff.mp h4) (by decide) w298 d_Bk_setsTold_28 ?_
      refine x_iload C d_Bk_setsTold_31 4 rfl ?_
      refine x_iload_n C d_Bk_setsTold_33 2 rfl ?_
      refine x_isub C d_Bk_setsTold_34 ?_
      refine x_gd (fun h5 => ?_)
      refine x_aldI C (okO_iff.mp h4) (inB_iff.mp h5) d_Bk_setsTold_35 ?_
      refine x_lshl C d_Bk_setsTold_36 ?_
      refine x_lor C d_Bk_setsTold_37 ?_
      refine x_letJ (fun x6 _ => ?_)
      refine x_lstore_n (lv' := [(3, .long x6), (0, .ref v0R), (1, .int v1I), (2, .int v2I), (5, .int v5I)]) C d_Bk_setsTold_38 (by decide) rfl rfl ?_
      refine x_lv [1, 2, 3, 0, 4] rfl ?_
      exact IH.2.2 v0R v1I v2I x6 v5I (σ)
    · exact IH.2.2 v0R v1I v2I v3J v5I (σ)
  · refine x_lload_n C d_Bk_setsTold_45 3 rfl ?_
    exact x_lret C d_Bk_setsTold_46
set_option maxRecDepth 20000 in
theorem s_Bk_setsTold_2 {G : GX} {p : Program} {l : Launch} {e : Env} {s : State} {m : MethodId} {args : Array Value} {below : List Frame} {meth : Method} {c : Code} {z0 u0 n : Nat} (C : Cx G p s m args meth c prog_2_method_14_code 6 "BellPlate$Book" ((some FieldType.long))) (IH : I_Bk_setsTold G p l e s m args below meth c z0 u0 n) (v0R : Nat) (v1I : Int32) (v2I : Int32) (v3J : Int64) (v5I : Int32) (σ : AM) : VX (QM eJ G args s below z0 u0) G p l e s m args below meth c 0 z0 u0 6 (lpK (lpn F_Bk_setsTold n) (T_Bk_setsTold_2 v0R v1I v2I v3J v5I σ)) 39 [(0, .ref v0R), (1, .int v1I), (2, .int v2I), (3, .long v3J), (5, .int v5I)] [] σ := by
  unfold T_Bk_setsTold_2
  refine x_iinc (v := v5I + (1 : Int32)) (lv' := [(5, .int (v5I + (1 : Int32))), (0, .ref v0R), (1, .int v1I), (2, .int v2I), (3, .long v3J)]) C d_Bk_setsTold_39 4 rfl rfl (by decide) rfl ?_
  refine x_goto (tgt := 5) C d_Bk_setsTold_42 (by decide) ?_
  refine x_lv [1, 2, 3, 4, 0] rfl ?_
  exact IH.2.1 v0R v1I v2I v3J (v5I + (1 : Int32)) (σ)
theorem i_Bk_setsTold {G : GX} {p : Program} {l : Launch} {e : Env} {s : State} {m : MethodId} {args : Array Value} {below : List Frame} {meth : Method} {c : Code} {z0 u0 : Nat} (C : Cx G p s m args meth c prog_2_method_14_code 6 "BellPlate$Book" ((some FieldType.long))) (n : Nat) : I_Bk_setsTold G p l e s m args below meth c z0 u0 n := by
  induction n with
  | zero => exact ⟨fun _ _ _ _ => x_none, fun _ _ _ _ _ _ => x_none, fun _ _ _ _ _ _ => x_none⟩
  | succ n IH => exact ⟨fun v0R v1I v2I σ => s_Bk_setsTold_0 C IH v0R v1I v2I σ, fun v0R v1I v2I v3J v5I σ => s_Bk_setsTold_1 C IH v0R v1I v2I v3J v5I σ, fun v0R v1I v2I v3J v5I σ => s_Bk_setsTold_2 C IH v0R v1I v2I v3J v5I σ⟩
theorem c_Bk_setsTold (G : GX) (l : Launch) (v0R : Nat) (v1I : Int32) (v2I : Int32) (σ : AM) : CT eJ G l 0 y_Bk_setsTold prog_2_method_14_code 6 ((some FieldType.long)) [.ref v0R, .int v1I, .int v2I] σ (M_Bk_setsTold v0R v1I v2I σ) := by
  refine ct_of (by decide +kernel) (Nat.le_of_ble_eq_true rfl) (fun p e s m args below meth c C hin => ?_)
  refine x_lve (lv' := [(0, .ref v0R), (1, .int v1I), (2, .int v2I)]) rfl ?_
  intro r σ' h
  obtain ⟨n, hn⟩ := (lp_iff _ _ _).mp h
  exact (i_Bk_setsTold C n).1 v0R v1I v2I σ r σ' hn
/-! BellPlate$Book.hintsHold(J)Z -/
abbrev y_Bk_hintsHold : MethodName := ⟨"BellPlate$Book", "hintsHold", "(J)Z"⟩
theorem k_Bk_hintsHold : y_Bk_hintsHold.cls ≠ "java/lang/invoke/MethodHandle" ∧ y_Bk_hintsHold.cls ≠ "java/lang/invoke/VarHandle" ∧ (parseMethodDescriptor y_Bk_hintsHold.desc).map (fun d => d.parameters.length) = some 1 := by decide +kernel
theorem d_Bk_hintsHold_0 : decode prog_2_method_15_code 0 = .ok (.iconst 0, 1) := by decide +kernel
theorem d_Bk_hintsHold_1 : decode prog_2_method_15_code 1 = .ok (.istore_n 3, 1) := by decide +kernel
theorem d_Bk_hintsHold_2 : decode prog_2_method_15_code 2 = .ok (.iload_n 3, 1) := by decide +kernel
theorem d_Bk_hintsHold_3 : decode prog_2_method_15_code 3 = .ok (.aload_n 0, 1) := by decide +kernel
theorem d_Bk_hintsHold_4 : decode prog_2_method_15_code 4 = .ok (.getfield 38, 3) := by decide +kernel
theorem d_Bk_hintsHold_7 : decode prog_2_method_15_code 7 = .ok (.if_icmp .ge 34, 3) := by decide +kernel
theorem d_Bk_hintsHold_10 : decode prog_2_method_15_code 10 = .ok (.lload_n 1, 1) := by decide +kernel
theorem d_Bk_hintsHold_11 : decode prog_2_method_15_code 11 = .ok (.aload_n 0, 1) := by decide +kernel
theorem d_Bk_hintsHold_12 : decode prog_2_method_15_code 12 = .ok (.getfield 19, 3) := by decide +kernel
theorem d_Bk_hintsHold_15 : decode prog_2_method_15_code 15 = .ok (.iload_n 3, 1) := by decide +kernel
theorem d_Bk_hintsHold_16 : decode prog_2_method_15_code 16 = .ok (.iaload, 1) := by decide +kernel
theorem d_Bk_hintsHold_17 : decode prog_2_method_15_code 17 = .ok (.invokestatic 57, 3) := by decide +kernel
theorem d_Bk_hintsHold_20 : decode prog_2_method_15_code 20 = .ok (.land, 1) := by decide +kernel
theorem d_Bk_hintsHold_21 : decode prog_2_method_15_code 21 = .ok (.invokestatic 63, 3) := by decide +kernel
theorem d_Bk_hintsHold_24 : decode prog_2_method_15_code 24 = .ok (.aload_n 0, 1) := by decide +kernel
theorem d_Bk_hintsHold_25 : decode prog_2_method_15_code 25 = .ok (.getfield 22, 3) := by decide +kernel
theorem d_Bk_hintsHold_28 : decode prog_2_method_15_code 28 = .ok (.iload_n 3, 1) := by decide +kernel
theorem d_Bk_hintsHold_29 : decode prog_2_method_15_code 29 = .ok (.iaload, 1) := by decide +kernel
theorem d_Bk_hintsHold_30 : decode prog_2_method_15_code 30 = .ok (.if_icmp .eq 5, 3) := by decide +kernel
theorem d_Bk_hintsHold_33 : decode prog_2_method_15_code 33 = .ok (.iconst 0, 1) := by decide +kernel
theorem d_Bk_hintsHold_34 : decode prog_2_method_15_code 34 = .ok (.ireturn, 1) := by decide +kernel
theorem d_Bk_hintsHold_35 : decode prog_2_method_15_code 35 = .ok (.iinc 3 1, 3) := by decide +kernel
theorem d_Bk_hintsHold_38 : decode prog_2_method_15_code 38 = .ok (.goto (-36), 3) := by decide +kernel
theorem d_Bk_hintsHold_41 : decode prog_2_method_15_code 41 = .ok (.iconst 1, 1) := by decide +kernel
theorem d_Bk_hintsHold_42 : decode prog_2_method_15_code 42 = .ok (.ireturn, 1) := by decide +kernel
abbrev S_Bk_hintsHold : Type := Nat × Nat × Int64 × Int32 × AM
noncomputable def T_Bk_hintsHold_0 (v0R : Nat) (v1J : Int64) (σ : AM) : S_Bk_hintsHold ⊕ Option (Int32 × AM) :=
  .inl (1, v0R, v1J, (0 : Int32), σ)
noncomputable def T_Bk_hintsHold_1 (v0R : Nat) (v1J : Int64) (v3I : Int32) (σ : AM) : S_Bk_hintsHold ⊕ Option (Int32 × AM) :=
  gdT (okO σ v0R 4) <| if v3I < (aI σ v0R 8) then (gdT (okO σ (aR σ v0R 2) 101) <| gdT (inB v3I (aN σ (aR σ v0R 2))) <| bndT (M_St_ofSize (aI σ (aR σ v0R 2) v3I.toNatClampNeg) σ) fun r4 σ5 => bndT (M_JLong_bitCount (v1J &&& r4) σ5) fun r6 σ7 => gdT (okO σ7 v0R 4) <| gdT (okO σ7 (aR σ7 v0R 3) 101) <| gdT (inB v3I (aN σ7 (aR σ7 v0R 3))) <| if r6 = (aI σ7 (aR σ7 v0R 3) v3I.toNatClampNeg) then (.inl (1, v0R, v1J, v3I + (1 : Int32), σ7)) else (.inr (some ((0 : Int32), σ7)))) else (.inr (some ((1 : Int32), σ)))
noncomputable def F_Bk_hintsHold : S_Bk_hintsHold → S_Bk_hintsHold ⊕ Option (Int32 × AM) := fun s => match s.1 with
  | 0 => T_Bk_hintsHold_0 (s.2.1) (s.2.2.1) (s.2.2.2.2)
  | _ => T_Bk_hintsHold_1 (s.2.1) (s.2.2.1) (s.2.2.2.1) (s.2.2.2.2)
noncomputable def L_Bk_hintsHold_0 (v0R : Nat) (v1J : Int64) (σ : AM) : Option (Int32 × AM) := lp F_Bk_hintsHold (0, v0R, v1J, 0, σ)
noncomputable def L_Bk_hintsHold_1 (v0R : Nat) (v1J : Int64) (v3I : Int32) (σ : AM) : Option (Int32 × AM) := lp F_Bk_hintsHold (1, v0R, v1J, v3I, σ)
set_option maxRecDepth 20000 in
theorem E_Bk_hintsHold_0 (v0R : Nat) (v1J : Int64) (σ : AM) : L_Bk_hintsHold_0 v0R v1J σ = (L_Bk_hintsHold_1 v0R v1J ((0 : Int32)) σ) := by
  unfold L_Bk_hintsHold_0
  rw [lp_eq]
  show lpK (lp F_Bk_hintsHold) (T_Bk_hintsHold_0 v0R v1J σ) = _
  unfold T_Bk_hintsHold_0
  simp only [lpK_ite, lq_inl, lq_inr, lpK_bnd, lpK_gd, lq_let]
  try rfl
set_option maxRecDepth 20000 in
theorem E_Bk_hintsHold_1 (v0R : Nat) (v1J : Int64) (v3I : Int32) (σ : AM) : L_Bk_hintsHold_1 v0R v1J v3I σ = (gd (okO σ v0R 4) <| if v3I < (aI σ v0R 8) then (gd (okO σ (aR σ v0R 2) 101) <| gd (inB v3I (aN σ (aR σ v0R 2))) <| bnd (M_St_ofSize (aI σ (aR σ v0R 2) v3I.toNatClampNeg) σ) fun r4 σ5 => bnd (M_JLong_bitCount (v1J &&& r4) σ5) fun r6 σ7 => gd (okO σ7 v0R 4) <| gd (okO σ7 (aR σ7 v0R 3) 101) <| gd (inB v3I (aN σ7 (aR σ7 v0R 3))) <| if r6 = (aI σ7 (aR σ7 v0R 3) v3I.toNatClampNeg) then (L_Bk_hintsHold_1 v0R v1J (v3I + (1 : Int32)) σ7) else ((some ((0 : Int32), σ7)))) else ((some ((1 : Int32), σ)))) := by
  unfold L_Bk_hintsHold_1
  rw [lp_eq]
  show lpK (lp F_Bk_hintsHold) (T_Bk_hintsHold_1 v0R v1J v3I σ) = _
  unfold T_Bk_hintsHold_1
  simp only [lpK_ite, lq_inl, lq_inr, lpK_bnd, lpK_gd, lq_let]
  try rfl
noncomputable def M_Bk_hintsHold (v0R : Nat) (v1J : Int64) (σ : AM) : Option (Int32 × AM) := mw σ (L_Bk_hintsHold_0 v0R v1J σ)
def I_Bk_hintsHold (G : GX) (p : Program) (l : Launch) (e : Env) (s : State) (m : MethodId) (args : Array Value) (below : List Frame) (meth : Method) (c : Code) (z0 u0 n : Nat) : Prop :=
  (∀ (v0R : Nat) (v1J : Int64) (σ : AM), VX (QM eI G args s below z0 u0) G p l e s m args below meth c 1 z0 u0 4 (lpn F_Bk_hintsHold n (0, v0R, v1J, 0, σ)) 0 [(0, .ref v0R), (1, .long v1J)] [] σ) ∧
  (∀ (v0R : Nat) (v1J : Int64) (v3I : Int32) (σ : AM), VX (QM eI G args s below z0 u0) G p l e s m args below meth c 1 z0 u0 4 (lpn F_Bk_hintsHold n (1, v0R, v1J, v3I, σ)) 2 [(0, .ref v0R), (1, .long v1J), (3, .int v3I)] [] σ)
set_option maxRecDepth 20000 in
theorem s_Bk_hintsHold_0 {G : GX} {p : Program} {l : Launch} {e : Env} {s : State} {m : MethodId} {args : Array Value} {below : List Frame} {meth : Method} {c : Code} {z0 u0 n : Nat} (C : Cx G p s m args meth c prog_2_method_15_code 4 "BellPlate$Book" ((some FieldType.boolean))) (IH : I_Bk_hintsHold G p l e s m args below meth c z0 u0 n) (v0R : Nat) (v1J : Int64) (σ : AM) : VX (QM eI G args s below z0 u0) G p l e s m args below meth c 1 z0 u0 4 (lpK (lpn F_Bk_hintsHold n) (T_Bk_hintsHold_0 v0R v1J σ)) 0 [(0, .ref v0R), (1, .long v1J)] [] σ := by
  unfold T_Bk_hintsHold_0
  refine x_iconst (v := (0 : Int32)) C d_Bk_hintsHold_0 (by decide) ?_
  refine x_istore_n (lv' := [(3, .int (0 : Int32)), (0, .ref v0R), (1, .long v1J)]) C d_Bk_hintsHold_1 (by decide) rfl rfl ?_
  refine x_lv [1, 2, 0] rfl ?_
  exact IH.2 v0R v1J ((0 : Int32)) (σ)
set_option maxRecDepth 20000 in
theorem s_Bk_hintsHold_1 {G : GX} {p : Program} {l : Launch} {e : Env} {s : State} {m : MethodId} {args : Array Value} {below : List Frame} {meth : Method} {c : Code} {z0 u0 n : Nat} (C : Cx G p s m args meth c prog_2_method_15_code 4 "BellPlate$Book" ((some FieldType.boolean))) (IH : I_Bk_hintsHold G p l e s m args below meth c z0 u0 n) (v0R : Nat) (v1J : Int64) (v3I : Int32) (σ : AM) : VX (QM eI G args s below z0 u0) G p l e s m args below meth c 1 z0 u0 4 (lpK (lpn F_Bk_hintsHold n) (T_Bk_hintsHold_1 v0R v1J v3I σ)) 2 [(0, .ref v0R), (1, .long v1J), (3, .int v3I)] [] σ := by
  unfold T_Bk_hintsHold_1
  refine x_iload_n C d_Bk_hintsHold_2 2 rfl ?_
  refine x_aload_n C d_Bk_hintsHold_3 0 rfl ?_
  refine x_gd (fun h1 => ?_)
  refine x_getI (k := 8) C (okO_iff.mp h1) rfl j3_ok (by decide) rfl w306 d_Bk_hintsHold_4 ?_
  refine x_icmp_ge (tgt := 41) C d_Bk_hintsHold_7 (by decide) (fun _ => ?_) (fun _ => ?_)
  · refine x_lload_n C d_Bk_hintsHold_10 1 rfl ?_
    refine x_aload_n C d_Bk_hintsHold_11 0 rfl ?_
    refine x_gd (fun h2 => ?_)
    refine x_getR (k := 2) (kv := 101) C (okO_iff.mp h1) rfl j3_ok (by decide) rfl (okO_iff.mp h2) (by decide) w300 d_Bk_hintsHold_12 ?_
    refine x_iload_n C d_Bk_hintsHold_15 2 rfl ?_
    refine x_gd (fun h3 => ?_)
    refine x_aldI C (okO_iff.mp h2) (inB_iff.mp h3) d_Bk_hintsHold_16 ?_
    refine x_callSJ (As := [.int (aI σ (aR σ v0R 2) v3I.toNatClampNeg)]) C (c_St_ofSize G l (aI σ (aR σ v0R 2) v3I.toNatClampNeg) σ) w1061 w1060 w1062 w141 k_St_ofSize rfl (by decide) (by decide) rfl (Nat.le_of_ble_eq_true rfl) d_Bk_hintsHold_17 (fun r4 σ5 => ?_)
    refine x_land C d_Bk_hintsHold_20 ?_
    refine x_callSI (As := [.long (v1J &&& r4)]) C (c_JLong_bitCount G l (v1J &&& r4) σ5) w1066 w1065 w1067 w142 k_JLong_bitCount rfl (by decide) (by decide) rfl (Nat.le_of_ble_eq_true rfl) d_Bk_hintsHold_21 (fun r6 σ7 => ?_)
    refine x_aload_n C d_Bk_hintsHold_24 0 rfl ?_
    refine x_gd (fun h8 => ?_)
    refine x_gd (fun h9 => ?_)
    refine x_getR (k := 3) (kv := 101) C (okO_iff.mp h8) rfl j3_ok (by decide) rfl (okO_iff.mp h9) (by decide) w301 d_Bk_hintsHold_25 ?_
    refine x_iload_n C d_Bk_hintsHold_28 2 rfl ?_
    refine x_gd (fun h10 => ?_)
    refine x_aldI C (okO_iff.mp h9) (inB_iff.mp h10) d_Bk_hintsHold_29 ?_
    refine x_icmp_eq (tgt := 35) C d_Bk_hintsHold_30 (by decide) (fun _ => ?_) (fun _ => ?_)
    · refine x_iinc (v := v3I + (1 : Int32)) (lv' := [(3, .int (v3I + (1 : Int32))), (0, .ref v0R), (1, .long v1J)]) C d_Bk_hintsHold_35 2 rfl rfl (by decide) rfl ?_
      refine x_goto (tgt := 2) C d_Bk_hintsHold_38 (by decide) ?_
      refine x_lv [1, 2, 0] rfl ?_
      exact IH.2 v0R v1J (v3I + (1 : Int32)) (σ7)
    · refine x_iconst (v := (0 : Int32)) C d_Bk_hintsHold_33 (by decide) ?_
      exact x_zret C (by decide) d_Bk_hintsHold_34
  · refine x_iconst (v := (1 : Int32)) C d_Bk_hintsHold_41 (by decide) ?_
    exact x_zret C (by decide) d_Bk_hintsHold_42
theorem i_Bk_hintsHold {G : GX} {p : Program} {l : Launch} {e : Env} {s : State} {m : MethodId} {args : Array Value} {below : List Frame} {meth : Method} {c : Code} {z0 u0 : Nat} (C : Cx G p s m args meth c prog_2_method_15_code 4 "BellPlate$Book" ((some FieldType.boolean))) (n : Nat) : I_Bk_hintsHold G p l e s m args below meth c z0 u0 n := by
  induction n with
  | zero => exact ⟨fun _ _ _ => x_none, fun _ _ _ _ => x_none⟩
  | succ n IH => exact ⟨fun v0R v1J σ => s_Bk_hintsHold_0 C IH v0R v1J σ, fun v0R v1J v3I σ => s_Bk_hintsHold_1 C IH v0R v1J v3I σ⟩
theorem c_Bk_hintsHold (G : GX) (l : Launch) (v0R : Nat) (v1J : Int64) (σ : AM) : CT eI G l 1 y_Bk_hintsHold prog_2_method_15_code 4 ((some FieldType.boolean)) [.ref v0R, .long v1J] σ (M_Bk_hintsHold v0R v1J σ) := by
  refine ct_of (by decide +kernel) (Nat.le_of_ble_eq_true rfl) (fun p e s m args below meth c C hin => ?_)
  refine x_lve (lv' := [(0, .ref v0R), (1, .long v1J)]) rfl ?_
  intro r σ' h
  obtain ⟨n, hn⟩ := (lp_iff _ _ _).mp h
  exact (i_Bk_hintsHold C n).1 v0R v1J σ r σ' hn
