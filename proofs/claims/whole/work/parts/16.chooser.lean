/-! BellPlate$Chooser.<init>(LBellPlate$Tower;LBellPlate$Lists;LBellPlate$Book;LBellPlate$Rest;)V -/
abbrev y_Ch_init : MethodName := ⟨"BellPlate$Chooser", "<init>", "(LBellPlate$Tower;LBellPlate$Lists;LBellPlate$Book;LBellPlate$Rest;)V"⟩
theorem k_Ch_init : y_Ch_init.cls ≠ "java/lang/invoke/MethodHandle" ∧ y_Ch_init.cls ≠ "java/lang/invoke/VarHandle" ∧ (parseMethodDescriptor y_Ch_init.desc).map (fun d => d.parameters.length) = some 4 := by decide +kernel
theorem d_Ch_init_0 : decode prog_3_method_1_code 0 = .ok (.aload_n 0, 1) := by decide +kernel
theorem d_Ch_init_1 : decode prog_3_method_1_code 1 = .ok (.invokespecial 3, 3) := by decide +kernel
theorem d_Ch_init_4 : decode prog_3_method_1_code 4 = .ok (.aload_n 0, 1) := by decide +kernel
theorem d_Ch_init_5 : decode prog_3_method_1_code 5 = .ok (.aload_n 1, 1) := by decide +kernel
theorem d_Ch_init_6 : decode prog_3_method_1_code 6 = .ok (.putfield 9, 3) := by decide +kernel
theorem d_Ch_init_9 : decode prog_3_method_1_code 9 = .ok (.aload_n 0, 1) := by decide +kernel
theorem d_Ch_init_10 : decode prog_3_method_1_code 10 = .ok (.aload_n 2, 1) := by decide +kernel
theorem d_Ch_init_11 : decode prog_3_method_1_code 11 = .ok (.putfield 15, 3) := by decide +kernel
theorem d_Ch_init_14 : decode prog_3_method_1_code 14 = .ok (.aload_n 0, 1) := by decide +kernel
theorem d_Ch_init_15 : decode prog_3_method_1_code 15 = .ok (.aload_n 3, 1) := by decide +kernel
theorem d_Ch_init_16 : decode prog_3_method_1_code 16 = .ok (.putfield 19, 3) := by decide +kernel
theorem d_Ch_init_19 : decode prog_3_method_1_code 19 = .ok (.aload_n 0, 1) := by decide +kernel
theorem d_Ch_init_20 : decode prog_3_method_1_code 20 = .ok (.aload 4, 2) := by decide +kernel
theorem d_Ch_init_22 : decode prog_3_method_1_code 22 = .ok (.putfield 23, 3) := by decide +kernel
theorem d_Ch_init_25 : decode prog_3_method_1_code 25 = .ok (.aload_n 0, 1) := by decide +kernel
theorem d_Ch_init_26 : decode prog_3_method_1_code 26 = .ok (.bipush 15, 2) := by decide +kernel
theorem d_Ch_init_28 : decode prog_3_method_1_code 28 = .ok (.newarray .long, 2) := by decide +kernel
theorem d_Ch_init_30 : decode prog_3_method_1_code 30 = .ok (.putfield 27, 3) := by decide +kernel
theorem d_Ch_init_33 : decode prog_3_method_1_code 33 = .ok (.aload_n 0, 1) := by decide +kernel
theorem d_Ch_init_34 : decode prog_3_method_1_code 34 = .ok (.bipush 62, 2) := by decide +kernel
theorem d_Ch_init_36 : decode prog_3_method_1_code 36 = .ok (.newarray .int, 2) := by decide +kernel
theorem d_Ch_init_38 : decode prog_3_method_1_code 38 = .ok (.putfield 33, 3) := by decide +kernel
theorem d_Ch_init_41 : decode prog_3_method_1_code 41 = .ok (.aload_n 0, 1) := by decide +kernel
theorem d_Ch_init_42 : decode prog_3_method_1_code 42 = .ok (.bipush 62, 2) := by decide +kernel
theorem d_Ch_init_44 : decode prog_3_method_1_code 44 = .ok (.newarray .int, 2) := by decide +kernel
theorem d_Ch_init_46 : decode prog_3_method_1_code 46 = .ok (.putfield 37, 3) := by decide +kernel
theorem d_Ch_init_49 : decode prog_3_method_1_code 49 = .ok (.aload_n 0, 1) := by decide +kernel
theorem d_Ch_init_50 : decode prog_3_method_1_code 50 = .ok (.bipush 62, 2) := by decide +kernel
theorem d_Ch_init_52 : decode prog_3_method_1_code 52 = .ok (.newarray .int, 2) := by decide +kernel
theorem d_Ch_init_54 : decode prog_3_method_1_code 54 = .ok (.putfield 40, 3) := by decide +kernel
theorem d_Ch_init_57 : decode prog_3_method_1_code 57 = .ok (.aload_n 0, 1) := by decide +kernel
theorem d_Ch_init_58 : decode prog_3_method_1_code 58 = .ok (.iconst 3, 1) := by decide +kernel
theorem d_Ch_init_59 : decode prog_3_method_1_code 59 = .ok (.newarray .int, 2) := by decide +kernel
theorem d_Ch_init_61 : decode prog_3_method_1_code 61 = .ok (.putfield 43, 3) := by decide +kernel
theorem d_Ch_init_64 : decode prog_3_method_1_code 64 = .ok (.aload_n 0, 1) := by decide +kernel
theorem d_Ch_init_65 : decode prog_3_method_1_code 65 = .ok (.iconst 3, 1) := by decide +kernel
theorem d_Ch_init_66 : decode prog_3_method_1_code 66 = .ok (.newarray .int, 2) := by decide +kernel
theorem d_Ch_init_68 : decode prog_3_method_1_code 68 = .ok (.putfield 46, 3) := by decide +kernel
theorem d_Ch_init_71 : decode prog_3_method_1_code 71 = .ok (.aload_n 0, 1) := by decide +kernel
theorem d_Ch_init_72 : decode prog_3_method_1_code 72 = .ok (.iconst 3, 1) := by decide +kernel
theorem d_Ch_init_73 : decode prog_3_method_1_code 73 = .ok (.newarray .int, 2) := by decide +kernel
theorem d_Ch_init_75 : decode prog_3_method_1_code 75 = .ok (.putfield 49, 3) := by decide +kernel
theorem d_Ch_init_78 : decode prog_3_method_1_code 78 = .ok (.aload_n 0, 1) := by decide +kernel
theorem d_Ch_init_79 : decode prog_3_method_1_code 79 = .ok (.getfield 49, 3) := by decide +kernel
theorem d_Ch_init_82 : decode prog_3_method_1_code 82 = .ok (.iconst (-1), 1) := by decide +kernel
theorem d_Ch_init_83 : decode prog_3_method_1_code 83 = .ok (.invokestatic 52, 3) := by decide +kernel
theorem d_Ch_init_86 : decode prog_3_method_1_code 86 = .ok (.aload_n 0, 1) := by decide +kernel
theorem d_Ch_init_87 : decode prog_3_method_1_code 87 = .ok (.bipush 60, 2) := by decide +kernel
theorem d_Ch_init_89 : decode prog_3_method_1_code 89 = .ok (.newarray .int, 2) := by decide +kernel
theorem d_Ch_init_91 : decode prog_3_method_1_code 91 = .ok (.putfield 58, 3) := by decide +kernel
theorem d_Ch_init_94 : decode prog_3_method_1_code 94 = .ok (.aload_n 0, 1) := by decide +kernel
theorem d_Ch_init_95 : decode prog_3_method_1_code 95 = .ok (.iconst (-1), 1) := by decide +kernel
theorem d_Ch_init_96 : decode prog_3_method_1_code 96 = .ok (.putfield 61, 3) := by decide +kernel
theorem d_Ch_init_99 : decode prog_3_method_1_code 99 = .ok (.return_, 1) := by decide +kernel
abbrev S_Ch_init : Type := Nat × Nat × Nat × Nat × Nat × Nat × AM
noncomputable def T_Ch_init_0 (v0R : Nat) (v1R : Nat) (v2R : Nat) (v3R : Nat) (v4R : Nat) (σ : AM) : S_Ch_init ⊕ Option (Unit × AM) :=
  gdT (okO σ v0R 6) <| gdT (okO σ v1R 1) <| letT (sR σ v0R 0 v1R) fun σ3 => gdT (okO σ3 v2R 3) <| letT (sR σ3 v0R 1 v2R) fun σ6 => gdT (okO σ6 v3R 4) <| letT (sR σ6 v0R 2 v3R) fun σ9 => gdT (okO σ9 v4R 5) <| letT (sR σ9 v0R 3 v4R) fun σ12 => letT (nw σ12 102 (15 : Int32).toNatClampNeg) fun σ14 => gdT (okO σ14 v0R 6) <| letT (sR σ14 v0R 4 (aZ σ12)) fun σ17 => letT (nw σ17 101 (62 : Int32).toNatClampNeg) fun σ19 => gdT (okO σ19 v0R 6) <| letT (sR σ19 v0R 6 (aZ σ17)) fun σ22 => letT (nw σ22 101 (62 : Int32).toNatClampNeg) fun σ24 => gdT (okO σ24 v0R 6) <| letT (sR σ24 v0R 7 (aZ σ22)) fun σ27 => letT (nw σ27 101 (62 : Int32).toNatClampNeg) fun σ29 => gdT (okO σ29 v0R 6) <| letT (sR σ29 v0R 8 (aZ σ27)) fun σ32 => letT (nw σ32 101 (3 : Int32).toNatClampNeg) fun σ34 => gdT (okO σ34 v0R 6) <| letT (sR σ34 v0R 9 (aZ σ32)) fun σ37 => letT (nw σ37 101 (3 : Int32).toNatClampNeg) fun σ39 => gdT (okO σ39 v0R 6) <| letT (sR σ39 v0R 10 (aZ σ37)) fun σ42 => letT (nw σ42 101 (3 : Int32).toNatClampNeg) fun σ44 => gdT (okO σ44 v0R 6) <| letT (sR σ44 v0R 11 (aZ σ42)) fun σ47 => gdT (okO σ47 (aR σ47 v0R 11) 101) <| bndT (M_JArr_fill2 (aR σ47 v0R 11) ((-1) : Int32) σ47) fun _ σ51 => letT (nw σ51 101 (60 : Int32).toNatClampNeg) fun σ52 => gdT (okO σ52 v0R 6) <| letT (sR σ52 v0R 12 (aZ σ51)) fun σ55 => letT (sI σ55 v0R 15 ((-1) : Int32)) fun σ57 => .inr (some ((), σ57))
noncomputable def F_Ch_init : S_Ch_init → S_Ch_init ⊕ Option (Unit × AM) := fun s => match s.1 with
  | _ => T_Ch_init_0 (s.2.1) (s.2.2.1) (s.2.2.2.1) (s.2.2.2.2.1) (s.2.2.2.2.2.1) (s.2.2.2.2.2.2)
noncomputable def L_Ch_init_0 (v0R : Nat) (v1R : Nat) (v2R : Nat) (v3R : Nat) (v4R : Nat) (σ : AM) : Option (Unit × AM) := lp F_Ch_init (0, v0R, v1R, v2R, v3R, v4R, σ)
set_option maxRecDepth 20000 in
theorem E_Ch_init_0 (v0R : Nat) (v1R : Nat) (v2R : Nat) (v3R : Nat) (v4R : Nat) (σ : AM) : L_Ch_init_0 v0R v1R v2R v3R v4R σ = (gd (okO σ v0R 6) <| gd (okO σ v1R 1) <| letT (sR σ v0R 0 v1R) fun σ3 => gd (okO σ3 v2R 3) <| letT (sR σ3 v0R 1 v2R) fun σ6 => gd (okO σ6 v3R 4) <| letT (sR σ6 v0R 2 v3R) fun σ9 => gd (okO σ9 v4R 5) <| letT (sR σ9 v0R 3 v4R) fun σ12 => letT (nw σ12 102 (15 : Int32).toNatClampNeg) fun σ14 => gd (okO σ14 v0R 6) <| letT (sR σ14 v0R 4 (aZ σ12)) fun σ17 => letT (nw σ17 101 (62 : Int32).toNatClampNeg) fun σ19 => gd (okO σ19 v0R 6) <| letT (sR σ19 v0R 6 (aZ σ17)) fun σ22 => letT (nw σ22 101 (62 : Int32).toNatClampNeg) fun σ24 => gd (okO σ24 v0R 6) <| letT (sR σ24 v0R 7 (aZ σ22)) fun σ27 => letT (nw σ27 101 (62 : Int32).toNatClampNeg) fun σ29 => gd (okO σ29 v0R 6) <| letT (sR σ29 v0R 8 (aZ σ27)) fun σ32 => letT (nw σ32 101 (3 : Int32).toNatClampNeg) fun σ34 => gd (okO σ34 v0R 6) <| letT (sR σ34 v0R 9 (aZ σ32)) fun σ37 => letT (nw σ37 101 (3 : Int32).toNatClampNeg) fun σ39 => gd (okO σ39 v0R 6) <| letT (sR σ39 v0R 10 (aZ σ37)) fun σ42 => letT (nw σ42 101 (3 : Int32).toNatClampNeg) fun σ44 => gd (okO σ44 v0R 6) <| letT (sR σ44 v0R 11 (aZ σ42)) fun σ47 => gd (okO σ47 (aR σ47 v0R 11) 101) <| bnd (M_JArr_fill2 (aR σ47 v0R 11) ((-1) : Int32) σ47) fun _ σ51 => letT (nw σ51 101 (60 : Int32).toNatClampNeg) fun σ52 => gd (okO σ52 v0R 6) <| letT (sR σ52 v0R 12 (aZ σ51)) fun σ55 => letT (sI σ55 v0R 15 ((-1) : Int32)) fun σ57 => (some ((), σ57))) := by
  unfold L_Ch_init_0
  rw [lp_eq]
  show lpK (lp F_Ch_init) (T_Ch_init_0 v0R v1R v2R v3R v4R σ) = _
  unfold T_Ch_init_0
  simp only [lpK_ite, lq_inl, lq_inr, lpK_bnd, lpK_gd, lq_let]
  try rfl
noncomputable def M_Ch_init (v0R : Nat) (v1R : Nat) (v2R : Nat) (v3R : Nat) (v4R : Nat) (σ : AM) : Option (Unit × AM) := mw σ (L_Ch_init_0 v0R v1R v2R v3R v4R σ)
def I_Ch_init (G : GX) (p : Program) (l : Launch) (e : Env) (s : State) (m : MethodId) (args : Array Value) (below : List Frame) (meth : Method) (c : Code) (z0 u0 n : Nat) : Prop :=
  (∀ (v0R : Nat) (v1R : Nat) (v2R : Nat) (v3R : Nat) (v4R : Nat) (σ : AM), VX (QM eV G args s below z0 u0) G p l e s m args below meth c 1 z0 u0 5 (lpn F_Ch_init n (0, v0R, v1R, v2R, v3R, v4R, σ)) 0 [(0, .ref v0R), (1, .ref v1R), (2, .ref v2R), (3, .ref v3R), (4, .ref v4R)] [] σ)
set_option maxRecDepth 20000 in
theorem s_Ch_init_0 {G : GX} {p : Program} {l : Launch} {e : Env} {s : State} {m : MethodId} {args : Array Value} {below : List Frame} {meth : Method} {c : Code} {z0 u0 n : Nat} (C : Cx G p s m args meth c prog_3_method_1_code 5 "BellPlate$Chooser" ((none))) (hin : meth.name = "<init>") (IH : I_Ch_init G p l e s m args below meth c z0 u0 n) (v0R : Nat) (v1R : Nat) (v2R : Nat) (v3R : Nat) (v4R : Nat) (σ : AM) : VX (QM eV G args s below z0 u0) G p l e s m args below meth c 1 z0 u0 5 (lpK (lpn F_Ch_init n) (T_Ch_init_0 v0R v1R v2R v3R v4R σ)) 0 [(0, .ref v0R), (1, .ref v1R), (2, .ref v2R), (3, .ref v3R), (4, .ref v4R)] [] σ := by
  unfold T_Ch_init_0
  refine x_aload_n C d_Ch_init_0 0 rfl ?_
  refine x_gd (fun h1 => ?_)
  refine x_obj C (okO_iff.mp h1) w375 w153 w154 (by decide) (Nat.le_of_ble_eq_true rfl) d_Ch_init_1 ?_
  refine x_aload_n C d_Ch_init_4 0 rfl ?_
  refine x_aload_n C d_Ch_init_5 1 rfl ?_
  refine x_gd (fun h2 => ?_)
  refine x_putRF (k := 0) (kv := 1) C (okO_iff.mp h1) rfl j5_ok y5_ok n5_ok (by decide) rfl (okO_iff.mp h2) (by decide) rfl hin rfl rfl rfl w379 d_Ch_init_6 ?_
  refine x_letS (fun σ3 e4 => ?_)
  refine x_aload_n C d_Ch_init_9 0 rfl ?_
  refine x_aload_n C d_Ch_init_10 2 rfl ?_
  refine x_gd (fun h5 => ?_)
  refine x_putRF (k := 1) (kv := 3) C (by first | exact (okO_iff.mp h1) | (rw [e4]; exact (okO_iff.mp h1))) rfl j5_ok y5_ok n5_ok (by decide) rfl (okO_iff.mp h5) (by decide) rfl hin rfl rfl rfl w380 d_Ch_init_11 ?_
  refine x_letS (fun σ6 e7 => ?_)
  refine x_aload_n C d_Ch_init_14 0 rfl ?_
  refine x_aload_n C d_Ch_init_15 3 rfl ?_
  refine x_gd (fun h8 => ?_)
  refine x_putRF (k := 2) (kv := 4) C (by first | exact (okO_iff.mp h1) | (rw [e7, e4]; exact (okO_iff.mp h1))) rfl j5_ok y5_ok n5_ok (by decide) rfl (okO_iff.mp h8) (by decide) rfl hin rfl rfl rfl w381 d_Ch_init_16 ?_
  refine x_letS (fun σ9 e10 => ?_)
  refine x_aload_n C d_Ch_init_19 0 rfl ?_
  refine x_aload C d_Ch_init_20 4 rfl ?_
  refine x_gd (fun h11 => ?_)
  refine x_putRF (k := 3) (kv := 5) C (by first | exact (okO_iff.mp h1) | (rw [e10, e7, e4]; exact (okO_iff.mp h1))) rfl j5_ok y5_ok n5_ok (by decide) rfl (okO_iff.mp h11) (by decide) rfl hin rfl rfl rfl w382 d_Ch_init_22 ?_
  refine x_letS (fun σ12 e13 => ?_)
  refine x_aload_n C d_Ch_init_25 0 rfl ?_
  refine x_bipush (v := (15 : Int32)) C d_Ch_init_26 (by decide) ?_
  refine x_newaJ C w202 (by decide) (by decide) d_Ch_init_28 ?_
  refine x_letS (fun σ14 e15 => ?_)
  refine x_gd (fun h16 => ?_)
  refine x_putRF (k := 4) (kv := 102) C (okO_iff.mp h16) rfl j5_ok y5_ok n5_ok (by decide) rfl (fr_K e15) (by decide) rfl hin rfl rfl rfl w383 d_Ch_init_30 ?_
  refine x_letS (fun σ17 e18 => ?_)
  refine x_aload_n C d_Ch_init_33 0 rfl ?_
  refine x_bipush (v := (62 : Int32)) C d_Ch_init_34 (by decide) ?_
  refine x_newaI C w203 (by decide) (by decide) d_Ch_init_36 ?_
  refine x_letS (fun σ19 e20 => ?_)
  refine x_gd (fun h21 => ?_)
  refine x_putRF (k := 6) (kv := 101) C (okO_iff.mp h21) rfl j5_ok y5_ok n5_ok (by decide) rfl (fr_K e20) (by decide) rfl hin rfl rfl rfl w385 d_Ch_init_38 ?_
  refine x_letS (fun σ22 e23 => ?_)
  refine x_aload_n C d_Ch_init_41 0 rfl ?_
  refine x_bipush (v := (62 : Int32)) C d_Ch_init_42 (by decide) ?_
  refine x_newaI C w203 (by decide) (by decide) d_Ch_init_44 ?_
  refine x_letS (fun σ24 e25 => ?_)
  refine x_gd (fun h26 => ?_)
  refine x_putRF (k := 7) (kv := 101) C (okO_iff.mp h26) rfl j5_ok y5_ok n5_ok (by decide) rfl (fr_K e25) (by decide) rfl hin rfl rfl rfl w386 d_Ch_init_46 ?_
  refine x_letS (fun σ27 e28 => ?_)
  refine x_aload_n C d_Ch_init_49 0 rfl ?_
  refine x_bipush (v := (62 : Int32)) C d_Ch_init_50 (by decide) ?_
  refine x_newaI C w203 (by decide) (by decide) d_Ch_init_52 ?_
  refine x_letS (fun σ29 e30 => ?_)
  refine x_gd (fun h31 => ?_)
  refine x_putRF (k := 8) (kv := 101) C (okO_iff.mp h31) rfl j5_ok y5_ok n5_ok (by decide) rfl (fr_K e30) (by decide) rfl hin rfl rfl rfl w387 d_Ch_init_54 ?_
  refine x_letS (fun σ32 e33 => ?_)
  refine x_aload_n C d_Ch_init_57 0 rfl ?_
  refine x_iconst (v := (3 : Int32)) C d_Ch_init_58 (by decide) ?_
  refine x_newaI C w203 (by decide) (by decide) d_Ch_init_59 ?_
  refine x_letS (fun σ34 e35 => ?_)
  refine x_gd (fun h36 => ?_)
  refine x_putRF (k := 9) (kv := 101) C (okO_iff.mp h36) rfl j5_ok y5_ok n5_ok (by decide) rfl (fr_K e35) (by decide) rfl hin rfl rfl rfl w388 d_Ch_init_61 ?_
  refine x_letS (fun σ37 e38 => ?_)
  refine x_aload_n C d_Ch_init_64 0 rfl ?_
  refine x_iconst (v := (3 : Int32)) C d_Ch_init_65 (by decide) ?_
  refine x_newaI C w203 (by decide) (by decide) d_Ch_init_66 ?_
  refine x_letS (fun σ39 e40 => ?_)
  refine x_gd (fun h41 => ?_)
  refine x_putRF (k := 10) (kv := 101) C (okO_iff.mp h41) rfl j5_ok y5_ok n5_ok (by decide) rfl (fr_K e40) (by decide) rfl hin rfl rfl rfl w389 d_Ch_init_68 ?_
  refine x_letS (fun σ42 e43 => ?_)
  refine x_aload_n C d_Ch_init_71 0 rfl ?_
  refine x_iconst (v := (3 : Int32)) C d_Ch_init_72 (by decide) ?_
  refine x_newaI C w203 (by decide) (by decide) d_Ch_init_73 ?_
  refine x_letS (fun σ44 e45 => ?_)
  refine x_gd (fun h46 => ?_)
  refine x_putRF (k := 11) (kv := 101) C (okO_iff.mp h46) rfl j5_ok y5_ok n5_ok (by decide) rfl (fr_K e45) (by decide) rfl hin rfl rfl rfl w390 d_Ch_init_75 ?_
  refine x_letS (fun σ47 e48 => ?_)
  refine x_aload_n C d_Ch_init_78 0 rfl ?_
  refine x_gd (fun h49 => ?_)
  refine x_getR (k := 11) (kv := 101) C (by first | exact (okO_iff.mp h46) | (rw [e48]; exact (okO_iff.mp h46))) rfl j5_ok (by decide) rfl (okO_iff.mp h49) (by decide) w390 d_Ch_init_79 ?_
  refine x_iconst (v := ((-1) : Int32)) C d_Ch_init_82 (by decide) ?_
  refine x_callSV (As := [.ref (aR σ47 v0R 11), .int ((-1) : Int32)]) C (c_JArr_fill2 G l (aR σ47 v0R 11) ((-1) : Int32) σ47) w377 w376 w378 w127 k_JArr_fill2 rfl (by decide) (by decide) rfl (Nat.le_of_ble_eq_true rfl) d_Ch_init_83 (fun r50 σ51 => ?_)
  refine x_aload_n C d_Ch_init_86 0 rfl ?_
  refine x_bipush (v := (60 : Int32)) C d_Ch_init_87 (by decide) ?_
  refine x_newaI C w203 (by decide) (by decide) d_Ch_init_89 ?_
  refine x_letS (fun σ52 e53 => ?_)
  refine x_gd (fun h54 => ?_)
  refine x_putRF (k := 12) (kv := 101) C (okO_iff.mp h54) rfl j5_ok y5_ok n5_ok (by decide) rfl (fr_K e53) (by decide) rfl hin rfl rfl rfl w391 d_Ch_init_91 ?_
  refine x_letS (fun σ55 e56 => ?_)
  refine x_aload_n C d_Ch_init_94 0 rfl ?_
  refine x_iconst (v := ((-1) : Int32)) C d_Ch_init_95 (by decide) ?_
  refine x_putI (k := 15) C (by first | exact (okO_iff.mp h54) | (rw [e56]; exact (okO_iff.mp h54))) rfl j5_ok y5_ok n5_ok (by decide) rfl rfl rfl rfl w394 d_Ch_init_96 ?_
  refine x_letS (fun σ57 e58 => ?_)
  exact x_vret C d_Ch_init_99
theorem i_Ch_init {G : GX} {p : Program} {l : Launch} {e : Env} {s : State} {m : MethodId} {args : Array Value} {below : List Frame} {meth : Method} {c : Code} {z0 u0 : Nat} (C : Cx G p s m args meth c prog_3_method_1_code 5 "BellPlate$Chooser" ((none))) (hin : meth.name = "<init>") (n : Nat) : I_Ch_init G p l e s m args below meth c z0 u0 n := by
  induction n with
  | zero => exact fun _ _ _ _ _ _ => x_none
  | succ n IH => exact fun v0R v1R v2R v3R v4R σ => s_Ch_init_0 C hin IH v0R v1R v2R v3R v4R σ
theorem c_Ch_init (G : GX) (l : Launch) (v0R : Nat) (v1R : Nat) (v2R : Nat) (v3R : Nat) (v4R : Nat) (σ : AM) : CT eV G l 1 y_Ch_init prog_3_method_1_code 5 (none) [.ref v0R, .ref v1R, .ref v2R, .ref v3R, .ref v4R] σ (M_Ch_init v0R v1R v2R v3R v4R σ) := by
  refine ct_of (by decide +kernel) (Nat.le_of_ble_eq_true rfl) (fun p e s m args below meth c C hin => ?_)
  refine x_lve (lv' := [(0, .ref v0R), (1, .ref v1R), (2, .ref v2R), (3, .ref v3R), (4, .ref v4R)]) rfl ?_
  intro r σ' h
  obtain ⟨n, hn⟩ := (lp_iff _ _ _).mp h
  exact (i_Ch_init C hin n) v0R v1R v2R v3R v4R σ r σ' hn
/-! BellPlate$Chooser.isWay(I)Z -/
abbrev y_Ch_isWay : MethodName := ⟨"BellPlate$Chooser", "isWay", "(I)Z"⟩
theorem k_Ch_isWay : y_Ch_isWay.cls ≠ "java/lang/invoke/MethodHandle" ∧ y_Ch_isWay.cls ≠ "java/lang/invoke/VarHandle" ∧ (parseMethodDescriptor y_Ch_isWay.desc).map (fun d => d.parameters.length) = some 1 := by decide +kernel
theorem d_Ch_isWay_0 : decode prog_3_method_2_code 0 = .ok (.iload_n 0, 1) := by decide +kernel
theorem d_Ch_isWay_1 : decode prog_3_method_2_code 1 = .ok (.ifCond .lt 12, 3) := by decide +kernel
theorem d_Ch_isWay_4 : decode prog_3_method_2_code 4 = .ok (.iload_n 0, 1) := by decide +kernel
theorem d_Ch_isWay_5 : decode prog_3_method_2_code 5 = .ok (.iconst 3, 1) := by decide +kernel
theorem d_Ch_isWay_6 : decode prog_3_method_2_code 6 = .ok (.if_icmp .ge 7, 3) := by decide +kernel
theorem d_Ch_isWay_9 : decode prog_3_method_2_code 9 = .ok (.iconst 1, 1) := by decide +kernel
theorem d_Ch_isWay_10 : decode prog_3_method_2_code 10 = .ok (.goto 4, 3) := by decide +kernel
theorem d_Ch_isWay_13 : decode prog_3_method_2_code 13 = .ok (.iconst 0, 1) := by decide +kernel
theorem d_Ch_isWay_14 : decode prog_3_method_2_code 14 = .ok (.ireturn, 1) := by decide +kernel
abbrev S_Ch_isWay : Type := Nat × Int32 × Int32 × AM
noncomputable def T_Ch_isWay_0 (v0I : Int32) (σ : AM) : S_Ch_isWay ⊕ Option (Int32 × AM) :=
  if v0I < 0 then (.inl (1, 0, 0, σ)) else (if v0I < (3 : Int32) then (.inl (2, 0, (1 : Int32), σ)) else (.inl (1, 0, 0, σ)))
noncomputable def T_Ch_isWay_1  (σ : AM) : S_Ch_isWay ⊕ Option (Int32 × AM) :=
  .inl (2, 0, (0 : Int32), σ)
noncomputable def T_Ch_isWay_2 (s0I : Int32) (σ : AM) : S_Ch_isWay ⊕ Option (Int32 × AM) :=
  gdT (isB s0I) <| .inr (some (s0I, σ))
noncomputable def F_Ch_isWay : S_Ch_isWay → S_Ch_isWay ⊕ Option (Int32 × AM) := fun s => match s.1 with
  | 0 => T_Ch_isWay_0 (s.2.1) (s.2.2.2)
  | 1 => T_Ch_isWay_1  (s.2.2.2)
  | _ => T_Ch_isWay_2 (s.2.2.1) (s.2.2.2)
noncomputable def L_Ch_isWay_0 (v0I : Int32) (σ : AM) : Option (Int32 × AM) := lp F_Ch_isWay (0, v0I, 0, σ)
noncomputable def L_Ch_isWay_1  (σ : AM) : Option (Int32 × AM) := lp F_Ch_isWay (1, 0, 0, σ)
noncomputable def L_Ch_isWay_2 (s0I : Int32) (σ : AM) : Option (Int32 × AM) := lp F_Ch_isWay (2, 0, s0I, σ)
set_option maxRecDepth 20000 in
theorem E_Ch_isWay_0 (v0I : Int32) (σ : AM) : L_Ch_isWay_0 v0I σ = (if v0I < 0 then (L_Ch_isWay_1 σ) else (if v0I < (3 : Int32) then (L_Ch_isWay_2 ((1 : Int32)) σ) else (L_Ch_isWay_1 σ))) := by
  unfold L_Ch_isWay_0
  rw [lp_eq]
  show lpK (lp F_Ch_isWay) (T_Ch_isWay_0 v0I σ) = _
  unfold T_Ch_isWay_0
  simp only [lpK_ite, lq_inl, lq_inr, lpK_bnd, lpK_gd, lq_let]
  try rfl
set_option maxRecDepth 20000 in
theorem E_Ch_isWay_1  (σ : AM) : L_Ch_isWay_1  σ = (L_Ch_isWay_2 ((0 : Int32)) σ) := by
  unfold L_Ch_isWay_1
  rw [lp_eq]
  show lpK (lp F_Ch_isWay) (T_Ch_isWay_1  σ) = _
  unfold T_Ch_isWay_1
  simp only [lpK_ite, lq_inl, lq_inr, lpK_bnd, lpK_gd, lq_let]
  try rfl
set_option maxRecDepth 20000 in
theorem E_Ch_isWay_2 (s0I : Int32) (σ : AM) : L_Ch_isWay_2 s0I σ = (gd (isB s0I) <| (some (s0I, σ))) := by
  unfold L_Ch_isWay_2
  rw [lp_eq]
  show lpK (lp F_Ch_isWay) (T_Ch_isWay_2 s0I σ) = _
  unfold T_Ch_isWay_2
  simp only [lpK_ite, lq_inl, lq_inr, lpK_bnd, lpK_gd, lq_let]
  try rfl
noncomputable def M_Ch_isWay (v0I : Int32) (σ : AM) : Option (Int32 × AM) := mw σ (L_Ch_isWay_0 v0I σ)
def I_Ch_isWay (G : GX) (p : Program) (l : Launch) (e : Env) (s : State) (m : MethodId) (args : Array Value) (below : List Frame) (meth : Method) (c : Code) (z0 u0 n : Nat) : Prop :=
  (∀ (v0I : Int32) (σ : AM), VX (QM eI G args s below z0 u0) G p l e s m args below meth c 0 z0 u0 1 (lpn F_Ch_isWay n (0, v0I, 0, σ)) 0 [(0, .int v0I)] [] σ) ∧
  (∀ (σ : AM), VX (QM eI G args s below z0 u0) G p l e s m args below meth c 0 z0 u0 1 (lpn F_Ch_isWay n (1, 0, 0, σ)) 13 [] [] σ) ∧
  (∀ (s0I : Int32) (σ : AM), VX (QM eI G args s below z0 u0) G p l e s m args below meth c 0 z0 u0 1 (lpn F_Ch_isWay n (2, 0, s0I, σ)) 14 [] [.int s0I] σ)
set_option maxRecDepth 20000 in
theorem s_Ch_isWay_0 {G : GX} {p : Program} {l : Launch} {e : Env} {s : State} {m : MethodId} {args : Array Value} {below : List Frame} {meth : Method} {c : Code} {z0 u0 n : Nat} (C : Cx G p s m args meth c prog_3_method_2_code 1 "BellPlate$Chooser" ((some FieldType.boolean))) (IH : I_Ch_isWay G p l e s m args below meth c z0 u0 n) (v0I : Int32) (σ : AM) : VX (QM eI G args s below z0 u0) G p l e s m args below meth c 0 z0 u0 1 (lpK (lpn F_Ch_isWay n) (T_Ch_isWay_0 v0I σ)) 0 [(0, .int v0I)] [] σ := by
  unfold T_Ch_isWay_0
  refine x_iload_n C d_Ch_isWay_0 0 rfl ?_
  refine x_if_lt (tgt := 13) C d_Ch_isWay_1 (by decide) (fun _ => ?_) (fun _ => ?_)
  · refine x_lv [] rfl ?_
    exact IH.2.1  (σ)
  · refine x_iload_n C d_Ch_isWay_4 0 rfl ?_
    refine x_iconst (v := (3 : Int32)) C d_Ch_isWay_5 (by decide) ?_
    refine x_icmp_ge (tgt := 13) C d_Ch_isWay_6 (by decide) (fun _ => ?_) (fun _ => ?_)
    · refine x_iconst (v := (1 : Int32)) C d_Ch_isWay_9 (by decide) ?_
      refine x_goto (tgt := 14) C d_Ch_isWay_10 (by decide) ?_
      refine x_lv [] rfl ?_
      exact IH.2.2 ((1 : Int32)) (σ)
    · refine x_lv [] rfl ?_
      exact IH.2.1  (σ)
set_option maxRecDepth 20000 in
theorem s_Ch_isWay_1 {G : GX} {p : Program} {l : Launch} {e : Env} {s : State} {m : MethodId} {args : Array Value} {below : List Frame} {meth : Method} {c : Code} {z0 u0 n : Nat} (C : Cx G p s m args meth c prog_3_method_2_code 1 "BellPlate$Chooser" ((some FieldType.boolean))) (IH : I_Ch_isWay G p l e s m args below meth c z0 u0 n)  (σ : AM) : VX (QM eI G args s below z0 u0) G p l e s m args below meth c 0 z0 u0 1 (lpK (lpn F_Ch_isWay n) (T_Ch_isWay_1  σ)) 13 [] [] σ := by
  unfold T_Ch_isWay_1
  refine x_iconst (v := (0 : Int32)) C d_Ch_isWay_13 (by decide) ?_
  exact IH.2.2 ((0 : Int32)) (σ)
set_option maxRecDepth 20000 in
theorem s_Ch_isWay_2 {G : GX} {p : Program} {l : Launch} {e : Env} {s : State} {m : MethodId} {args : Array Value} {below : List Frame} {meth : Method} {c : Code} {z0 u0 n : Nat} (C : Cx G p s m args meth c prog_3_method_2_code 1 "BellPlate$Chooser" ((some FieldType.boolean))) (IH : I_Ch_isWay G p l e s m args below meth c z0 u0 n) (s0I : Int32) (σ : AM) : VX (QM eI G args s below z0 u0) G p l e s m args below meth c 0 z0 u0 1 (lpK (lpn F_Ch_isWay n) (T_Ch_isWay_2 s0I σ)) 14 [] [.int s0I] σ := by
  unfold T_Ch_isWay_2
  refine x_gd (fun h1 => ?_)
  exact x_zret C (isB_narrow h1) d_Ch_isWay_14
theorem i_Ch_isWay {G : GX} {p : Program} {l : Launch} {e : Env} {s : State} {m : MethodId} {args : Array Value} {below : List Frame} {meth : Method} {c : Code} {z0 u0 : Nat} (C : Cx G p s m args meth c prog_3_method_2_code 1 "BellPlate$Chooser" ((some FieldType.boolean))) (n : Nat) : I_Ch_isWay G p l e s m args below meth c z0 u0 n := by
  induction n with
  | zero => exact ⟨fun _ _ => x_none, fun _ => x_none, fun _ _ => x_none⟩
  | succ n IH => exact ⟨fun v0I σ => s_Ch_isWay_0 C IH v0I σ, fun σ => s_Ch_isWay_1 C IH σ, fun s0I σ => s_Ch_isWay_2 C IH s0I σ⟩
theorem c_Ch_isWay (G : GX) (l : Launch) (v0I : Int32) (σ : AM) : CT eI G l 0 y_Ch_isWay prog_3_method_2_code 1 ((some FieldType.boolean)) [.int v0I] σ (M_Ch_isWay v0I σ) := by
  refine ct_of (by decide +kernel) (Nat.le_of_ble_eq_true rfl) (fun p e s m args below meth c C hin => ?_)
  refine x_lve (lv' := [(0, .int v0I)]) rfl ?_
  intro r σ' h
  obtain ⟨n, hn⟩ := (lp_iff _ _ _).mp h
  exact (i_Ch_isWay C n).1 v0I σ r σ' hn
/-! BellPlate$Chooser.addTimes(JI)V -/
abbrev y_Ch_addTimes : MethodName := ⟨"BellPlate$Chooser", "addTimes", "(JI)V"⟩
theorem k_Ch_addTimes : y_Ch_addTimes.cls ≠ "java/lang/invoke/MethodHandle" ∧ y_Ch_addTimes.cls ≠ "java/lang/invoke/VarHandle" ∧ (parseMethodDescriptor y_Ch_addTimes.desc).map (fun d => d.parameters.length) = some 2 := by decide +kernel
theorem d_Ch_addTimes_0 : decode prog_3_method_5_code 0 = .ok (.iconst 0, 1) := by decide +kernel
theorem d_Ch_addTimes_1 : decode prog_3_method_5_code 1 = .ok (.istore 4, 2) := by decide +kernel
theorem d_Ch_addTimes_3 : decode prog_3_method_5_code 3 = .ok (.iload 4, 2) := by decide +kernel
theorem d_Ch_addTimes_5 : decode prog_3_method_5_code 5 = .ok (.bipush 15, 2) := by decide +kernel
theorem d_Ch_addTimes_7 : decode prog_3_method_5_code 7 = .ok (.if_icmp .ge 35, 3) := by decide +kernel
theorem d_Ch_addTimes_10 : decode prog_3_method_5_code 10 = .ok (.iload_n 3, 1) := by decide +kernel
theorem d_Ch_addTimes_11 : decode prog_3_method_5_code 11 = .ok (.iload 4, 2) := by decide +kernel
theorem d_Ch_addTimes_13 : decode prog_3_method_5_code 13 = .ok (.ishr, 1) := by decide +kernel
theorem d_Ch_addTimes_14 : decode prog_3_method_5_code 14 = .ok (.ifCond .eq 28, 3) := by decide +kernel
theorem d_Ch_addTimes_17 : decode prog_3_method_5_code 17 = .ok (.iload_n 3, 1) := by decide +kernel
theorem d_Ch_addTimes_18 : decode prog_3_method_5_code 18 = .ok (.iload 4, 2) := by decide +kernel
theorem d_Ch_addTimes_20 : decode prog_3_method_5_code 20 = .ok (.ishr, 1) := by decide +kernel
theorem d_Ch_addTimes_21 : decode prog_3_method_5_code 21 = .ok (.iconst 1, 1) := by decide +kernel
theorem d_Ch_addTimes_22 : decode prog_3_method_5_code 22 = .ok (.iand, 1) := by decide +kernel
theorem d_Ch_addTimes_23 : decode prog_3_method_5_code 23 = .ok (.ifCond .eq 13, 3) := by decide +kernel
theorem d_Ch_addTimes_26 : decode prog_3_method_5_code 26 = .ok (.aload_n 0, 1) := by decide +kernel
theorem d_Ch_addTimes_27 : decode prog_3_method_5_code 27 = .ok (.getfield 27, 3) := by decide +kernel
theorem d_Ch_addTimes_30 : decode prog_3_method_5_code 30 = .ok (.lload_n 1, 1) := by decide +kernel
theorem d_Ch_addTimes_31 : decode prog_3_method_5_code 31 = .ok (.iload 4, 2) := by decide +kernel
theorem d_Ch_addTimes_33 : decode prog_3_method_5_code 33 = .ok (.invokestatic 98, 3) := by decide +kernel
theorem d_Ch_addTimes_36 : decode prog_3_method_5_code 36 = .ok (.iinc 4 1, 3) := by decide +kernel
theorem d_Ch_addTimes_39 : decode prog_3_method_5_code 39 = .ok (.goto (-36), 3) := by decide +kernel
theorem d_Ch_addTimes_42 : decode prog_3_method_5_code 42 = .ok (.return_, 1) := by decide +kernel
abbrev S_Ch_addTimes : Type := Nat × Nat × Int64 × Int32 × Int32 × AM
noncomputable def T_Ch_addTimes_0 (v0R : Nat) (v1J : Int64) (v3I : Int32) (σ : AM) : S_Ch_addTimes ⊕ Option (Unit × AM) :=
  .inl (1, v0R, v1J, v3I, (0 : Int32), σ)
noncomputable def T_Ch_addTimes_1 (v0R : Nat) (v1J : Int64) (v3I : Int32) (v4I : Int32) (σ : AM) : S_Ch_addTimes ⊕ Option (Unit × AM) :=
  if v4I < (15 : Int32) then (if (v3I >>> (v4I &&& 31)) = 0 then (.inl (3, 0, 0, 0, 0, σ)) else (if ((v3I >>> (v4I &&& 31)) &&& (1 : Int32)) = 0 then (.inl (2, v0R, v1J, v3I, v4I, σ)) else (gdT (okO σ v0R 6) <| gdT (okO σ (aR σ v0R 4) 102) <| bndT (M_St_addTo (aR σ v0R 4) v1J v4I σ) fun _ σ4 => .inl (2, v0R, v1J, v3I, v4I, σ4)))) else (.inl (3, 0, 0, 0, 0, σ))
noncomputable def T_Ch_addTimes_2 (v0R : Nat) (v1J : Int64) (v3I : Int32) (v4I : Int32) (σ : AM) : S_Ch_addTimes ⊕ Option (Unit × AM) :=
  .inl (1, v0R, v1J, v3I, v4I + (1 : Int32), σ)
noncomputable def T_Ch_addTimes_3  (σ : AM) : S_Ch_addTimes ⊕ Option (Unit × AM) :=
  .inr (some ((), σ))
noncomputable def F_Ch_addTimes : S_Ch_addTimes → S_Ch_addTimes ⊕ Option (Unit × AM) := fun s => match s.1 with
  | 0 => T_Ch_addTimes_0 (s.2.1) (s.2.2.1) (s.2.2.2.1) (s.2.2.2.2.2)
  | 1 => T_Ch_addTimes_1 (s.2.1) (s.2.2.1) (s.2.2.2.1) (s.2.2.2.2.1) (s.2.2.2.2.2)
  | 2 => T_Ch_addTimes_2 (s.2.1) (s.2.2.1) (s.2.2.2.1) (s.2.2.2.2.1) (s.2.2.2.2.2)
  | _ => T_Ch_addTimes_3  (s.2.2.2.2.2)
noncomputable def L_Ch_addTimes_0 (v0R : Nat) (v1J : Int64) (v3I : Int32) (σ : AM) : Option (Unit × AM) := lp F_Ch_addTimes (0, v0R, v1J, v3I, 0, σ)
noncomputable def L_Ch_addTimes_1 (v0R : Nat) (v1J : Int64) (v3I : Int32) (v4I : Int32) (σ : AM) : Option (Unit × AM) := lp F_Ch_addTimes (1, v0R, v1J, v3I, v4I, σ)
noncomputable def L_Ch_addTimes_2 (v0R : Nat) (v1J : Int64) (v3I : Int32) (v4I : Int32) (σ : AM) : Option (Unit × AM) := lp F_Ch_addTimes (2, v0R, v1J, v3I, v4I, σ)
noncomputable def L_Ch_addTimes_3  (σ : AM) : Option (Unit × AM) := lp F_Ch_addTimes (3, 0, 0, 0, 0, σ)
set_option maxRecDepth 20000 in
theorem E_Ch_addTimes_0 (v0R : Nat) (v1J : Int64) (v3I : Int32) (σ : AM) : L_Ch_addTimes_0 v0R v1J v3I σ = (L_Ch_addTimes_1 v0R v1J v3I ((0 : Int32)) σ) := by
  unfold L_Ch_addTimes_0
  rw [lp_eq]
  show lpK (lp F_Ch_addTimes) (T_Ch_addTimes_0 v0R v1J v3I σ) = _
  unfold T_Ch_addTimes_0
  simp only [lpK_ite, lq_inl, lq_inr, lpK_bnd, lpK_gd, lq_let]
  try rfl
set_option maxRecDepth 20000 in
theorem E_Ch_addTimes_1 (v0R : Nat) (v1J : Int64) (v3I : Int32) (v4I : Int32) (σ : AM) : L_Ch_addTimes_1 v0R v1J v3I v4I σ = (if v4I < (15 : Int32) then (if (v3I >>> (v4I &&& 31)) = 0 then (L_Ch_addTimes_3 σ) else (if ((v3I >>> (v4I &&& 31)) &&& (1 : Int32)) = 0 then (L_Ch_addTimes_2 v0R v1J v3I v4I σ) else (gd (okO σ v0R 6) <| gd (okO σ (aR σ v0R 4) 102) <| bnd (M_St_addTo (aR σ v0R 4) v1J v4I σ) fun _ σ4 => L_Ch_addTimes_2 v0R v1J v3I v4I σ4))) else (L_Ch_addTimes_3 σ)) := by
  unfold L_Ch_addTimes_1
  rw [lp_eq]
  show lpK (lp F_Ch_addTimes) (T_Ch_addTimes_1 v0R v1J v3I v4I σ) = _
  unfold T_Ch_addTimes_1
  simp only [lpK_ite, lq_inl, lq_inr, lpK_bnd, lpK_gd, lq_let]
  try rfl
set_option maxRecDepth 20000 in
theorem E_Ch_addTimes_2 (v0R : Nat) (v1J : Int64) (v3I : Int32) (v4I : Int32) (σ : AM) : L_Ch_addTimes_2 v0R v1J v3I v4I σ = (L_Ch_addTimes_1 v0R v1J v3I (v4I + (1 : Int32)) σ) := by
  unfold L_Ch_addTimes_2
  rw [lp_eq]
  show lpK (lp F_Ch_addTimes) (T_Ch_addTimes_2 v0R v1J v3I v4I σ) = _
  unfold T_Ch_addTimes_2
  simp only [lpK_ite, lq_inl, lq_inr, lpK_bnd, lpK_gd, lq_let]
  try rfl
set_option maxRecDepth 20000 in
theorem E_Ch_addTimes_3  (σ : AM) : L_Ch_addTimes_3  σ = ((some ((), σ))) := by
  unfold L_Ch_addTimes_3
  rw [lp_eq]
  show lpK (lp F_Ch_addTimes) (T_Ch_addTimes_3  σ) = _
  unfold T_Ch_addTimes_3
  simp only [lpK_ite, lq_inl, lq_inr, lpK_bnd, lpK_gd, lq_let]
  try rfl
noncomputable def M_Ch_addTimes (v0R : Nat) (v1J : Int64) (v3I : Int32) (σ : AM) : Option (Unit × AM) := mw σ (L_Ch_addTimes_0 v0R v1J v3I σ)
def I_Ch_addTimes (G : GX) (p : Program) (l : Launch) (e : Env) (s : State) (m : MethodId) (args : Array Value) (below : List Frame) (meth : Method) (c : Code) (z0 u0 n : Nat) : Prop :=
  (∀ (v0R : Nat) (v1J : Int64) (v3I : Int32) (σ : AM), VX (QM eV G args s below z0 u0) G p l e s m args below meth c 1 z0 u0 5 (lpn F_Ch_addTimes n (0, v0R, v1J, v3I, 0, σ)) 0 [(0, .ref v0R), (1, .long v1J), (3, .int v3I)] [] σ) ∧
  (∀ (v0R : Nat) (v1J : Int64) (v3I : Int32) (v4I : Int32) (σ : AM), VX (QM eV G args s below z0 u0) G p l e s m args below meth c 1 z0 u0 5 (lpn F_Ch_addTimes n (1, v0R, v1J, v3I, v4I, σ)) 3 [(0, .ref v0R), (1, .long v1J), (3, .int v3I), (4, .int v4I)] [] σ) ∧
  (∀ (v0R : Nat) (v1J : Int64) (v3I : Int32) (v4I : Int32) (σ : AM), VX (QM eV G args s below z0 u0) G p l e s m args below meth c 1 z0 u0 5 (lpn F_Ch_addTimes n (2, v0R, v1J, v3I, v4I, σ)) 36 [(0, .ref v0R), (1, .long v1J), (3, .int v3I), (4, .int v4I)] [] σ) ∧
  (∀ (σ : AM), VX (QM eV G args s below z0 u0) G p l e s m args below meth c 1 z0 u0 5 (lpn F_Ch_addTimes n (3, 0, 0, 0, 0, σ)) 42 [] [] σ)
set_option maxRecDepth 20000 in
theorem s_Ch_addTimes_0 {G : GX} {p : Program} {l : Launch} {e : Env} {s : State} {m : MethodId} {args : Array Value} {below : List Frame} {meth : Method} {c : Code} {z0 u0 n : Nat} (C : Cx G p s m args meth c prog_3_method_5_code 5 "BellPlate$Chooser" ((none))) (IH : I_Ch_addTimes G p l e s m args below meth c z0 u0 n) (v0R : Nat) (v1J : Int64) (v3I : Int32) (σ : AM) : VX (QM eV G args s below z0 u0) G p l e s m args below meth c 1 z0 u0 5 (lpK (lpn F_Ch_addTimes n) (T_Ch_addTimes_0 v0R v1J v3I σ)) 0 [(0, .ref v0R), (1, .long v1J), (3, .int v3I)] [] σ := by
  unfold T_Ch_addTimes_0
  refine x_iconst (v := (0 : Int32)) C d_Ch_addTimes_0 (by decide) ?_
  refine x_istore (lv' := [(4, .int (0 : Int32)), (0, .ref v0R), (1, .long v1J), (3, .int v3I)]) C d_Ch_addTimes_1 (by decide) rfl ?_
  refine x_lv [1, 2, 3, 0] rfl ?_
  exact IH.2.1 v0R v1J v3I ((0 : Int32)) (σ)
set_option maxRecDepth 20000 in
theorem s_Ch_addTimes_1 {G : GX} {p : Program} {l : Launch} {e : Env} {s : State} {m : MethodId} {args : Array Value} {below : List Frame} {meth : Method} {c : Code} {z0 u0 n : Nat} (C : Cx G p s m args meth c prog_3_method_5_code 5 "BellPlate$Chooser" ((none))) (IH : I_Ch_addTimes G p l e s m args below meth c z0 u0 n) (v0R : Nat) (v1J : Int64) (v3I : Int32) (v4I : Int32) (σ : AM) : VX (QM eV G args s below z0 u0) G p l e s m args below meth c 1 z0 u0 5 (lpK (lpn F_Ch_addTimes n) (T_Ch_addTimes_1 v0R v1J v3I v4I σ)) 3 [(0, .ref v0R), (1, .long v1J), (3, .int v3I), (4, .int v4I)] [] σ := by
  unfold T_Ch_addTimes_1
  refine x_iload C d_Ch_addTimes_3 3 rfl ?_
  refine x_bipush (v := (15 : Int32)) C d_Ch_addTimes_5 (by decide) ?_
  refine x_icmp_ge (tgt := 42) C d_Ch_addTimes_7 (by decide) (fun _ => ?_) (fun _ => ?_)
  · refine x_iload_n C d_Ch_addTimes_10 2 rfl ?_
    refine x_iload C d_Ch_addTimes_11 3 rfl ?_
    refine x_ishr C d_Ch_addTimes_13 ?_
    refine x_if_eq (tgt := 42) C d_Ch_addTimes_14 (by decide) (fun _ => ?_) (fun _ => ?_)
    · refine x_lv [] rfl ?_
      exact IH.2.2.2  (σ)
    · refine x_iload_n C d_Ch_addTimes_17 2 rfl ?_
      refine x_iload C d_Ch_addTimes_18 3 rfl ?_
      refine x_ishr C d_Ch_addTimes_20 ?_
      refine x_iconst (v := (1 : Int32)) C d_Ch_addTimes_21 (by decide) ?_
      refine x_iand C d_Ch_addTimes_22 ?_
      refine x_if_eq (tgt := 36) C d_Ch_addTimes_23 (by decide) (fun _ => ?_) (fun _ => ?_)
      · exact IH.2.2.1 v0R v1J v3I v4I (σ)
      · refine x_aload_n C d_Ch_addTimes_26 0 rfl ?_
        refine x_gd (fun h1 => ?_)
        refine x_gd (fun h2 => ?_)
        refine x_getR (k := 4) (kv := 102) C (okO_iff.mp h1) rfl j5_ok (by decide) rfl (okO_iff.mp h2) (by decide) w383 d_Ch_addTimes_27 ?_
        refine x_lload_n C d_Ch_addTimes_30 1 rfl ?_
        refine x_iload C d_Ch_addTimes_31 3 rfl ?_
        refine x_callSV (As := [.ref (aR σ v0R 4), .long v1J, .int v4I]) C (c_St_addTo G l (aR σ v0R 4) v1J v4I σ) w1170 w1169 w1171 w141 k_St_addTo rfl (by decide) (by decide) rfl (Nat.le_of_ble_eq_true rfl) d_Ch_addTimes_33 (fun r3 σ4 => ?_)
        exact IH.2.2.1 v0R v1J v3I v4I (σ4)
  · refine x_lv [] rfl ?_
    exact IH.2.2.2  (σ)
set_option maxRecDepth 20000 in
theorem s_Ch_addTimes_2 {G : GX} {p : Program} {l : Launch} {e : Env} {s : State} {m : MethodId} {args : Array Value} {below : List Frame} {meth : Method} {c : Code} {z0 u0 n : Nat} (C : Cx G p s m args meth c prog_3_method_5_code 5 "BellPlate$Chooser" ((none))) (IH : I_Ch_addTimes G p l e s m args below meth c z0 u0 n) (v0R : Nat) (v1J : Int64) (v3I : Int32) (v4I : Int32) (σ : AM) : VX (QM eV G args s below z0 u0) G p l e s m args below meth c 1 z0 u0 5 (lpK (lpn F_Ch_addTimes n) (T_Ch_addTimes_2 v0R v1J v3I v4I σ)) 36 [(0, .ref v0R), (1, .long v1J), (3, .int v3I), (4, .int v4I)] [] σ := by
  unfold T_Ch_addTimes_2
  refine x_iinc (v := v4I + (1 : Int32)) (lv' := [(4, .int (v4I + (1 : Int32))), (0, .ref v0R), (1, .long v1J), (3, .int v3I)]) C d_Ch_addTimes_36 3 rfl rfl (by decide) rfl ?_
  refine x_goto (tgt := 3) C d_Ch_addTimes_39 (by decide) ?_
  refine x_lv [1, 2, 3, 0] rfl ?_
  exact IH.2.1 v0R v1J v3I (v4I + (1 : Int32)) (σ)
set_option maxRecDepth 20000 in
theorem s_Ch_addTimes_3 {G : GX} {p : Program} {l : Launch} {e : Env} {s : State} {m : MethodId} {args : Array Value} {below : List Frame} {meth : Method} {c : Code} {z0 u0 n : Nat} (C : Cx G p s m args meth c prog_3_method_5_code 5 "BellPlate$Chooser" ((none))) (IH : I_Ch_addTimes G p l e s m args below meth c z0 u0 n)  (σ : AM) : VX (QM eV G args s below z0 u0) G p l e s m args below meth c 1 z0 u0 5 (lpK (lpn F_Ch_addTimes n) (T_Ch_addTimes_3  σ)) 42 [] [] σ := by
  unfold T_Ch_addTimes_3
  exact x_vret C d_Ch_addTimes_42
theorem i_Ch_addTimes {G : GX} {p : Program} {l : Launch} {e : Env} {s : State} {m : MethodId} {args : Array Value} {below : List Frame} {meth : Method} {c : Code} {z0 u0 : Nat} (C : Cx G p s m args meth c prog_3_method_5_code 5 "BellPlate$Chooser" ((none))) (n : Nat) : I_Ch_addTimes G p l e s m args below meth c z0 u0 n := by
  induction n with
  | zero => exact ⟨fun _ _ _ _ => x_none, fun _ _ _ _ _ => x_none, fun _ _ _ _ _ => x_none, fun _ => x_none⟩
  | succ n IH => exact ⟨fun v0R v1J v3I σ => s_Ch_addTimes_0 C IH v0R v1J v3I σ, fun v0R v1J v3I v4I σ => s_Ch_addTimes_1 C IH v0R v1J v3I v4I σ, fun v0R v1J v3I v4I σ => s_Ch_addTimes_2 C IH v0R v1J v3I v4I σ, fun σ => s_Ch_addTimes_3 C IH σ⟩
theorem c_Ch_addTimes (G : GX) (l : Launch) (v0R : Nat) (v1J : Int64) (v3I : Int32) (σ : AM) : CT eV G l 1 y_Ch_addTimes prog_3_method_5_code 5 (none) [.ref v0R, .long v1J, .int v3I] σ (M_Ch_addTimes v0R v1J v3I σ) := by
  refine ct_of (by decide +kernel) (Nat.le_of_ble_eq_true rfl) (fun p e s m args below meth c C hin => ?_)
  refine x_lve (lv' := [(0, .ref v0R), (1, .long v1J), (3, .int v3I)]) rfl ?_
  intro r σ' h
  obtain ⟨n, hn⟩ := (lp_iff _ _ _).mp h
  exact (i_Ch_addTimes C n).1 v0R v1J v3I σ r σ' hn
/-! BellPlate$Chooser.bitsOf(I)I -/
abbrev y_Ch_bitsOf : MethodName := ⟨"BellPlate$Chooser", "bitsOf", "(I)I"⟩
theorem k_Ch_bitsOf : y_Ch_bitsOf.cls ≠ "java/lang/invoke/MethodHandle" ∧ y_Ch_bitsOf.cls ≠ "java/lang/invoke/VarHandle" ∧ (parseMethodDescriptor y_Ch_bitsOf.desc).map (fun d => d.parameters.length) = some 1 := by decide +kernel
theorem d_Ch_bitsOf_0 : decode prog_3_method_4_code 0 = .ok (.iconst 0, 1) := by decide +kernel
theorem d_Ch_bitsOf_1 : decode prog_3_method_4_code 1 = .ok (.istore_n 1, 1) := by decide +kernel
theorem d_Ch_bitsOf_2 : decode prog_3_method_4_code 2 = .ok (.iconst 0, 1) := by decide +kernel
theorem d_Ch_bitsOf_3 : decode prog_3_method_4_code 3 = .ok (.istore_n 2, 1) := by decide +kernel
theorem d_Ch_bitsOf_4 : decode prog_3_method_4_code 4 = .ok (.iload_n 2, 1) := by decide +kernel
theorem d_Ch_bitsOf_5 : decode prog_3_method_4_code 5 = .ok (.bipush 15, 2) := by decide +kernel
theorem d_Ch_bitsOf_7 : decode prog_3_method_4_code 7 = .ok (.if_icmp .ge 19, 3) := by decide +kernel
theorem d_Ch_bitsOf_10 : decode prog_3_method_4_code 10 = .ok (.iload_n 0, 1) := by decide +kernel
theorem d_Ch_bitsOf_11 : decode prog_3_method_4_code 11 = .ok (.iload_n 2, 1) := by decide +kernel
theorem d_Ch_bitsOf_12 : decode prog_3_method_4_code 12 = .ok (.ishr, 1) := by decide +kernel
theorem d_Ch_bitsOf_13 : decode prog_3_method_4_code 13 = .ok (.ifCond .eq 7, 3) := by decide +kernel
theorem d_Ch_bitsOf_16 : decode prog_3_method_4_code 16 = .ok (.iload_n 2, 1) := by decide +kernel
theorem d_Ch_bitsOf_17 : decode prog_3_method_4_code 17 = .ok (.iconst 1, 1) := by decide +kernel
theorem d_Ch_bitsOf_18 : decode prog_3_method_4_code 18 = .ok (.iadd, 1) := by decide +kernel
theorem d_Ch_bitsOf_19 : decode prog_3_method_4_code 19 = .ok (.istore_n 1, 1) := by decide +kernel
theorem d_Ch_bitsOf_20 : decode prog_3_method_4_code 20 = .ok (.iinc 2 1, 3) := by decide +kernel
theorem d_Ch_bitsOf_23 : decode prog_3_method_4_code 23 = .ok (.goto (-19), 3) := by decide +kernel
theorem d_Ch_bitsOf_26 : decode prog_3_method_4_code 26 = .ok (.iload_n 1, 1) := by decide +kernel
theorem d_Ch_bitsOf_27 : decode prog_3_method_4_code 27 = .ok (.ireturn, 1) := by decide +kernel
abbrev S_Ch_bitsOf : Type := Nat × Int32 × Int32 × Int32 × AM
noncomputable def T_Ch_bitsOf_0 (v0I : Int32) (σ : AM) : S_Ch_bitsOf ⊕ Option (Int32 × AM) :=
  .inl (1, v0I, (0 : Int32), (0 : Int32), σ)
noncomputable def T_Ch_bitsOf_1 (v0I : Int32) (v1I : Int32) (v2I : Int32) (σ : AM) : S_Ch_bitsOf ⊕ Option (Int32 × AM) :=
  if v2I < (15 : Int32) then (if (v0I >>> (v2I &&& 31)) = 0 then (.inl (2, v0I, v1I, v2I, σ)) else (letT (v2I + (1 : Int32)) fun x1 => .inl (2, v0I, x1, v2I, σ))) else (.inr (some (v1I, σ)))
noncomputable def T_Ch_bitsOf_2 (v0I : Int32) (v1I : Int32) (v2I : Int32) (σ : AM) : S_Ch_bitsOf ⊕ Option (Int32 × AM) :=
  .inl (1, v0I, v1I, v2I + (1 : Int32), σ)
noncomputable def F_Ch_bitsOf : S_Ch_bitsOf → S_Ch_bitsOf ⊕ Option (Int32 × AM) := fun s => match s.1 with
  | 0 => T_Ch_bitsOf_0 (s.2.1) (s.2.2.2.2)
  | 1 => T_Ch_bitsOf_1 (s.2.1) (s.2.2.1) (s.2.2.2.1) (s.2.2.2.2)
  | _ => T_Ch_bitsOf_2 (s.2.1) (s.2.2.1) (s.2.2.2.1) (s.2.2.2.2)
noncomputable def L_Ch_bitsOf_0 (v0I : Int32) (σ : AM) : Option (Int32 × AM) := lp F_Ch_bitsOf (0, v0I, 0, 0, σ)
noncomputable def L_Ch_bitsOf_1 (v0I : Int32) (v1I : Int32) (v2I : Int32) (σ : AM) : Option (Int32 × AM) := lp F_Ch_bitsOf (1, v0I, v1I, v2I, σ)
noncomputable def L_Ch_bitsOf_2 (v0I : Int32) (v1I : Int32) (v2I : Int32) (σ : AM) : Option (Int32 × AM) := lp F_Ch_bitsOf (2, v0I, v1I, v2I, σ)
set_option maxRecDepth 20000 in
theorem E_Ch_bitsOf_0 (v0I : Int32) (σ : AM) : L_Ch_bitsOf_0 v0I σ = (L_Ch_bitsOf_1 v0I ((0 : Int32)) ((0 : Int32)) σ) := by
  unfold L_Ch_bitsOf_0
  rw [lp_eq]
  show lpK (lp F_Ch_bitsOf) (T_Ch_bitsOf_0 v0I σ) = _
  unfold T_Ch_bitsOf_0
  simp only [lpK_ite, lq_inl, lq_inr, lpK_bnd, lpK_gd, lq_let]
  try rfl
set_option maxRecDepth 20000 in
theorem E_Ch_bitsOf_1 (v0I : Int32) (v1I : Int32) (v2I : Int32) (σ : AM) : L_Ch_bitsOf_1 v0I v1I v2I σ = (if v2I < (15 : Int32) then (if (v0I >>> (v2I &&& 31)) = 0 then (L_Ch_bitsOf_2 v0I v1I v2I σ) else (letT (v2I + (1 : Int32)) fun x1 => L_Ch_bitsOf_2 v0I x1 v2I σ)) else ((some (v1I, σ)))) := by
  unfold L_Ch_bitsOf_1
  rw [lp_eq]
  show lpK (lp F_Ch_bitsOf) (T_Ch_bitsOf_1 v0I v1I v2I σ) = _
  unfold T_Ch_bitsOf_1
  simp only [lpK_ite, lq_inl, lq_inr, lpK_bnd, lpK_gd, lq_let]
  try rfl
set_option maxRecDepth 20000 in
theorem E_Ch_bitsOf_2 (v0I : Int32) (v1I : Int32) (v2I : Int32) (σ : AM) : L_Ch_bitsOf_2 v0I v1I v2I σ = (L_Ch_bitsOf_1 v0I v1I (v2I + (1 : Int32)) σ) := by
  unfold L_Ch_bitsOf_2
  rw [lp_eq]
  show lpK (lp F_Ch_bitsOf) (T_Ch_bitsOf_2 v0I v1I v2I σ) = _
  unfold T_Ch_bitsOf_2
  simp only [lpK_ite, lq_inl, lq_inr, lpK_bnd, lpK_gd, lq_let]
  try rfl
noncomputable def M_Ch_bitsOf (v0I : Int32) (σ : AM) : Option (Int32 × AM) := mw σ (L_Ch_bitsOf_0 v0I σ)
def I_Ch_bitsOf (G : GX) (p : Program) (l : Launch) (e : Env) (s : State) (m : MethodId) (args : Array Value) (below : List Frame) (meth : Method) (c : Code) (z0 u0 n : Nat) : Prop :=
  (∀ (v0I : Int32) (σ : AM), VX (QM eI G args s below z0 u0) G p l e s m args below meth c 0 z0 u0 3 (lpn F_Ch_bitsOf n (0, v0I, 0, 0, σ)) 0 [(0, .int v0I)] [] σ) ∧
  (∀ (v0I : Int32) (v1I : Int32) (v2I : Int32) (σ : AM), VX (QM eI G args s below z0 u0) G p l e s m args below meth c 0 z0 u0 3 (lpn F_Ch_bitsOf n (1, v0I, v1I, v2I, σ)) 4 [(0, .int v0I), (1, .int v1I), (2, .int v2I)] [] σ) ∧
  (∀ (v0I : Int32) (v1I : Int32) (v2I : Int32) (σ : AM), VX (QM eI G args s below z0 u0) G p l e s m args below meth c 0 z0 u0 3 (lpn F_Ch_bitsOf n (2, v0I, v1I, v2I, σ)) 20 [(0, .int v0I), (1, .int v1I), (2, .int v2I)] [] σ)
set_option maxRecDepth 20000 in
theorem s_Ch_bitsOf_0 {G : GX} {p : Program} {l : Launch} {e : Env} {s : State} {m : MethodId} {args : Array Value} {below : List Frame} {meth : Method} {c : Code} {z0 u0 n : Nat} (C : Cx G p s m args meth c prog_3_method_4_code 3 "BellPlate$Chooser" ((some FieldType.int))) (IH : I_Ch_bitsOf G p l e s m args below meth c z0 u0 n) (v0I : Int32) (σ : AM) : VX (QM eI G args s below z0 u0) G p l e s m args below meth c 0 z0 u0 3 (lpK (lpn F_Ch_bitsOf n) (T_Ch_bitsOf_0 v0I σ)) 0 [(0, .int v0I)] [] σ := by
  unfold T_Ch_bitsOf_0
  refine x_iconst (v := (0 : Int32)) C d_Ch_bitsOf_0 (by decide) ?_
  refine x_istore_n (lv' := [(1, .int (0 : Int32)), (0, .int v0I)]) C d_Ch_bitsOf_1 (by decide) rfl rfl ?_
  refine x_iconst (v := (0 : Int32)) C d_Ch_bitsOf_2 (by decide) ?_
  refine x_istore_n (lv' := [(2, .int (0 : Int32)), (1, .int (0 : Int32)), (0, .int v0I)]) C d_Ch_bitsOf_3 (by decide) rfl rfl ?_
  refine x_lv [2, 1, 0] rfl ?_
  exact IH.2.1 v0I ((0 : Int32)) ((0 : Int32)) (σ)
set_option maxRecDepth 20000 in
theorem s_Ch_bitsOf_1 {G : GX} {p : Program} {l : Launch} {e : Env} {s : State} {m : MethodId} {args : Array Value} {below : List Frame} {meth : Method} {c : Code} {z0 u0 n : Nat} (C : Cx G p s m args meth c prog_3_method_4_code 3 "BellPlate$Chooser" ((some FieldType.int))) (IH : I_Ch_bitsOf G p l e s m args below meth c z0 u0 n) (v0I : Int32) (v1I : Int32) (v2I : Int32) (σ : AM) : VX (QM eI G args s below z0 u0) G p l e s m args below meth c 0 z0 u0 3 (lpK (lpn F_Ch_bitsOf n) (T_Ch_bitsOf_1 v0I v1I v2I σ)) 4 [(0, .int v0I), (1, .int v1I), (2, .int v2I)] [] σ := by
  unfold T_Ch_bitsOf_1
  refine x_iload_n C d_Ch_bitsOf_4 2 rfl ?_
  refine x_bipush (v := (15 : Int32)) C d_Ch_bitsOf_5 (by decide) ?_
  refine x_icmp_ge (tgt := 26) C d_Ch_bitsOf_7 (by decide) (fun _ => ?_) (fun _ => ?_)
  · refine x_iload_n C d_Ch_bitsOf_10 0 rfl ?_
    refine x_iload_n C d_Ch_bitsOf_11 2 rfl ?_
    refine x_ishr C d_Ch_bitsOf_12 ?_
    refine x_if_eq (tgt := 20) C d_Ch_bitsOf_13 (by decide) (fun _ => ?_) (fun _ => ?_)
    · exact IH.2.2 v0I v1I v2I (σ)
    · refine x_iload_n C d_Ch_bitsOf_16 2 rfl ?_
      refine x_iconst (v := (1 : Int32)) C d_Ch_bitsOf_17 (by decide) ?_
      refine x_iadd C d_Ch_bitsOf_18 ?_
      refine x_letI (fun x1 _ => ?_)
      refine x_istore_n (lv' := [(1, .int x1), (0, .int v0I), (2, .int v2I)]) C d_Ch_bitsOf_19 (by decide) rfl rfl ?_
      refine x_lv [1, 0, 2] rfl ?_
      exact IH.2.2 v0I x1 v2I (σ)
  · refine x_iload_n C d_Ch_bitsOf_26 1 rfl ?_
    exact x_iret C d_Ch_bitsOf_27
set_option maxRecDepth 20000 in
theorem s_Ch_bitsOf_2 {G : GX} {p : Program} {l : Launch} {e : Env} {s : State} {m : MethodId} {args : Array Value} {below : List Frame} {meth : Method} {c : Code} {z0 u0 n : Nat} (C : Cx G p s m args meth c prog_3_method_4_code 3 "BellPlate$Chooser" ((some FieldType.int))) (IH : I_Ch_bitsOf G p l e s m args below meth c z0 u0 n) (v0I : Int32) (v1I : Int32) (v2I : Int32) (σ : AM) : VX (QM eI G args s below z0 u0) G p l e s m args below meth c 0 z0 u0 3 (lpK (lpn F_Ch_bitsOf n) (T_Ch_bitsOf_2 v0I v1I v2I σ)) 20 [(0, .int v0I), (1, .int v1I), (2, .int v2I)] [] σ := by
  unfold T_Ch_bitsOf_2
  refine x_iinc (v := v2I + (1 : Int32)) (lv' := [(2, .int (v2I + (1 : Int32))), (0, .int v0I), (1, .int v1I)]) C d_Ch_bitsOf_20 2 rfl rfl (by decide) rfl ?_
  refine x_goto (tgt := 4) C d_Ch_bitsOf_23 (by decide) ?_
  refine x_lv [1, 2, 0] rfl ?_
  exact IH.2.1 v0I v1I (v2I + (1 : Int32)) (σ)
theorem i_Ch_bitsOf {G : GX} {p : Program} {l : Launch} {e : Env} {s : State} {m : MethodId} {args : Array Value} {below : List Frame} {meth : Method} {c : Code} {z0 u0 : Nat} (C : Cx G p s m args meth c prog_3_method_4_code 3 "BellPlate$Chooser" ((some FieldType.int))) (n : Nat) : I_Ch_bitsOf G p l e s m args below meth c z0 u0 n := by
  induction n with
  | zero => exact ⟨fun _ _ => x_none, fun _ _ _ _ => x_none, fun _ _ _ _ => x_none⟩
  | succ n IH => exact ⟨fun v0I σ => s_Ch_bitsOf_0 C IH v0I σ, fun v0I v1I v2I σ => s_Ch_bitsOf_1 C IH v0I v1I v2I σ, fun v0I v1I v2I σ => s_Ch_bitsOf_2 C IH v0I v1I v2I σ⟩
theorem c_Ch_bitsOf (G : GX) (l : Launch) (v0I : Int32) (σ : AM) : CT eI G l 0 y_Ch_bitsOf prog_3_method_4_code 3 ((some FieldType.int)) [.int v0I] σ (M_Ch_bitsOf v0I σ) := by
  refine ct_of (by decide +kernel) (Nat.le_of_ble_eq_true rfl) (fun p e s m args below meth c C hin => ?_)
  refine x_lve (lv' := [(0, .int v0I)]) rfl ?_
  intro r σ' h
  obtain ⟨n, hn⟩ := (lp_iff _ _ _).mp h
  exact (i_Ch_bitsOf C n).1 v0I σ r σ' hn
/-! BellPlate$Chooser.stillest(J)I -/
abbrev y_Ch_stillest : MethodName := ⟨"BellPlate$Chooser", "stillest", "(J)I"⟩
theorem k_Ch_stillest : y_Ch_stillest.cls ≠ "java/lang/invoke/MethodHandle" ∧ y_Ch_stillest.cls ≠ "java/lang/invoke/VarHandle" ∧ (parseMethodDescriptor y_Ch_stillest.desc).map (fun d => d.parameters.length) = some 1 := by decide +kernel
theorem d_Ch_stillest_0 : decode prog_3_method_6_code 0 = .ok (.iconst (-1), 1) := by decide +kernel
theorem d_Ch_stillest_1 : decode prog_3_method_6_code 1 = .ok (.istore_n 3, 1) := by decide +kernel
theorem d_Ch_stillest_2 : decode prog_3_method_6_code 2 = .ok (.iconst 0, 1) := by decide +kernel
theorem d_Ch_stillest_3 : decode prog_3_method_6_code 3 = .ok (.istore 4, 2) := by decide +kernel
theorem d_Ch_stillest_5 : decode prog_3_method_6_code 5 = .ok (.iconst 0, 1) := by decide +kernel
theorem d_Ch_stillest_6 : decode prog_3_method_6_code 6 = .ok (.istore 5, 2) := by decide +kernel
theorem d_Ch_stillest_8 : decode prog_3_method_6_code 8 = .ok (.iload 5, 2) := by decide +kernel
theorem d_Ch_stillest_10 : decode prog_3_method_6_code 10 = .ok (.aload_n 0, 1) := by decide +kernel
theorem d_Ch_stillest_11 : decode prog_3_method_6_code 11 = .ok (.getfield 9, 3) := by decide +kernel
theorem d_Ch_stillest_14 : decode prog_3_method_6_code 14 = .ok (.invokevirtual 104, 3) := by decide +kernel
theorem d_Ch_stillest_17 : decode prog_3_method_6_code 17 = .ok (.if_icmp .ge 52, 3) := by decide +kernel
theorem d_Ch_stillest_20 : decode prog_3_method_6_code 20 = .ok (.lload_n 1, 1) := by decide +kernel
theorem d_Ch_stillest_21 : decode prog_3_method_6_code 21 = .ok (.iload 5, 2) := by decide +kernel
theorem d_Ch_stillest_23 : decode prog_3_method_6_code 23 = .ok (.invokestatic 110, 3) := by decide +kernel
theorem d_Ch_stillest_26 : decode prog_3_method_6_code 26 = .ok (.ifCond .eq 37, 3) := by decide +kernel
theorem d_Ch_stillest_29 : decode prog_3_method_6_code 29 = .ok (.aload_n 0, 1) := by decide +kernel
theorem d_Ch_stillest_30 : decode prog_3_method_6_code 30 = .ok (.getfield 27, 3) := by decide +kernel
theorem d_Ch_stillest_33 : decode prog_3_method_6_code 33 = .ok (.aload_n 0, 1) := by decide +kernel
theorem d_Ch_stillest_34 : decode prog_3_method_6_code 34 = .ok (.getfield 87, 3) := by decide +kernel
theorem d_Ch_stillest_37 : decode prog_3_method_6_code 37 = .ok (.iload 5, 2) := by decide +kernel
theorem d_Ch_stillest_39 : decode prog_3_method_6_code 39 = .ok (.invokestatic 114, 3) := by decide +kernel
theorem d_Ch_stillest_42 : decode prog_3_method_6_code 42 = .ok (.istore 6, 2) := by decide +kernel
theorem d_Ch_stillest_44 : decode prog_3_method_6_code 44 = .ok (.iload_n 3, 1) := by decide +kernel
theorem d_Ch_stillest_45 : decode prog_3_method_6_code 45 = .ok (.iconst (-1), 1) := by decide +kernel
theorem d_Ch_stillest_46 : decode prog_3_method_6_code 46 = .ok (.if_icmp .eq 10, 3) := by decide +kernel
theorem d_Ch_stillest_49 : decode prog_3_method_6_code 49 = .ok (.iload 6, 2) := by decide +kernel
theorem d_Ch_stillest_51 : decode prog_3_method_6_code 51 = .ok (.iload 4, 2) := by decide +kernel
theorem d_Ch_stillest_53 : decode prog_3_method_6_code 53 = .ok (.if_icmp .ge 10, 3) := by decide +kernel
theorem d_Ch_stillest_56 : decode prog_3_method_6_code 56 = .ok (.iload 5, 2) := by decide +kernel
theorem d_Ch_stillest_58 : decode prog_3_method_6_code 58 = .ok (.istore_n 3, 1) := by decide +kernel
theorem d_Ch_stillest_59 : decode prog_3_method_6_code 59 = .ok (.iload 6, 2) := by decide +kernel
theorem d_Ch_stillest_61 : decode prog_3_method_6_code 61 = .ok (.istore 4, 2) := by decide +kernel
theorem d_Ch_stillest_63 : decode prog_3_method_6_code 63 = .ok (.iinc 5 1, 3) := by decide +kernel
theorem d_Ch_stillest_66 : decode prog_3_method_6_code 66 = .ok (.goto (-58), 3) := by decide +kernel
theorem d_Ch_stillest_69 : decode prog_3_method_6_code 69 = .ok (.iload_n 3, 1) := by decide +kernel
theorem d_Ch_stillest_70 : decode prog_3_method_6_code 70 = .ok (.ireturn, 1) := by decide +kernel
abbrev S_Ch_stillest : Type := Nat × Nat × Int64 × Int32 × Int32 × Int32 × Int32 × AM
noncomputable def T_Ch_stillest_0 (v0R : Nat) (v1J : Int64) (σ : AM) : S_Ch_stillest ⊕ Option (Int32 × AM) :=
  .inl (1, v0R, v1J, ((-1) : Int32), (0 : Int32), (0 : Int32), 0, σ)
noncomputable def T_Ch_stillest_1 (v0R : Nat) (v1J : Int64) (v3I : Int32) (v4I : Int32) (v5I : Int32) (σ : AM) : S_Ch_stillest ⊕ Option (Int32 × AM) :=
  gdT (okO σ v0R 6) <| gdT (okO σ (aR σ v0R 0) 1) <| bndT (M_Tw_sets (aR σ v0R 0) σ) fun r3 σ4 => if v5I < r3 then (bndT (M_St_has v1J v5I σ4) fun r5 σ6 => if r5 = 0 then (.inl (3, v0R, v1J, v3I, v4I, v5I, 0, σ6)) else (gdT (okO σ6 v0R 6) <| gdT (okO σ6 (aR σ6 v0R 4) 102) <| bndT (M_St_counted (aR σ6 v0R 4) (aI σ6 v0R 5) v5I σ6) fun r9 σ10 => if v3I = ((-1) : Int32) then (.inl (2, v0R, v1J, 0, 0, v5I, r9, σ10)) else (if r9 < v4I then (.inl (2, v0R, v1J, 0, 0, v5I, r9, σ10)) else (.inl (3, v0R, v1J, v3I, v4I, v5I, 0, σ10))))) else (.inr (some (v3I, σ4)))
noncomputable def T_Ch_stillest_2 (v0R : Nat) (v1J : Int64) (v5I : Int32) (v6I : Int32) (σ : AM) : S_Ch_stillest ⊕ Option (Int32 × AM) :=
  .inl (3, v0R, v1J, v5I, v6I, v5I, 0, σ)
noncomputable def T_Ch_stillest_3 (v0R : Nat) (v1J : Int64) (v3I : Int32) (v4I : Int32) (v5I : Int32) (σ : AM) : S_Ch_stillest ⊕ Option (Int32 × AM) :=
  .inl (1, v0R, v1J, v3I, v4I, v5I + (1 : Int32), 0, σ)
noncomputable def F_Ch_stillest : S_Ch_stillest → S_Ch_stillest ⊕ Option (Int32 × AM) := fun s => match s.1 with
  | 0 => T_Ch_stillest_0 (s.2.1) (s.2.2.1) (s.2.2.2.2.2.2.2)
  | 1 => T_Ch_stillest_1 (s.2.1) (s.2.2.1) (s.2.2.2.1) (s.2.2.2.2.1) (s.2.2.2.2.2.1) (s.2.2.2.2.2.2.2)
  | 2 => T_Ch_stillest_2 (s.2.1) (s.2.2.1) (s.2.2.2.2.2.1) (s.2.2.2.2.2.2.1) (s.2.2.2.2.2.2.2)
  | _ => T_Ch_stillest_3 (s.2.1) (s.2.2.1) (s.2.2.2.1) (s.2.2.2.2.1) (s.2.2.2.2.2.1) (s.2.2.2.2.2.2.2)
noncomputable def L_Ch_stillest_0 (v0R : Nat) (v1J : Int64) (σ : AM) : Option (Int32 × AM) := lp F_Ch_stillest (0, v0R, v1J, 0, 0, 0, 0, σ)
noncomputable def L_Ch_stillest_1 (v0R : Nat) (v1J : Int64) (v3I : Int32) (v4I : Int32) (v5I : Int32) (σ : AM) : Option (Int32 × AM) := lp F_Ch_stillest (1, v0R, v1J, v3I, v4I, v5I, 0, σ)
noncomputable def L_Ch_stillest_2 (v0R : Nat) (v1J : Int64) (v5I : Int32) (v6I : Int32) (σ : AM) : Option (Int32 × AM) := lp F_Ch_stillest (2, v0R, v1J, 0, 0, v5I, v6I, σ)
noncomputable def L_Ch_stillest_3 (v0R : Nat) (v1J : Int64) (v3I : Int32) (v4I : Int32) (v5I : Int32) (σ : AM) : Option (Int32 × AM) := lp F_Ch_stillest (3, v0R, v1J, v3I, v4I, v5I, 0, σ)
set_option maxRecDepth 20000 in
theorem E_Ch_stillest_0 (v0R : Nat) (v1J : Int64) (σ : AM) : L_Ch_stillest_0 v0R v1J σ = (L_Ch_stillest_1 v0R v1J (((-1) : Int32)) ((0 : Int32)) ((0 : Int32)) σ) := by
  unfold L_Ch_stillest_0
  rw [lp_eq]
  show lpK (lp F_Ch_stillest) (T_Ch_stillest_0 v0R v1J σ) = _
  unfold T_Ch_stillest_0
  simp only [lpK_ite, lq_inl, lq_inr, lpK_bnd, lpK_gd, lq_let]
  try rfl
set_option maxRecDepth 20000 in
theorem E_Ch_stillest_1 (v0R : Nat) (v1J : Int64) (v3I : Int32) (v4I : Int32) (v5I : Int32) (σ : AM) : L_Ch_stillest_1 v0R v1J v3I v4I v5I σ = (gd (okO σ v0R 6) <| gd (okO σ (aR σ v0R 0) 1) <| bnd (M_Tw_sets (aR σ v0R 0) σ) fun r3 σ4 => if v5I < r3 then (bnd (M_St_has v1J v5I σ4) fun r5 σ6 => if r5 = 0 then (L_Ch_stillest_3 v0R v1J v3I v4I v5I σ6) else (gd (okO σ6 v0R 6) <| gd (okO σ6 (aR σ6 v0R 4) 102) <| bnd (M_St_counted (aR σ6 v0R 4) (aI σ6 v0R 5) v5I σ6) fun r9 σ10 => if v3I = ((-1) : Int32) then (L_Ch_stillest_2 v0R v1J v5I r9 σ10) else (if r9 < v4I then (L_Ch_stillest_2 v0R v1J v5I r9 σ10) else (L_Ch_stillest_3 v0R v1J v3I v4I v5I σ10)))) else ((some (v3I, σ4)))) := by
  unfold L_Ch_stillest_1
  rw [lp_eq]
  show lpK (lp F_Ch_stillest) (T_Ch_stillest_1 v0R v1J v3I v4I v5I σ) = _
  unfold T_Ch_stillest_1
  simp only [lpK_ite, lq_inl, lq_inr, lpK_bnd, lpK_gd, lq_let]
  try rfl
set_option maxRecDepth 20000 in
theorem E_Ch_stillest_2 (v0R : Nat) (v1J : Int64) (v5I : Int32) (v6I : Int32) (σ : AM) : L_Ch_stillest_2 v0R v1J v5I v6I σ = (L_Ch_stillest_3 v0R v1J v5I v6I v5I σ) := by
  unfold L_Ch_stillest_2
  rw [lp_eq]
  show lpK (lp F_Ch_stillest) (T_Ch_stillest_2 v0R v1J v5I v6I σ) = _
  unfold T_Ch_stillest_2
  simp only [lpK_ite, lq_inl, lq_inr, lpK_bnd, lpK_gd, lq_let]
  try rfl
set_option maxRecDepth 20000 in
theorem E_Ch_stillest_3 (v0R : Nat) (v1J : Int64) (v3I : Int32) (v4I : Int32) (v5I : Int32) (σ : AM) : L_Ch_stillest_3 v0R v1J v3I v4I v5I σ = (L_Ch_stillest_1 v0R v1J v3I v4I (v5I + (1 : Int32)) σ) := by
  unfold L_Ch_stillest_3
  rw [lp_eq]
  show lpK (lp F_Ch_stillest) (T_Ch_stillest_3 v0R v1J v3I v4I v5I σ) = _
  unfold T_Ch_stillest_3
  simp only [lpK_ite, lq_inl, lq_inr, lpK_bnd, lpK_gd, lq_let]
  try rfl
noncomputable def M_Ch_stillest (v0R : Nat) (v1J : Int64) (σ : AM) : Option (Int32 × AM) := mw σ (L_Ch_stillest_0 v0R v1J σ)
def I_Ch_stillest (G : GX) (p : Program) (l : Launch) (e : Env) (s : State) (m : MethodId) (args : Array Value) (below : List Frame) (meth : Method) (c : Code) (z0 u0 n : Nat) : Prop :=
  (∀ (v0R : Nat) (v1J : Int64) (σ : AM), VX (QM eI G args s below z0 u0) G p l e s m args below meth c 1 z0 u0 7 (lpn F_Ch_stillest n (0, v0R, v1J, 0, 0, 0, 0, σ)) 0 [(0, .ref v0R), (1, .long v1J)] [] σ) ∧
  (∀ (v0R : Nat) (v1J : Int64) (v3I : Int32) (v4I : Int32) (v5I : Int32) (σ : AM), VX (QM eI G args s below z0 u0) G p l e s m args below meth c 1 z0 u0 7 (lpn F_Ch_stillest n (1, v0R, v1J, v3I, v4I, v5I, 0, σ)) 8 [(0, .ref v0R), (1, .long v1J), (3, .int v3I), (4, .int v4I), (5, .int v5I)] [] σ) ∧
  (∀ (v0R : Nat) (v1J : Int64) (v5I : Int32) (v6I : Int32) (σ : AM), VX (QM eI G args s below z0 u0) G p l e s m args below meth c 1 z0 u0 7 (lpn F_Ch_stillest n (2, v0R, v1J, 0, 0, v5I, v6I, σ)) 56 [(0, .ref v0R), (1, .long v1J), (5, .int v5I), (6, .int v6I)] [] σ) ∧
  (∀ (v0R : Nat) (v1J : Int64) (v3I : Int32) (v4I : Int32) (v5I : Int32) (σ : AM), VX (QM eI G args s below z0 u0) G p l e s m args below meth c 1 z0 u0 7 (lpn F_Ch_stillest n (3, v0R, v1J, v3I, v4I, v5I, 0, σ)) 63 [(0, .ref v0R), (1, .long v1J), (3, .int v3I), (4, .int v4I), (5, .int v5I)] [] σ)
set_option maxRecDepth 20000 in
theorem s_Ch_stillest_0 {G : GX} {p : Program} {l : Launch} {e : Env} {s : State} {m : MethodId} {args : Array Value} {below : List Frame} {meth : Method} {c : Code} {z0 u0 n : Nat} (C : Cx G p s m args meth c prog_3_method_6_code 7 "BellPlate$Chooser" ((some FieldType.int))) (IH : I_Ch_stillest G p l e s m args below meth c z0 u0 n) (v0R : Nat) (v1J : Int64) (σ : AM) : VX (QM eI G args s below z0 u0) G p l e s m args below meth c 1 z0 u0 7 (lpK (lpn F_Ch_stillest n) (T_Ch_stillest_0 v0R v1J σ)) 0 [(0, .ref v0R), (1, .long v1J)] [] σ := by
  unfold T_Ch_stillest_0
  refine x_iconst (v := ((-1) : Int32)) C d_Ch_stillest_0 (by decide) ?_
  refine x_istore_n (lv' := [(3, .int ((-1) : Int32)), (0, .ref v0R), (1, .long v1J)]) C d_Ch_stillest_1 (by decide) rfl rfl ?_
  refine x_iconst (v := (0 : Int32)) C d_Ch_stillest_2 (by decide) ?_
  refine x_istore (lv' := [(4, .int (0 : Int32)), (3, .int ((-1) : Int32)), (0, .ref v0R), (1, .long v1J)]) C d_Ch_stillest_3 (by decide) rfl ?_
  refine x_iconst (v := (0 : Int32)) C d_Ch_stillest_5 (by decide) ?_
  refine x_istore (lv' := [(5, .int (0 : Int32)), (4, .int (0 : Int32)), (3, .int ((-1) : Int32)), (0, .ref v0R), (1, .long v1J)]) C d_Ch_stillest_6 (by decide) rfl ?_
  refine x_lv [3, 4, 2, 1, 0] rfl ?_
  exact IH.2.1 v0R v1J (((-1) : Int32)) ((0 : Int32)) ((0 : Int32)) (σ)
set_option maxRecDepth 20000 in
theorem s_Ch_stillest_1 {G : GX} {p : Program} {l : Launch} {e : Env} {s : State} {m : MethodId} {args : Array Value} {below : List Frame} {meth : Method} {c : Code} {z0 u0 n : Nat} (C : Cx G p s m args meth c prog_3_method_6_code 7 "BellPlate$Chooser" ((some FieldType.int))) (IH : I_Ch_stillest G p l e s m args below meth c z0 u0 n) (v0R : Nat) (v1J : Int64) (v3I : Int32) (v4I : Int32) (v5I : Int32) (σ : AM) : VX (QM eI G args s below z0 u0) G p l e s m args below meth c 1 z0 u0 7 (lpK (lpn F_Ch_stillest n) (T_Ch_stillest_1 v0R v1J v3I v4I v5I σ)) 8 [(0, .ref v0R), (1, .long v1J), (3, .int v3I), (4, .int v4I), (5, .int v5I)] [] σ := by
  unfold T_Ch_stillest_1
  refine x_iload C d_Ch_stillest_8 4 rfl ?_
  refine x_aload_n C d_Ch_stillest_10 0 rfl ?_
  refine x_gd (fun h1 => ?_)
  refine x_gd (fun h2 => ?_)
  refine x_getR (k := 0) (kv := 1) C (okO_iff.mp h1) rfl j5_ok (by decide) rfl (okO_iff.mp h2) (by decide) w379 d_Ch_stillest_11 ?_
  refine x_callVI (As := []) C (c_Tw_sets G l (aR σ v0R 0)  σ) (okO_iff.mp h2) rfl w600 w601 w1179 w602 w122 k_Tw_sets rfl (by decide) (by decide) rfl (Nat.le_of_ble_eq_true rfl) d_Ch_stillest_14 (fun r3 σ4 => ?_)
  refine x_icmp_ge (tgt := 69) C d_Ch_stillest_17 (by decide) (fun _ => ?_) (fun _ => ?_)
  · refine x_lload_n C d_Ch_stillest_20 1 rfl ?_
    refine x_iload C d_Ch_stillest_21 4 rfl ?_
    refine x_callSI (As := [.long v1J, .int v5I]) C (c_St_has G l v1J v5I σ4) w1101 w1180 w1102 w141 k_St_has rfl (by decide) (by decide) rfl (Nat.le_of_ble_eq_true rfl) d_Ch_stillest_23 (fun r5 σ6 => ?_)
    refine x_if_eq (tgt := 63) C d_Ch_stillest_26 (by decide) (fun _ => ?_) (fun _ => ?_)
    · exact IH.2.2.2 v0R v1J v3I v4I v5I (σ6)
    · refine x_aload_n C d_Ch_stillest_29 0 rfl ?_
      refine x_gd (fun h7 => ?_)
      refine x_gd (fun h8 => ?_)
      refine x_getR (k := 4) (kv := 102) C (okO_iff.mp h7) rfl j5_ok (by decide) rfl (okO_iff.mp h8) (by decide) w383 d_Ch_stillest_30 ?_
      refine x_aload_n C d_Ch_stillest_33 0 rfl ?_
      refine x_getI (k := 5) C (okO_iff.mp h7) rfl j5_ok (by decide) rfl w384 d_Ch_stillest_34 ?_
      refine x_iload C d_Ch_stillest_37 4 rfl ?_
      refine x_callSI (As := [.ref (aR σ6 v0R 4), .int (aI σ6 v0R 5), .int v5I]) C (c_St_counted G l (aR σ6 v0R 4) (aI σ6 v0R 5) v5I σ6) w1182 w1181 w1183 w141 k_St_counted rfl (by decide) (by decide) rfl (Nat.le_of_ble_eq_true rfl) d_Ch_stillest_39 (fun r9 σ10 => ?_)
      refine x_istore (lv' := [(6, .int r9), (0, .ref v0R), (1, .long v1J), (3, .int v3I), (4, .int v4I), (5, .int v5I)]) C d_Ch_stillest_42 (by decide) rfl ?_
      refine x_iload_n C d_Ch_stillest_44 3 rfl ?_
      refine x_iconst (v := ((-1) : Int32)) C d_Ch_stillest_45 (by decide) ?_
      refine x_icmp_eq (tgt := 56) C d_Ch_stillest_46 (by decide) (fun _ => ?_) (fun _ => ?_)
      · refine x_lv [1, 2, 5, 0] rfl ?_
        exact IH.2.2.1 v0R v1J v5I r9 (σ10)
      · refine x_iload C d_Ch_stillest_49 0 rfl ?_
        refine x_iload C d_Ch_stillest_51 4 rfl ?_
        refine x_icmp_ge (tgt := 63) C d_Ch_stillest_53 (by decide) (fun _ => ?_) (fun _ => ?_)
        · refine x_lv [1, 2, 5, 0] rfl ?_
          exact IH.2.2.1 v0R v1J v5I r9 (σ10)
        · refine x_lv [1, 2, 3, 4, 5] rfl ?_
          exact IH.2.2.2 v0R v1J v3I v4I v5I (σ10)
  · refine x_iload_n C d_Ch_stillest_69 2 rfl ?_
    exact x_iret C d_Ch_stillest_70
set_option maxRecDepth 20000 in
theorem s_Ch_stillest_2 {G : GX} {p : Program} {l : Launch} {e : Env} {s : State} {m : MethodId} {args : Array Value} {below : List Frame} {meth : Method} {c : Code} {z0 u0 n : Nat} (C : Cx G p s m args meth c prog_3_method_6_code 7 "BellPlate$Chooser" ((some FieldType.int))) (IH : I_Ch_stillest G p l e s m args below meth c z0 u0 n) (v0R : Nat) (v1J : Int64) (v5I : Int32) (v6I : Int32) (σ : AM) : VX (QM eI G args s below z0 u0) G p l e s m args below meth c 1 z0 u0 7 (lpK (lpn F_Ch_stillest n) (T_Ch_stillest_2 v0R v1J v5I v6I σ)) 56 [(0, .ref v0R), (1, .long v1J), (5, .int v5I), (6, .int v6I)] [] σ := by
  unfold T_Ch_stillest_2
  refine x_iload C d_Ch_stillest_56 2 rfl ?_
  refine x_istore_n (lv' := [(3, .int v5I), (0, .ref v0R), (1, .long v1J), (5, .int v5I), (6, .int v6I)]) C d_Ch_stillest_58 (by decide) rfl rfl ?_
  refine x_iload C d_Ch_stillest_59 4 rfl ?_
  refine x_istore (lv' := [(4, .int v6I), (3, .int v5I), (0, .ref v0R), (1, .long v1J), (5, .int v5I), (6, .int v6I)]) C d_Ch_stillest_61 (by decide) rfl ?_
  refine x_lv [2, 3, 1, 0, 4] rfl ?_
  exact IH.2.2.2 v0R v1J v5I v6I v5I (σ)
set_option maxRecDepth 20000 in
theorem s_Ch_stillest_3 {G : GX} {p : Program} {l : Launch} {e : Env} {s : State} {m : MethodId} {args : Array Value} {below : List Frame} {meth : Method} {c : Code} {z0 u0 n : Nat} (C : Cx G p s m args meth c prog_3_method_6_code 7 "BellPlate$Chooser" ((some FieldType.int))) (IH : I_Ch_stillest G p l e s m args below meth c z0 u0 n) (v0R : Nat) (v1J : Int64) (v3I : Int32) (v4I : Int32) (v5I : Int32) (σ : AM) : VX (QM eI G args s below z0 u0) G p l e s m args below meth c 1 z0 u0 7 (lpK (lpn F_Ch_stillest n) (T_Ch_stillest_3 v0R v1J v3I v4I v5I σ)) 63 [(0, .ref v0R), (1, .long v1J), (3, .int v3I), (4, .int v4I), (5, .int v5I)] [] σ := by
  unfold T_Ch_stillest_3
  refine x_iinc (v := v5I + (1 : Int32)) (lv' := [(5, .int (v5I + (1 : Int32))), (0, .ref v0R), (1, .long v1J), (3, .int v3I), (4, .int v4I)]) C d_Ch_stillest_63 4 rfl rfl (by decide) rfl ?_
  refine x_goto (tgt := 8) C d_Ch_stillest_66 (by decide) ?_
  refine x_lv [1, 2, 3, 4, 0] rfl ?_
  exact IH.2.1 v0R v1J v3I v4I (v5I + (1 : Int32)) (σ)
theorem i_Ch_stillest {G : GX} {p : Program} {l : Launch} {e : Env} {s : State} {m : MethodId} {args : Array Value} {below : List Frame} {meth : Method} {c : Code} {z0 u0 : Nat} (C : Cx G p s m args meth c prog_3_method_6_code 7 "BellPlate$Chooser" ((some FieldType.int))) (n : Nat) : I_Ch_stillest G p l e s m args below meth c z0 u0 n := by
  induction n with
  | zero => exact ⟨fun _ _ _ => x_none, fun _ _ _ _ _ _ => x_none, fun _ _ _ _ _ => x_none, fun _ _ _ _ _ _ => x_none⟩
  | succ n IH => exact ⟨fun v0R v1J σ => s_Ch_stillest_0 C IH v0R v1J σ, fun v0R v1J v3I v4I v5I σ => s_Ch_stillest_1 C IH v0R v1J v3I v4I v5I σ, fun v0R v1J v5I v6I σ => s_Ch_stillest_2 C IH v0R v1J v5I v6I σ, fun v0R v1J v3I v4I v5I σ => s_Ch_stillest_3 C IH v0R v1J v3I v4I v5I σ⟩
theorem c_Ch_stillest (G : GX) (l : Launch) (v0R : Nat) (v1J : Int64) (σ : AM) : CT eI G l 1 y_Ch_stillest prog_3_method_6_code 7 ((some FieldType.int)) [.ref v0R, .long v1J] σ (M_Ch_stillest v0R v1J σ) := by
  refine ct_of (by decide +kernel) (Nat.le_of_ble_eq_true rfl) (fun p e s m args below meth c C hin => ?_)
  refine x_lve (lv' := [(0, .ref v0R), (1, .long v1J)]) rfl ?_
  intro r σ' h
  obtain ⟨n, hn⟩ := (lp_iff _ _ _).mp h
  exact (i_Ch_stillest C n).1 v0R v1J σ r σ' hn
/-! BellPlate$Chooser.evenest(JIZ)I -/
abbrev y_Ch_evenest : MethodName := ⟨"BellPlate$Chooser", "evenest", "(JIZ)I"⟩
theorem k_Ch_evenest : y_Ch_evenest.cls ≠ "java/lang/invoke/MethodHandle" ∧ y_Ch_evenest.cls ≠ "java/lang/invoke/VarHandle" ∧ (parseMethodDescriptor y_Ch_evenest.desc).map (fun d => d.parameters.length) = some 3 := by decide +kernel
theorem d_Ch_evenest_0 : decode prog_3_method_7_code 0 = .ok (.iconst (-1), 1) := by decide +kernel
theorem d_Ch_evenest_1 : decode prog_3_method_7_code 1 = .ok (.istore 5, 2) := by decide +kernel
theorem d_Ch_evenest_3 : decode prog_3_method_7_code 3 = .ok (.iconst 0, 1) := by decide +kernel
theorem d_Ch_evenest_4 : decode prog_3_method_7_code 4 = .ok (.istore 6, 2) := by decide +kernel
theorem d_Ch_evenest_6 : decode prog_3_method_7_code 6 = .ok (.iconst 0, 1) := by decide +kernel
theorem d_Ch_evenest_7 : decode prog_3_method_7_code 7 = .ok (.istore 7, 2) := by decide +kernel
theorem d_Ch_evenest_9 : decode prog_3_method_7_code 9 = .ok (.iconst 0, 1) := by decide +kernel
theorem d_Ch_evenest_10 : decode prog_3_method_7_code 10 = .ok (.istore 8, 2) := by decide +kernel
theorem d_Ch_evenest_12 : decode prog_3_method_7_code 12 = .ok (.iload 8, 2) := by decide +kernel
theorem d_Ch_evenest_14 : decode prog_3_method_7_code 14 = .ok (.aload_n 0, 1) := by decide +kernel
theorem d_Ch_evenest_15 : decode prog_3_method_7_code 15 = .ok (.getfield 9, 3) := by decide +kernel
theorem d_Ch_evenest_18 : decode prog_3_method_7_code 18 = .ok (.invokevirtual 104, 3) := by decide +kernel
theorem d_Ch_evenest_21 : decode prog_3_method_7_code 21 = .ok (.if_icmp .ge 103, 3) := by decide +kernel
theorem d_Ch_evenest_24 : decode prog_3_method_7_code 24 = .ok (.lload_n 1, 1) := by decide +kernel
theorem d_Ch_evenest_25 : decode prog_3_method_7_code 25 = .ok (.iload 8, 2) := by decide +kernel
theorem d_Ch_evenest_27 : decode prog_3_method_7_code 27 = .ok (.invokestatic 110, 3) := by decide +kernel
theorem d_Ch_evenest_30 : decode prog_3_method_7_code 30 = .ok (.ifCond .eq 88, 3) := by decide +kernel
theorem d_Ch_evenest_33 : decode prog_3_method_7_code 33 = .ok (.iload 4, 2) := by decide +kernel
theorem d_Ch_evenest_35 : decode prog_3_method_7_code 35 = .ok (.ifCond .eq 15, 3) := by decide +kernel
theorem d_Ch_evenest_38 : decode prog_3_method_7_code 38 = .ok (.aload_n 0, 1) := by decide +kernel
theorem d_Ch_evenest_39 : decode prog_3_method_7_code 39 = .ok (.getfield 9, 3) := by decide +kernel
theorem d_Ch_evenest_42 : decode prog_3_method_7_code 42 = .ok (.iload 8, 2) := by decide +kernel
theorem d_Ch_evenest_44 : decode prog_3_method_7_code 44 = .ok (.invokevirtual 118, 3) := by decide +kernel
theorem d_Ch_evenest_47 : decode prog_3_method_7_code 47 = .ok (.goto 4, 3) := by decide +kernel
theorem d_Ch_evenest_50 : decode prog_3_method_7_code 50 = .ok (.iconst 0, 1) := by decide +kernel
theorem d_Ch_evenest_51 : decode prog_3_method_7_code 51 = .ok (.istore 9, 2) := by decide +kernel
theorem d_Ch_evenest_53 : decode prog_3_method_7_code 53 = .ok (.aload_n 0, 1) := by decide +kernel
theorem d_Ch_evenest_54 : decode prog_3_method_7_code 54 = .ok (.getfield 27, 3) := by decide +kernel
theorem d_Ch_evenest_57 : decode prog_3_method_7_code 57 = .ok (.aload_n 0, 1) := by decide +kernel
theorem d_Ch_evenest_58 : decode prog_3_method_7_code 58 = .ok (.getfield 87, 3) := by decide +kernel
theorem d_Ch_evenest_61 : decode prog_3_method_7_code 61 = .ok (.iload 8, 2) := by decide +kernel
theorem d_Ch_evenest_63 : decode prog_3_method_7_code 63 = .ok (.invokestatic 114, 3) := by decide +kernel
theorem d_Ch_evenest_66 : decode prog_3_method_7_code 66 = .ok (.istore 10, 2) := by decide +kernel
theorem d_Ch_evenest_68 : decode prog_3_method_7_code 68 = .ok (.iload 10, 2) := by decide +kernel
theorem d_Ch_evenest_70 : decode prog_3_method_7_code 70 = .ok (.iload_n 3, 1) := by decide +kernel
theorem d_Ch_evenest_71 : decode prog_3_method_7_code 71 = .ok (.iload 10, 2) := by decide +kernel
theorem d_Ch_evenest_73 : decode prog_3_method_7_code 73 = .ok (.isub, 1) := by decide +kernel
theorem d_Ch_evenest_74 : decode prog_3_method_7_code 74 = .ok (.invokestatic 121, 3) := by decide +kernel
theorem d_Ch_evenest_77 : decode prog_3_method_7_code 77 = .ok (.istore 11, 2) := by decide +kernel
theorem d_Ch_evenest_79 : decode prog_3_method_7_code 79 = .ok (.iload 5, 2) := by decide +kernel
theorem d_Ch_evenest_81 : decode prog_3_method_7_code 81 = .ok (.iconst (-1), 1) := by decide +kernel
theorem d_Ch_evenest_82 : decode prog_3_method_7_code 82 = .ok (.if_icmp .eq 24, 3) := by decide +kernel
theorem d_Ch_evenest_85 : decode prog_3_method_7_code 85 = .ok (.iload 9, 2) := by decide +kernel
theorem d_Ch_evenest_87 : decode prog_3_method_7_code 87 = .ok (.iload 6, 2) := by decide +kernel
theorem d_Ch_evenest_89 : decode prog_3_method_7_code 89 = .ok (.if_icmp .lt 17, 3) := by decide +kernel
theorem d_Ch_evenest_92 : decode prog_3_method_7_code 92 = .ok (.iload 9, 2) := by decide +kernel
theorem d_Ch_evenest_94 : decode prog_3_method_7_code 94 = .ok (.iload 6, 2) := by decide +kernel
theorem d_Ch_evenest_96 : decode prog_3_method_7_code 96 = .ok (.if_icmp .ne 22, 3) := by decide +kernel
theorem d_Ch_evenest_99 : decode prog_3_method_7_code 99 = .ok (.iload 11, 2) := by decide +kernel
theorem d_Ch_evenest_101 : decode prog_3_method_7_code 101 = .ok (.iload 7, 2) := by decide +kernel
theorem d_Ch_evenest_103 : decode prog_3_method_7_code 103 = .ok (.if_icmp .ge 15, 3) := by decide +kernel
theorem d_Ch_evenest_106 : decode prog_3_method_7_code 106 = .ok (.iload 8, 2) := by decide +kernel
theorem d_Ch_evenest_108 : decode prog_3_method_7_code 108 = .ok (.istore 5, 2) := by decide +kernel
theorem d_Ch_evenest_110 : decode prog_3_method_7_code 110 = .ok (.iload 9, 2) := by decide +kernel
theorem d_Ch_evenest_112 : decode prog_3_method_7_code 112 = .ok (.istore 6, 2) := by decide +kernel
theorem d_Ch_evenest_114 : decode prog_3_method_7_code 114 = .ok (.iload 11, 2) := by decide +kernel
theorem d_Ch_evenest_116 : decode prog_3_method_7_code 116 = .ok (.istore 7, 2) := by decide +kernel
theorem d_Ch_evenest_118 : decode prog_3_method_7_code 118 = .ok (.iinc 8 1, 3) := by decide +kernel
theorem d_Ch_evenest_121 : decode prog_3_method_7_code 121 = .ok (.goto (-109), 3) := by decide +kernel
theorem d_Ch_evenest_124 : decode prog_3_method_7_code 124 = .ok (.iload 5, 2) := by decide +kernel
theorem d_Ch_evenest_126 : decode prog_3_method_7_code 126 = .ok (.ireturn, 1) := by decide +kernel
abbrev S_Ch_evenest : Type := Nat × Nat × Int64 × Int32 × Int32 × Int32 × Int32 × Int32 × Int32 × Int32 × Int32 × Int32 × AM
noncomputable def T_Ch_evenest_0 (v0R : Nat) (v1J : Int64) (v3I : Int32) (v4I : Int32) (σ : AM) : S_Ch_evenest ⊕ Option (Int32 × AM) :=
  .inl (1, v0R, v1J, v3I, v4I, ((-1) : Int32), (0 : Int32), (0 : Int32), (0 : Int32), 0, 0, 0, σ)
noncomputable def T_Ch_evenest_1 (v0R : Nat) (v1J : Int64) (v3I : Int32) (v4I : Int32) (v5I : Int32) (v6I : Int32) (v7I : Int32) (v8I : Int32) (σ : AM) : S_Ch_evenest ⊕ Option (Int32 × AM) :=
  gdT (okO σ v0R 6) <| gdT (okO σ (aR σ v0R 0) 1) <| bndT (M_Tw_sets (aR σ v0R 0) σ) fun r3 σ4 => if v8I < r3 then (bndT (M_St_has v1J v8I σ4) fun r5 σ6 => if r5 = 0 then (.inl (4, v0R, v1J, v3I, v4I, v5I, v6I, v7I, v8I, 0, 0, 0, σ6)) else (if v4I = 0 then (.inl (2, v0R, v1J, v3I, v4I, v5I, v6I, v7I, v8I, 0, 0, (0 : Int32), σ6)) else (gdT (okO σ6 v0R 6) <| gdT (okO σ6 (aR σ6 v0R 0) 1) <| bndT (M_Tw_costOf (aR σ6 v0R 0) v8I σ6) fun r9 σ10 => .inl (2, v0R, v1J, v3I, v4I, v5I, v6I, v7I, v8I, 0, 0, r9, σ10)))) else (.inr (some (v5I, σ4)))
noncomputable def T_Ch_evenest_2 (v0R : Nat) (v1J : Int64) (v3I : Int32) (v4I : Int32) (v5I : Int32) (v6I : Int32) (v7I : Int32) (v8I : Int32) (s0I : Int32) (σ : AM) : S_Ch_evenest ⊕ Option (Int32 × AM) :=
  gdT (okO σ v0R 6) <| gdT (okO σ (aR σ v0R 4) 102) <| bndT (M_St_counted (aR σ v0R 4) (aI σ v0R 5) v8I σ) fun r3 σ4 => letT (mxI r3 (v3I - r3)) fun x5 => if v5I = ((-1) : Int32) then (.inl (3, v0R, v1J, v3I, v4I, 0, 0, 0, v8I, s0I, x5, 0, σ4)) else (if s0I < v6I then (.inl (3, v0R, v1J, v3I, v4I, 0, 0, 0, v8I, s0I, x5, 0, σ4)) else (if s0I = v6I then (if x5 < v7I then (.inl (3, v0R, v1J, v3I, v4I, 0, 0, 0, v8I, s0I, x5, 0, σ4)) else (.inl (4, v0R, v1J, v3I, v4I, v5I, v6I, v7I, v8I, 0, 0, 0, σ4))) else (.inl (4, v0R, v1J, v3I, v4I, v5I, v6I, v7I, v8I, 0, 0, 0, σ4))))
noncomputable def T_Ch_evenest_3 (v0R : Nat) (v1J : Int64) (v3I : Int32) (v4I : Int32) (v8I : Int32) (v9I : Int32) (v11I : Int32) (σ : AM) : S_Ch_evenest ⊕ Option (Int32 × AM) :=
  .inl (4, v0R, v1J, v3I, v4I, v8I, v9I, v11I, v8I, 0, 0, 0, σ)
noncomputable def T_Ch_evenest_4 (v0R : Nat) (v1J : Int64) (v3I : Int32) (v4I : Int32) (v5I : Int32) (v6I : Int32) (v7I : Int32) (v8I : Int32) (σ : AM) : S_Ch_evenest ⊕ Option (Int32 × AM) :=
  .inl (1, v0R, v1J, v3I, v4I, v5I, v6I, v7I, v8I + (1 : Int32), 0, 0, 0, σ)
noncomputable def F_Ch_evenest : S_Ch_evenest → S_Ch_evenest ⊕ Option (Int32 × AM) := fun s => match s.1 with
  | 0 => T_Ch_evenest_0 (s.2.1) (s.2.2.1) (s.2.2.2.1) (s.2.2.2.2.1) (s.2.2.2.2.2.2.2.2.2.2.2.2)
  | 1 => T_Ch_evenest_1 (s.2.1) (s.2.2.1) (s.2.2.2.1) (s.2.2.2.2.1) (s.2.2.2.2.2.1) (s.2.2.2.2.2.2.1) (s.2.2.2.2.2.2.2.1) (s.2.2.2.2.2.2.2.2.1) (s.2.2.2.2.2.2.2.2.2.2.2.2)
  | 2 => T_Ch_evenest_2 (s.2.1) (s.2.2.1) (s.2.2.2.1) (s.2.2.2.2.1) (s.2.2.2.2.2.1) (s.2.2.2.2.2.2.1) (s.2.2.2.2.2.2.2.1) (s.2.2.2.2.2.2.2.2.1) (s.2.2.2.2.2.2.2.2.2.2.2.1) (s.2.2.2.2.2.2.2.2.2.2.2.2)
  | 3 => T_Ch_evenest_3 (s.2.1) (s.2.2.1) (s.2.2.2.1) (s.2.2.2.2.1) (s.2.2.2.2.2.2.2.2.1) (s.2.2.2.2.2.2.2.2.2.1) (s.2.2.2.2.2.2.2.2.2.2.1) (s.2.2.2.2.2.2.2.2.2.2.2.2)
  | _ => T_Ch_evenest_4 (s.2.1) (s.2.2.1) (s.2.2.2.1) (s.2.2.2.2.1) (s.2.2.2.2.2.1) (s.2.2.2.2.2.2.1) (s.2.2.2.2.2.2.2.1) (s.2.2.2.2.2.2.2.2.1) (s.2.2.2.2.2.2.2.2.2.2.2.2)
noncomputable def L_Ch_evenest_0 (v0R : Nat) (v1J : Int64) (v3I : Int32) (v4I : Int32) (σ : AM) : Option (Int32 × AM) := lp F_Ch_evenest (0, v0R, v1J, v3I, v4I, 0, 0, 0, 0, 0, 0, 0, σ)
noncomputable def L_Ch_evenest_1 (v0R : Nat) (v1J : Int64) (v3I : Int32) (v4I : Int32) (v5I : Int32) (v6I : Int32) (v7I : Int32) (v8I : Int32) (σ : AM) : Option (Int32 × AM) := lp F_Ch_evenest (1, v0R, v1J, v3I, v4I, v5I, v6I, v7I, v8I, 0, 0, 0, σ)
noncomputable def L_Ch_evenest_2 (v0R : Nat) (v1J : Int64) (v3I : Int32) (v4I : Int32) (v5I : Int32) (v6I : Int32) (v7I : Int32) (v8I : Int32) (s0I : Int32) (σ : AM) : Option (Int32 × AM) := lp F_Ch_evenest (2, v0R, v1J, v3I, v4I, v5I, v6I, v7I, v8I, 0, 0, s0I, σ)
noncomputable def L_Ch_evenest_3 (v0R : Nat) (v1J : Int64) (v3I : Int32) (v4I : Int32) (v8I : Int32) (v9I : Int32) (v11I : Int32) (σ : AM) : Option (Int32 × AM) := lp F_Ch_evenest (3, v0R, v1J, v3I, v4I, 0, 0, 0, v8I, v9I, v11I, 0, σ)
noncomputable def L_Ch_evenest_4 (v0R : Nat) (v1J : Int64) (v3I : Int32) (v4I : Int32) (v5I : Int32) (v6I : Int32) (v7I : Int32) (v8I : Int32) (σ : AM) : Option (Int32 × AM) := lp F_Ch_evenest (4, v0R, v1J, v3I, v4I, v5I, v6I, v7I, v8I, 0, 0, 0, σ)
set_option maxRecDepth 20000 in
theorem E_Ch_evenest_0 (v0R : Nat) (v1J : Int64) (v3I : Int32) (v4I : Int32) (σ : AM) : L_Ch_evenest_0 v0R v1J v3I v4I σ = (L_Ch_evenest_1 v0R v1J v3I v4I (((-1) : Int32)) ((0 : Int32)) ((0 : Int32)) ((0 : Int32)) σ) := by
  unfold L_Ch_evenest_0
  rw [lp_eq]
  show lpK (lp F_Ch_evenest) (T_Ch_evenest_0 v0R v1J v3I v4I σ) = _
  unfold T_Ch_evenest_0
  simp only [lpK_ite, lq_inl, lq_inr, lpK_bnd, lpK_gd, lq_let]
  try rfl
set_option maxRecDepth 20000 in
theorem E_Ch_evenest_1 (v0R : Nat) (v1J : Int64) (v3I : Int32) (v4I : Int32) (v5I : Int32) (v6I : Int32) (v7I : Int32) (v8I : Int32) (σ : AM) : L_Ch_evenest_1 v0R v1J v3I v4I v5I v6I v7I v8I σ = (gd (okO σ v0R 6) <| gd (okO σ (aR σ v0R 0) 1) <| bnd (M_Tw_sets (aR σ v0R 0) σ) fun r3 σ4 => if v8I < r3 then (bnd (M_St_has v1J v8I σ4) fun r5 σ6 => if r5 = 0 then (L_Ch_evenest_4 v0R v1J v3I v4I v5I v6I v7I v8I σ6) else (if v4I = 0 then (L_Ch_evenest_2 v0R v1J v3I v4I v5I v6I v7I v8I ((0 : Int32)) σ6) else (gd (okO σ6 v0R 6) <| gd (okO σ6 (aR σ6 v0R 0) 1) <| bnd (M_Tw_costOf (aR σ6 v0R 0) v8I σ6) fun r9 σ10 => L_Ch_evenest_2 v0R v1J v3I v4I v5I v6I v7I v8I r9 σ10))) else ((some (v5I, σ4)))) := by
  unfold L_Ch_evenest_1
  rw [lp_eq]
  show lpK (lp F_Ch_evenest) (T_Ch_evenest_1 v0R v1J v3I v4I v5I v6I v7I v8I σ) = _
  unfold T_Ch_evenest_1
  simp only [lpK_ite, lq_inl, lq_inr, lpK_bnd, lpK_gd, lq_let]
  try rfl
set_option maxRecDepth 20000 in
theorem E_Ch_evenest_2 (v0R : Nat) (v1J : Int64) (v3I : Int32) (v4I : Int32) (v5I : Int32) (v6I : Int32) (v7I : Int32) (v8I : Int32) (s0I : Int32) (σ : AM) : L_Ch_evenest_2 v0R v1J v3I v4I v5I v6I v7I v8I s0I σ = (gd (okO σ v0R 6) <| gd (okO σ (aR σ v0R 4) 102) <| bnd (M_St_counted (aR σ v0R 4) (aI σ v0R 5) v8I σ) fun r3 σ4 => letT (mxI r3 (v3I - r3)) fun x5 => if v5I = ((-1) : Int32) then (L_Ch_evenest_3 v0R v1J v3I v4I v8I s0I x5 σ4) else (if s0I < v6I then (L_Ch_evenest_3 v0R v1J v3I v4I v8I s0I x5 σ4) else (if s0I = v6I then (if x5 < v7I then (L_Ch_evenest_3 v0R v1J v3I v4I v8I s0I x5 σ4) else (L_Ch_evenest_4 v0R v1J v3I v4I v5I v6I v7I v8I σ4)) else (L_Ch_evenest_4 v0R v1J v3I v4I v5I v6I v7I v8I σ4)))) := by
  unfold L_Ch_evenest_2
  rw [lp_eq]
  show lpK (lp F_Ch_evenest) (T_Ch_evenest_2 v0R v1J v3I v4I v5I v6I v7I v8I s0I σ) = _
  unfold T_Ch_evenest_2
  simp only [lpK_ite, lq_inl, lq_inr, lpK_bnd, lpK_gd, lq_let]
  try rfl
set_option maxRecDepth 20000 in
theorem E_Ch_evenest_3 (v0R : Nat) (v1J : Int64) (v3I : Int32) (v4I : Int32) (v8I : Int32) (v9I : Int32) (v11I : Int32) (σ : AM) : L_Ch_evenest_3 v0R v1J v3I v4I v8I v9I v11I σ = (L_Ch_evenest_4 v0R v1J v3I v4I v8I v9I v11I v8I σ) := by
  unfold L_Ch_evenest_3
  rw [lp_eq]
  show lpK (lp F_Ch_evenest) (T_Ch_evenest_3 v0R v1J v3I v4I v8I v9I v11I σ) = _
  unfold T_Ch_evenest_3
  simp only [lpK_ite, lq_inl, lq_inr, lpK_bnd, lpK_gd, lq_let]
  try rfl
set_option maxRecDepth 20000 in
theorem E_Ch_evenest_4 (v0R : Nat) (v1J : Int64) (v3I : Int32) (v4I : Int32) (v5I : Int32) (v6I : Int32) (v7I : Int32) (v8I : Int32) (σ : AM) : L_Ch_evenest_4 v0R v1J v3I v4I v5I v6I v7I v8I σ = (L_Ch_evenest_1 v0R v1J v3I v4I v5I v6I v7I (v8I + (1 : Int32)) σ) := by
  unfold L_Ch_evenest_4
  rw [lp_eq]
  show lpK (lp F_Ch_evenest) (T_Ch_evenest_4 v0R v1J v3I v4I v5I v6I v7I v8I σ) = _
  unfold T_Ch_evenest_4
  simp only [lpK_ite, lq_inl, lq_inr, lpK_bnd, lpK_gd, lq_let]
  try rfl
noncomputable def M_Ch_evenest (v0R : Nat) (v1J : Int64) (v3I : Int32) (v4I : Int32) (σ : AM) : Option (Int32 × AM) := mw σ (L_Ch_evenest_0 v0R v1J v3I v4I σ)
def I_Ch_evenest (G : GX) (p : Program) (l : Launch) (e : Env) (s : State) (m : MethodId) (args : Array Value) (below : List Frame) (meth : Method) (c : Code) (z0 u0 n : Nat) : Prop :=
  (∀ (v0R : Nat) (v1J : Int64) (v3I : Int32) (v4I : Int32) (σ : AM), VX (QM eI G args s below z0 u0) G p l e s m args below meth c 3 z0 u0 12 (lpn F_Ch_evenest n (0, v0R, v1J, v3I, v4I, 0, 0, 0, 0, 0, 0, 0, σ)) 0 [(0, .ref v0R), (1, .long v1J), (3, .int v3I), (4, .int v4I)] [] σ) ∧
  (∀ (v0R : Nat) (v1J : Int64) (v3I : Int32) (v4I : Int32) (v5I : Int32) (v6I : Int32) (v7I : Int32) (v8I : Int32) (σ : AM), VX (QM eI G args s below z0 u0) G p l e s m args below meth c 3 z0 u0 12 (lpn F_Ch_evenest n (1, v0R, v1J, v3I, v4I, v5I, v6I, v7I, v8I, 0, 0, 0, σ)) 12 [(0, .ref v0R), (1, .long v1J), (3, .int v3I), (4, .int v4I), (5, .int v5I), (6, .int v6I), (7, .int v7I), (8, .int v8I)] [] σ) ∧
  (∀ (v0R : Nat) (v1J : Int64) (v3I : Int32) (v4I : Int32) (v5I : Int32) (v6I : Int32) (v7I : Int32) (v8I : Int32) (s0I : Int32) (σ : AM), VX (QM eI G args s below z0 u0) G p l e s m args below meth c 3 z0 u0 12 (lpn F_Ch_evenest n (2, v0R, v1J, v3I, v4I, v5I, v6I, v7I, v8I, 0, 0, s0I, σ)) 51 [(0, .ref v0R), (1, .long v1J), (3, .int v3I), (4, .int v4I), (5, .int v5I), (6, .int v6I), (7, .int v7I), (8, .int v8I)] [.int s0I] σ) ∧
  (∀ (v0R : Nat) (v1J : Int64) (v3I : Int32) (v4I : Int32) (v8I : Int32) (v9I : Int32) (v11I : Int32) (σ : AM), VX (QM eI G args s below z0 u0) G p l e s m args below meth c 3 z0 u0 12 (lpn F_Ch_evenest n (3, v0R, v1J, v3I, v4I, 0, 0, 0, v8I, v9I, v11I, 0, σ)) 106 [(0, .ref v0R), (1, .long v1J), (3, .int v3I), (4, .int v4I), (8, .int v8I), (9, .int v9I), (11, .int v11I)] [] σ) ∧
  (∀ (v0R : Nat) (v1J : Int64) (v3I : Int32) (v4I : Int32) (v5I : Int32) (v6I : Int32) (v7I : Int32) (v8I : Int32) (σ : AM), VX (QM eI G args s below z0 u0) G p l e s m args below meth c 3 z0 u0 12 (lpn F_Ch_evenest n (4, v0R, v1J, v3I, v4I, v5I, v6I, v7I, v8I, 0, 0, 0, σ)) 118 [(0, .ref v0R), (1, .long v1J), (3, .int v3I), (4, .int v4I), (5, .int v5I), (6, .int v6I), (7, .int v7I), (8, .int v8I)] [] σ)
set_option maxRecDepth 20000 in
theorem s_Ch_evenest_0 {G : GX} {p : Program} {l : Launch} {e : Env} {s : State} {m : MethodId} {args : Array Value} {below : List Frame} {meth : Method} {c : Code} {z0 u0 n : Nat} (C : Cx G p s m args meth c prog_3_method_7_code 12 "BellPlate$Chooser" ((some FieldType.int))) (IH : I_Ch_evenest G p l e s m args below meth c z0 u0 n) (v0R : Nat) (v1J : Int64) (v3I : Int32) (v4I : Int32) (σ : AM) : VX (QM eI G args s below z0 u0) G p l e s m args below meth c 3 z0 u0 12 (lpK (lpn F_Ch_evenest n) (T_Ch_evenest_0 v0R v1J v3I v4I σ)) 0 [(0, .ref v0R), (1, .long v1J), (3, .int v3I), (4, .int v4I)] [] σ := by
  unfold T_Ch_evenest_0
  refine x_iconst (v := ((-1) : Int32)) C d_Ch_evenest_0 (by decide) ?_
  refine x_istore (lv' := [(5, .int ((-1) : Int32)), (0, .ref v0R), (1, .long v1J), (3, .int v3I), (4, .int v4I)]) C d_Ch_evenest_1 (by decide) rfl ?_
  refine x_iconst (v := (0 : Int32)) C d_Ch_evenest_3 (by decide) ?_
  refine x_istore (lv' := [(6, .int (0 : Int32)), (5, .int ((-1) : Int32)), (0, .ref v0R), (1, .long v1J), (3, .int v3I), (4, .int v4I)]) C d_Ch_evenest_4 (by decide) rfl ?_
  refine x_iconst (v := (0 : Int32)) C d_Ch_evenest_6 (by decide) ?_
  refine x_istore (lv' := [(7, .int (0 : Int32)), (6, .int (0 : Int32)), (5, .int ((-1) : Int32)), (0, .ref v0R), (1, .long v1J), (3, .int v3I), (4, .int v4I)]) C d_Ch_evenest_7 (by decide) rfl ?_
  refine x_iconst (v := (0 : Int32)) C d_Ch_evenest_9 (by decide) ?_
  refine x_istore (lv' := [(8, .int (0 : Int32)), (7, .int (0 : Int32)), (6, .int (0 : Int32)), (5, .int ((-1) : Int32)), (0, .ref v0R), (1, .long v1J), (3, .int v3I), (4, .int v4I)]) C d_Ch_evenest_10 (by decide) rfl ?_
  refine x_lv [4, 5, 6, 7, 3, 2, 1, 0] rfl ?_
  exact IH.2.1 v0R v1J v3I v4I (((-1) : Int32)) ((0 : Int32)) ((0 : Int32)) ((0 : Int32)) (σ)
set_option maxRecDepth 20000 in
theorem s_Ch_evenest_1 {G : GX} {p : Program} {l : Launch} {e : Env} {s : State} {m : MethodId} {args : Array Value} {below : List Frame} {meth : Method} {c : Code} {z0 u0 n : Nat} (C : Cx G p s m args meth c prog_3_method_7_code 12 "BellPlate$Chooser" ((some FieldType.int))) (IH : I_Ch_evenest G p l e s m args below meth c z0 u0 n) (v0R : Nat) (v1J : Int64) (v3I : Int32) (v4I : Int32) (v5I : Int32) (v6I : Int32) (v7I : Int32) (v8I : Int32) (σ : AM) : VX (QM eI G args s below z0 u0) G p l e s m args below meth c 3 z0 u0 12 (lpK (lpn F_Ch_evenest n) (T_Ch_evenest_1 v0R v1J v3I v4I v5I v6I v7I v8I σ)) 12 [(0, .ref v0R), (1, .long v1J), (3, .int v3I), (4, .int v4I), (5, .int v5I), (6, .int v6I), (7, .int v7I), (8, .int v8I)] [] σ := by
  unfold T_Ch_evenest_1
  refine x_iload C d_Ch_evenest_12 7 rfl ?_
  refine x_aload_n C d_Ch_evenest_14 0 rfl ?_
  refine x_gd (fun h1 => ?_)
  refine x_gd (fun h2 => ?_)
  refine x_getR (k := 0) (kv := 1) C (okO_iff.mp h1) rfl j5_ok (by decide) rfl (okO_iff.mp h2) (by decide) w379 d_Ch_evenest_15 ?_
  refine x_callVI (As := []) C (c_Tw_sets G l (aR σ v0R 0)  σ) (okO_iff.mp h2) rfl w600 w601 w1179 w602 w122 k_Tw_sets rfl (by decide) (by decide) rfl (Nat.le_of_ble_eq_true rfl) d_Ch_evenest_18 (fun r3 σ4 => ?_)
  refine x_icmp_ge (tgt := 124) C d_Ch_evenest_21 (by decide) (fun _ => ?_) (fun _ => ?_)
  · refine x_lload_n C d_Ch_evenest_24 1 rfl ?_
    refine x_iload C d_Ch_evenest_25 7 rfl ?_
    refine x_callSI (As := [.long v1J, .int v8I]) C (c_St_has G l v1J v8I σ4) w1101 w1180 w1102 w141 k_St_has rfl (by decide) (by decide) rfl (Nat.le_of_ble_eq_true rfl) d_Ch_evenest_27 (fun r5 σ6 => ?_)
    refine x_if_eq (tgt := 118) C d_Ch_evenest_30 (by decide) (fun _ => ?_) (fun _ => ?_)
    · exact IH.2.2.2.2 v0R v1J v3I v4I v5I v6I v7I v8I (σ6)
    · refine x_iload C d_Ch_evenest_33 3 rfl ?_
      refine x_if_eq (tgt := 50) C d_Ch_evenest_35 (by decide) (fun _ => ?_) (fun _ => ?_)
      · refine x_iconst (v := (0 : Int32)) C d_Ch_evenest_50 (by decide) ?_
        exact IH.2.2.1 v0R v1J v3I v4I v5I v6I v7I v8I ((0 : Int32)) (σ6)
      · refine x_aload_n C d_Ch_evenest_38 0 rfl ?_
        refine x_gd (fun h7 => ?_)
        refine x_gd (fun h8 => ?_)
        refine x_getR (k := 0) (kv := 1) C (okO_iff.mp h7) rfl j5_ok (by decide) rfl (okO_iff.mp h8) (by decide) w379 d_Ch_evenest_39 ?_
        refine x_iload C d_Ch_evenest_42 7 rfl ?_
        refine x_callVI (As := [.int v8I]) C (c_Tw_costOf G l (aR σ6 v0R 0) v8I σ6) (okO_iff.mp h8) rfl w1009 w1010 w1188 w1011 w122 k_Tw_costOf rfl (by decide) (by decide) rfl (Nat.le_of_ble_eq_true rfl) d_Ch_evenest_44 (fun r9 σ10 => ?_)
        refine x_goto (tgt := 51) C d_Ch_evenest_47 (by decide) ?_
        exact IH.2.2.1 v0R v1J v3I v4I v5I v6I v7I v8I r9 (σ10)
  · refine x_iload C d_Ch_evenest_124 4 rfl ?_
    exact x_iret C d_Ch_evenest_126
set_option maxRecDepth 20000 in
theorem s_Ch_evenest_2 {G : GX} {p : Program} {l : Launch} {e : Env} {s : State} {m : MethodId} {args : Array Value} {below : List Frame} {meth : Method} {c : Code} {z0 u0 n : Nat} (C : Cx G p s m args meth c prog_3_method_7_code 12 "BellPlate$Chooser" ((some FieldType.int))) (IH : I_Ch_evenest G p l e s m args below meth c z0 u0 n) (v0R : Nat) (v1J : Int64) (v3I : Int32) (v4I : Int32) (v5I : Int32) (v6I : Int32) (v7I : Int32) (v8I : Int32) (s0I : Int32) (σ : AM) : VX (QM eI G args s below z0 u0) G p l e s m args below meth c 3 z0 u0 12 (lpK (lpn F_Ch_evenest n) (T_Ch_evenest_2 v0R v1J v3I v4I v5I v6I v7I v8I s0I σ)) 51 [(0, .ref v0R), (1, .long v1J), (3, .int v3I), (4, .int v4I), (5, .int v5I), (6, .int v6I), (7, .int v7I), (8, .int v8I)] [.int s0I] σ := by
  unfold T_Ch_evenest_2
  refine x_istore (lv' := [(9, .int s0I), (0, .ref v0R), (1, .long v1J), (3, .int v3I), (4, .int v4I), (5, .int v5I), (6, .int v6I), (7, .int v7I), (8, .int v8I)]) C d_Ch_evenest_51 (by decide) rfl ?_
  refine x_aload_n C d_Ch_evenest_53 1 rfl ?_
  refine x_gd (fun h1 => ?_)
  refine x_gd (fun h2 => ?_)
  refine x_getR (k := 4) (kv := 102) C (okO_iff.mp h1) rfl j5_ok (by decide) rfl (okO_iff.mp h2) (by decide) w383 d_Ch_evenest_54 ?_
  refine x_aload_n C d_Ch_evenest_57 1 rfl ?_
  refine x_getI (k := 5) C (okO_iff.mp h1) rfl j5_ok (by decide) rfl w384 d_Ch_evenest_58 ?_
  refine x_iload C d_Ch_evenest_61 8 rfl ?_
  refine x_callSI (As := [.ref (aR σ v0R 4), .int (aI σ v0R 5), .int v8I]) C (c_St_counted G l (aR σ v0R 4) (aI σ v0R 5) v8I σ) w1182 w1181 w1183 w141 k_St_counted rfl (by decide) (by decide) rfl (Nat.le_of_ble_eq_true rfl) d_Ch_evenest_63 (fun r3 σ4 => ?_)
  refine x_istore (lv' := [(10, .int r3), (9, .int s0I), (0, .ref v0R), (1, .long v1J), (3, .int v3I), (4, .int v4I), (5, .int v5I), (6, .int v6I), (7, .int v7I), (8, .int v8I)]) C d_Ch_evenest_66 (by decide) rfl ?_
  refine x_iload C d_Ch_evenest_68 0 rfl ?_
  refine x_iload_n C d_Ch_evenest_70 4 rfl ?_
  refine x_iload C d_Ch_evenest_71 0 rfl ?_
  refine x_isub C d_Ch_evenest_73 ?_
  refine x_mmax C w1189 (by decide) (Nat.le_of_ble_eq_true rfl) d_Ch_evenest_74 ?_
  refine x_letI (fun x5 _ => ?_)
  refine x_istore (lv' := [(11, .int x5), (10, .int r3), (9, .int s0I), (0, .ref v0R), (1, .long v1J), (3, .int v3I), (4, .int v4I), (5, .int v5I), (6, .int v6I), (7, .int v7I), (8, .int v8I)]) C d_Ch_evenest_77 (by decide) rfl ?_
  refine x_iload C d_Ch_evenest_79 7 rfl ?_
  refine x_iconst (v := ((-1) : Int32)) C d_Ch_evenest_81 (by decide) ?_
  refine x_icmp_eq (tgt := 106) C d_Ch_evenest_82 (by decide) (fun _ => ?_) (fun _ => ?_)
  · refine x_lv [3, 4, 5, 6, 10, 2, 0] rfl ?_
    exact IH.2.2.2.1 v0R v1J v3I v4I v8I s0I x5 (σ4)
  · refine x_iload C d_Ch_evenest_85 2 rfl ?_
    refine x_iload C d_Ch_evenest_87 8 rfl ?_
    refine x_icmp_lt (tgt := 106) C d_Ch_evenest_89 (by decide) (fun _ => ?_) (fun _ => ?_)
    · refine x_lv [3, 4, 5, 6, 10, 2, 0] rfl ?_
      exact IH.2.2.2.1 v0R v1J v3I v4I v8I s0I x5 (σ4)
    · refine x_iload C d_Ch_evenest_92 2 rfl ?_
      refine x_iload C d_Ch_evenest_94 8 rfl ?_
      refine x_icmp_ne (tgt := 118) C d_Ch_evenest_96 (by decide) (fun _ => ?_) (fun _ => ?_)
      · refine x_iload C d_Ch_evenest_99 0 rfl ?_
        refine x_iload C d_Ch_evenest_101 9 rfl ?_
        refine x_icmp_ge (tgt := 118) C d_Ch_evenest_103 (by decide) (fun _ => ?_) (fun _ => ?_)
        · refine x_lv [3, 4, 5, 6, 10, 2, 0] rfl ?_
          exact IH.2.2.2.1 v0R v1J v3I v4I v8I s0I x5 (σ4)
        · refine x_lv [3, 4, 5, 6, 7, 8, 9, 10] rfl ?_
          exact IH.2.2.2.2 v0R v1J v3I v4I v5I v6I v7I v8I (σ4)
      · refine x_lv [3, 4, 5, 6, 7, 8, 9, 10] rfl ?_
        exact IH.2.2.2.2 v0R v1J v3I v4I v5I v6I v7I v8I (σ4)
set_option maxRecDepth 20000 in
theorem s_Ch_evenest_3 {G : GX} {p : Program} {l : Launch} {e : Env} {s : State} {m : MethodId} {args : Array Value} {below : List Frame} {meth : Method} {c : Code} {z0 u0 n : Nat} (C : Cx G p s m args meth c prog_3_method_7_code 12 "BellPlate$Chooser" ((some FieldType.int))) (IH : I_Ch_evenest G p l e s m args below meth c z0 u0 n) (v0R : Nat) (v1J : Int64) (v3I : Int32) (v4I : Int32) (v8I : Int32) (v9I : Int32) (v11I : Int32) (σ : AM) : VX (QM eI G args s below z0 u0) G p l e s m args below meth c 3 z0 u0 12 (lpK (lpn F_Ch_evenest n) (T_Ch_evenest_3 v0R v1J v3I v4I v8I v9I v11I σ)) 106 [(0, .ref v0R), (1, .long v1J), (3, .int v3I), (4, .int v4I), (8, .int v8I), (9, .int v9I), (11, .int v11I)] [] σ := by
  unfold T_Ch_evenest_3
  refine x_iload C d_Ch_evenest_106 4 rfl ?_
  refine x_istore (lv' := [(5, .int v8I), (0, .ref v0R), (1, .long v1J), (3, .int v3I), (4, .int v4I), (8, .int v8I), (9, .int v9I), (11, .int v11I)]) C d_Ch_evenest_108 (by decide) rfl ?_
  refine x_iload C d_Ch_evenest_110 6 rfl ?_
  refine x_istore (lv' := [(6, .int v9I), (5, .int v8I), (0, .ref v0R), (1, .long v1J), (3, .int v3I), (4, .int v4I), (8, .int v8I), (9, .int v9I), (11, .int v11I)]) C d_Ch_evenest_112 (by decide) rfl ?_
  refine x_iload C d_Ch_evenest_114 8 rfl ?_
  refine x_istore (lv' := [(7, .int v11I), (6, .int v9I), (5, .int v8I), (0, .ref v0R), (1, .long v1J), (3, .int v3I), (4, .int v4I), (8, .int v8I), (9, .int v9I), (11, .int v11I)]) C d_Ch_evenest_116 (by decide) rfl ?_
  refine x_lv [3, 4, 5, 6, 2, 1, 0, 7] rfl ?_
  exact IH.2.2.2.2 v0R v1J v3I v4I v8I v9I v11I v8I (σ)
set_option maxRecDepth 20000 in
theorem s_Ch_evenest_4 {G : GX} {p : Program} {l : Launch} {e : Env} {s : State} {m : MethodId} {args : Array Value} {below : List Frame} {meth : Method} {c : Code} {z0 u0 n : Nat} (C : Cx G p s m args meth c prog_3_method_7_code 12 "BellPlate$Chooser" ((some FieldType.int))) (IH : I_Ch_evenest G p l e s m args below meth c z0 u0 n) (v0R : Nat) (v1J : Int64) (v3I : Int32) (v4I : Int32) (v5I : Int32) (v6I : Int32) (v7I : Int32) (v8I : Int32) (σ : AM) : VX (QM eI G args s below z0 u0) G p l e s m args below meth c 3 z0 u0 12 (lpK (lpn F_Ch_evenest n) (T_Ch_evenest_4 v0R v1J v3I v4I v5I v6I v7I v8I σ)) 118 [(0, .ref v0R), (1, .long v1J), (3, .int v3I), (4, .int v4I), (5, .int v5I), (6, .int v6I), (7, .int v7I), (8, .int v8I)] [] σ := by
  unfold T_Ch_evenest_4
  refine x_iinc (v := v8I + (1 : Int32)) (lv' := [(8, .int (v8I + (1 : Int32))), (0, .ref v0R), (1, .long v1J), (3, .int v3I), (4, .int v4I), (5, .int v5I), (6, .int v6I), (7, .int v7I)]) C d_Ch_evenest_118 7 rfl rfl (by decide) rfl ?_
  refine x_goto (tgt := 12) C d_Ch_evenest_121 (by decide) ?_
  refine x_lv [1, 2, 3, 4, 5, 6, 7, 0] rfl ?_
  exact IH.2.1 v0R v1J v3I v4I v5I v6I v7I (v8I + (1 : Int32)) (σ)
theorem i_Ch_evenest {G : GX} {p : Program} {l : Launch} {e : Env} {s : State} {m : MethodId} {args : Array Value} {below : List Frame} {meth : Method} {c : Code} {z0 u0 : Nat} (C : Cx G p s m args meth c prog_3_method_7_code 12 "BellPlate$Chooser" ((some FieldType.int))) (n : Nat) : I_Ch_evenest G p l e s m args below meth c z0 u0 n := by
  induction n with
  | zero => exact ⟨fun _ _ _ _ _ => x_none, fun _ _ _ _ _ _ _ _ _ => x_none, fun _ _ _ _ _ _ _ _ _ _ => x_none, fun _ _ _ _ _ _ _ _ => x_none, fun _ _ _ _ _ _ _ _ _ => x_none⟩
  | succ n IH => exact ⟨fun v0R v1J v3I v4I σ => s_Ch_evenest_0 C IH v0R v1J v3I v4I σ, fun v0R v1J v3I v4I v5I v6I v7I v8I σ => s_Ch_evenest_1 C IH v0R v1J v3I v4I v5I v6I v7I v8I σ, fun v0R v1J v3I v4I v5I v6I v7I v8I s0I σ => s_Ch_evenest_2 C IH v0R v1J v3I v4I v5I v6I v7I v8I s0I σ, fun v0R v1J v3I v4I v8I v9I v11I σ => s_Ch_evenest_3 C IH v0R v1J v3I v4I v8I v9I v11I σ, fun v0R v1J v3I v4I v5I v6I v7I v8I σ => s_Ch_evenest_4 C IH v0R v1J v3I v4I v5I v6I v7I v8I σ⟩
theorem c_Ch_evenest (G : GX) (l : Launch) (v0R : Nat) (v1J : Int64) (v3I : Int32) (v4I : Int32) (σ : AM) : CT eI G l 3 y_Ch_evenest prog_3_method_7_code 12 ((some FieldType.int)) [.ref v0R, .long v1J, .int v3I, .int v4I] σ (M_Ch_evenest v0R v1J v3I v4I σ) := by
  refine ct_of (by decide +kernel) (Nat.le_of_ble_eq_true rfl) (fun p e s m args below meth c C hin => ?_)
  refine x_lve (lv' := [(0, .ref v0R), (1, .long v1J), (3, .int v3I), (4, .int v4I)]) rfl ?_
  intro r σ' h
  obtain ⟨n, hn⟩ := (lp_iff _ _ _).mp h
  exact (i_Ch_evenest C n).1 v0R v1J v3I v4I σ r σ' hn
/-! BellPlate$Chooser.pick([IIII)I -/
abbrev y_Ch_pick : MethodName := ⟨"BellPlate$Chooser", "pick", "([IIII)I"⟩
theorem k_Ch_pick : y_Ch_pick.cls ≠ "java/lang/invoke/MethodHandle" ∧ y_Ch_pick.cls ≠ "java/lang/invoke/VarHandle" ∧ (parseMethodDescriptor y_Ch_pick.desc).map (fun d => d.parameters.length) = some 4 := by decide +kernel
theorem d_Ch_pick_0 : decode prog_3_method_3_code 0 = .ok (.aload_n 0, 1) := by decide +kernel
theorem d_Ch_pick_1 : decode prog_3_method_3_code 1 = .ok (.getfield 27, 3) := by decide +kernel
theorem d_Ch_pick_4 : decode prog_3_method_3_code 4 = .ok (.lconst 0, 1) := by decide +kernel
theorem d_Ch_pick_5 : decode prog_3_method_3_code 5 = .ok (.invokestatic 65, 3) := by decide +kernel
theorem d_Ch_pick_8 : decode prog_3_method_3_code 8 = .ok (.lconst 0, 1) := by decide +kernel
theorem d_Ch_pick_9 : decode prog_3_method_3_code 9 = .ok (.lstore 5, 2) := by decide +kernel
theorem d_Ch_pick_11 : decode prog_3_method_3_code 11 = .ok (.ldc2_w 68, 3) := by decide +kernel
theorem d_Ch_pick_14 : decode prog_3_method_3_code 14 = .ok (.lstore 7, 2) := by decide +kernel
theorem d_Ch_pick_16 : decode prog_3_method_3_code 16 = .ok (.iconst 0, 1) := by decide +kernel
theorem d_Ch_pick_17 : decode prog_3_method_3_code 17 = .ok (.istore 9, 2) := by decide +kernel
theorem d_Ch_pick_19 : decode prog_3_method_3_code 19 = .ok (.iload_n 2, 1) := by decide +kernel
theorem d_Ch_pick_20 : decode prog_3_method_3_code 20 = .ok (.istore 10, 2) := by decide +kernel
theorem d_Ch_pick_22 : decode prog_3_method_3_code 22 = .ok (.iload 10, 2) := by decide +kernel
theorem d_Ch_pick_24 : decode prog_3_method_3_code 24 = .ok (.iload_n 3, 1) := by decide +kernel
theorem d_Ch_pick_25 : decode prog_3_method_3_code 25 = .ok (.if_icmp .ge 74, 3) := by decide +kernel
theorem d_Ch_pick_28 : decode prog_3_method_3_code 28 = .ok (.aload_n 0, 1) := by decide +kernel
theorem d_Ch_pick_29 : decode prog_3_method_3_code 29 = .ok (.getfield 15, 3) := by decide +kernel
theorem d_Ch_pick_32 : decode prog_3_method_3_code 32 = .ok (.aload_n 1, 1) := by decide +kernel
theorem d_Ch_pick_33 : decode prog_3_method_3_code 33 = .ok (.iload 10, 2) := by decide +kernel
theorem d_Ch_pick_35 : decode prog_3_method_3_code 35 = .ok (.iaload, 1) := by decide +kernel
theorem d_Ch_pick_36 : decode prog_3_method_3_code 36 = .ok (.invokevirtual 70, 3) := by decide +kernel
theorem d_Ch_pick_39 : decode prog_3_method_3_code 39 = .ok (.lstore 11, 2) := by decide +kernel
theorem d_Ch_pick_41 : decode prog_3_method_3_code 41 = .ok (.lload 5, 2) := by decide +kernel
theorem d_Ch_pick_43 : decode prog_3_method_3_code 43 = .ok (.lload 11, 2) := by decide +kernel
theorem d_Ch_pick_45 : decode prog_3_method_3_code 45 = .ok (.lor, 1) := by decide +kernel
theorem d_Ch_pick_46 : decode prog_3_method_3_code 46 = .ok (.lstore 5, 2) := by decide +kernel
theorem d_Ch_pick_48 : decode prog_3_method_3_code 48 = .ok (.lload 7, 2) := by decide +kernel
theorem d_Ch_pick_50 : decode prog_3_method_3_code 50 = .ok (.lload 11, 2) := by decide +kernel
theorem d_Ch_pick_52 : decode prog_3_method_3_code 52 = .ok (.land, 1) := by decide +kernel
theorem d_Ch_pick_53 : decode prog_3_method_3_code 53 = .ok (.lstore 7, 2) := by decide +kernel
theorem d_Ch_pick_55 : decode prog_3_method_3_code 55 = .ok (.iload 4, 2) := by decide +kernel
theorem d_Ch_pick_57 : decode prog_3_method_3_code 57 = .ok (.iconst 1, 1) := by decide +kernel
theorem d_Ch_pick_58 : decode prog_3_method_3_code 58 = .ok (.if_icmp .ne 17, 3) := by decide +kernel
theorem d_Ch_pick_61 : decode prog_3_method_3_code 61 = .ok (.aload_n 0, 1) := by decide +kernel
theorem d_Ch_pick_62 : decode prog_3_method_3_code 62 = .ok (.getfield 15, 3) := by decide +kernel
theorem d_Ch_pick_65 : decode prog_3_method_3_code 65 = .ok (.aload_n 1, 1) := by decide +kernel
theorem d_Ch_pick_66 : decode prog_3_method_3_code 66 = .ok (.iload 10, 2) := by decide +kernel
theorem d_Ch_pick_68 : decode prog_3_method_3_code 68 = .ok (.iaload, 1) := by decide +kernel
theorem d_Ch_pick_69 : decode prog_3_method_3_code 69 = .ok (.invokevirtual 76, 3) := by decide +kernel
theorem d_Ch_pick_72 : decode prog_3_method_3_code 72 = .ok (.goto 4, 3) := by decide +kernel
theorem d_Ch_pick_75 : decode prog_3_method_3_code 75 = .ok (.iconst 1, 1) := by decide +kernel
theorem d_Ch_pick_76 : decode prog_3_method_3_code 76 = .ok (.istore 13, 2) := by decide +kernel
theorem d_Ch_pick_78 : decode prog_3_method_3_code 78 = .ok (.aload_n 0, 1) := by decide +kernel
theorem d_Ch_pick_79 : decode prog_3_method_3_code 79 = .ok (.lload 11, 2) := by decide +kernel
theorem d_Ch_pick_81 : decode prog_3_method_3_code 81 = .ok (.iload 13, 2) := by decide +kernel
theorem d_Ch_pick_83 : decode prog_3_method_3_code 83 = .ok (.invokevirtual 80, 3) := by decide +kernel
theorem d_Ch_pick_86 : decode prog_3_method_3_code 86 = .ok (.iload 9, 2) := by decide +kernel
theorem d_Ch_pick_88 : decode prog_3_method_3_code 88 = .ok (.iload 13, 2) := by decide +kernel
theorem d_Ch_pick_90 : decode prog_3_method_3_code 90 = .ok (.iadd, 1) := by decide +kernel
theorem d_Ch_pick_91 : decode prog_3_method_3_code 91 = .ok (.istore 9, 2) := by decide +kernel
theorem d_Ch_pick_93 : decode prog_3_method_3_code 93 = .ok (.iinc 10 1, 3) := by decide +kernel
theorem d_Ch_pick_96 : decode prog_3_method_3_code 96 = .ok (.goto (-74), 3) := by decide +kernel
theorem d_Ch_pick_99 : decode prog_3_method_3_code 99 = .ok (.aload_n 0, 1) := by decide +kernel
theorem d_Ch_pick_100 : decode prog_3_method_3_code 100 = .ok (.iload 9, 2) := by decide +kernel
theorem d_Ch_pick_102 : decode prog_3_method_3_code 102 = .ok (.invokestatic 84, 3) := by decide +kernel
theorem d_Ch_pick_105 : decode prog_3_method_3_code 105 = .ok (.putfield 87, 3) := by decide +kernel
theorem d_Ch_pick_108 : decode prog_3_method_3_code 108 = .ok (.lload 5, 2) := by decide +kernel
theorem d_Ch_pick_110 : decode prog_3_method_3_code 110 = .ok (.lload 7, 2) := by decide +kernel
theorem d_Ch_pick_112 : decode prog_3_method_3_code 112 = .ok (.ldc2_w 68, 3) := by decide +kernel
theorem d_Ch_pick_115 : decode prog_3_method_3_code 115 = .ok (.lxor, 1) := by decide +kernel
theorem d_Ch_pick_116 : decode prog_3_method_3_code 116 = .ok (.land, 1) := by decide +kernel
theorem d_Ch_pick_117 : decode prog_3_method_3_code 117 = .ok (.lstore 10, 2) := by decide +kernel
theorem d_Ch_pick_119 : decode prog_3_method_3_code 119 = .ok (.iload 4, 2) := by decide +kernel
theorem d_Ch_pick_121 : decode prog_3_method_3_code 121 = .ok (.iconst 1, 1) := by decide +kernel
theorem d_Ch_pick_122 : decode prog_3_method_3_code 122 = .ok (.if_icmp .ne 12, 3) := by decide +kernel
theorem d_Ch_pick_125 : decode prog_3_method_3_code 125 = .ok (.aload_n 0, 1) := by decide +kernel
theorem d_Ch_pick_126 : decode prog_3_method_3_code 126 = .ok (.lload 10, 2) := by decide +kernel
theorem d_Ch_pick_128 : decode prog_3_method_3_code 128 = .ok (.invokevirtual 90, 3) := by decide +kernel
theorem d_Ch_pick_131 : decode prog_3_method_3_code 131 = .ok (.goto 22, 3) := by decide +kernel
theorem d_Ch_pick_134 : decode prog_3_method_3_code 134 = .ok (.aload_n 0, 1) := by decide +kernel
theorem d_Ch_pick_135 : decode prog_3_method_3_code 135 = .ok (.lload 10, 2) := by decide +kernel
theorem d_Ch_pick_137 : decode prog_3_method_3_code 137 = .ok (.iload 9, 2) := by decide +kernel
theorem d_Ch_pick_139 : decode prog_3_method_3_code 139 = .ok (.iload 4, 2) := by decide +kernel
theorem d_Ch_pick_141 : decode prog_3_method_3_code 141 = .ok (.iconst 2, 1) := by decide +kernel
theorem d_Ch_pick_142 : decode prog_3_method_3_code 142 = .ok (.if_icmp .ne 7, 3) := by decide +kernel
theorem d_Ch_pick_145 : decode prog_3_method_3_code 145 = .ok (.iconst 1, 1) := by decide +kernel
theorem d_Ch_pick_146 : decode prog_3_method_3_code 146 = .ok (.goto 4, 3) := by decide +kernel
theorem d_Ch_pick_149 : decode prog_3_method_3_code 149 = .ok (.iconst 0, 1) := by decide +kernel
theorem d_Ch_pick_150 : decode prog_3_method_3_code 150 = .ok (.invokevirtual 94, 3) := by decide +kernel
theorem d_Ch_pick_153 : decode prog_3_method_3_code 153 = .ok (.ireturn, 1) := by decide +kernel
abbrev S_Ch_pick : Type := Nat × Nat × Nat × Int32 × Int32 × Int32 × Int64 × Int64 × Int32 × Int32 × Int64 × Int32 × Nat × Int64 × Int32 × Int32 × AM
noncomputable def T_Ch_pick_0 (v0R : Nat) (v1R : Nat) (v2I : Int32) (v3I : Int32) (v4I : Int32) (σ : AM) : S_Ch_pick ⊕ Option (Int32 × AM) :=
  gdT (okO σ v0R 6) <| gdT (okO σ (aR σ v0R 4) 102) <| bndT (M_JArr_fill (aR σ v0R 4) (0 : Int64) σ) fun _ σ4 => .inl (1, v0R, v1R, 0, v3I, v4I, (0 : Int64), ((-1) : Int64), (0 : Int32), v2I, 0, 0, 0, 0, 0, 0, σ4)
noncomputable def T_Ch_pick_1 (v0R : Nat) (v1R : Nat) (v3I : Int32) (v4I : Int32) (v5J : Int64) (v7J : Int64) (v9I : Int32) (v10I : Int32) (σ : AM) : S_Ch_pick ⊕ Option (Int32 × AM) :=
  if v10I < v3I then (gdT (okO σ v0R 6) <| gdT (okO σ (aR σ v0R 1) 3) <| gdT (okO σ v1R 101) <| gdT (inB v10I (aN σ v1R)) <| bndT (M_Ls_at (aR σ v0R 1) (aI σ v1R v10I.toNatClampNeg) σ) fun r5 σ6 => letT (v5J ||| r5) fun x7 => letT (v7J &&& r5) fun x8 => if v4I = (1 : Int32) then (gdT (okO σ6 v0R 6) <| gdT (okO σ6 (aR σ6 v0R 1) 3) <| gdT (okO σ6 v1R 101) <| gdT (inB v10I (aN σ6 v1R)) <| bndT (M_Ls_share (aR σ6 v0R 1) (aI σ6 v1R v10I.toNatClampNeg) σ6) fun r13 σ14 => .inl (2, v0R, v1R, 0, v3I, v4I, x7, x8, v9I, v10I, r5, r13, 0, 0, 0, 0, σ14)) else (.inl (2, v0R, v1R, 0, v3I, v4I, x7, x8, v9I, v10I, r5, (1 : Int32), 0, 0, 0, 0, σ6))) else (bndT (M_Ch_bitsOf v9I σ) fun r15 σ16 => gdT (okO σ16 v0R 6) <| letT (sI σ16 v0R 5 r15) fun σ18 => letT (v5J &&& (v7J ^^^ ((-1) : Int64))) fun x20 => if v4I = (1 : Int32) then (bndT (M_Ch_stillest v0R x20 σ18) fun r21 σ22 => .inl (4, 0, 0, 0, 0, 0, 0, 0, 0, 0, 0, r21, 0, 0, 0, 0, σ22)) else (if v4I = (2 : Int32) then (.inl (3, 0, 0, 0, 0, 0, 0, 0, 0, 0, 0, 0, v0R, x20, v9I, (1 : Int32), σ18)) else (.inl (3, 0, 0, 0, 0, 0, 0, 0, 0, 0, 0, 0, v0R, x20, v9I, (0 : Int32), σ18))))
noncomputable def T_Ch_pick_2 (v0R : Nat) (v1R : Nat) (v3I : Int32) (v4I : Int32) (v5J : Int64) (v7J : Int64) (v9I : Int32) (v10I : Int32) (v11J : Int64) (s0I : Int32) (σ : AM) : S_Ch_pick ⊕ Option (Int32 × AM) :=
  gdT (okO σ v0R 6) <| bndT (M_Ch_addTimes v0R v11J s0I σ) fun _ σ2 => letT (v9I + s0I) fun x4 => .inl (1, v0R, v1R, 0, v3I, v4I, v5J, v7J, x4, v10I + (1 : Int32), 0, 0, 0, 0, 0, 0, σ2)
noncomputable def T_Ch_pick_3 (s0R : Nat) (s1J : Int64) (s2I : Int32) (s3I : Int32) (σ : AM) : S_Ch_pick ⊕ Option (Int32 × AM) :=
  gdT (okO σ s0R 6) <| bndT (M_Ch_evenest s0R s1J s2I s3I σ) fun r1 σ2 => .inl (4, 0, 0, 0, 0, 0, 0, 0, 0, 0, 0, r1, 0, 0, 0, 0, σ2)
noncomputable def T_Ch_pick_4 (s0I : Int32) (σ : AM) : S_Ch_pick ⊕ Option (Int32 × AM) :=
  .inr (some (s0I, σ))
noncomputable def F_Ch_pick : S_Ch_pick → S_Ch_pick ⊕ Option (Int32 × AM) := fun s => match s.1 with
  | 0 => T_Ch_pick_0 (s.2.1) (s.2.2.1) (s.2.2.2.1) (s.2.2.2.2.1) (s.2.2.2.2.2.1) (s.2.2.2.2.2.2.2.2.2.2.2.2.2.2.2.2)
  | 1 => T_Ch_pick_1 (s.2.1) (s.2.2.1) (s.2.2.2.2.1) (s.2.2.2.2.2.1) (s.2.2.2.2.2.2.1) (s.2.2.2.2.2.2.2.1) (s.2.2.2.2.2.2.2.2.1) (s.2.2.2.2.2.2.2.2.2.1) (s.2.2.2.2.2.2.2.2.2.2.2.2.2.2.2.2)
  | 2 => T_Ch_pick_2 (s.2.1) (s.2.2.1) (s.2.2.2.2.1) (s.2.2.2.2.2.1) (s.2.2.2.2.2.2.1) (s.2.2.2.2.2.2.2.1) (s.2.2.2.2.2.2.2.2.1) (s.2.2.2.2.2.2.2.2.2.1) (s.2.2.2.2.2.2.2.2.2.2.1) (s.2.2.2.2.2.2.2.2.2.2.2.1) (s.2.2.2.2.2.2.2.2.2.2.2.2.2.2.2.2)
  | 3 => T_Ch_pick_3 (s.2.2.2.2.2.2.2.2.2.2.2.2.1) (s.2.2.2.2.2.2.2.2.2.2.2.2.2.1) (s.2.2.2.2.2.2.2.2.2.2.2.2.2.2.1) (s.2.2.2.2.2.2.2.2.2.2.2.2.2.2.2.1) (s.2.2.2.2.2.2.2.2.2.2.2.2.2.2.2.2)
  | _ => T_Ch_pick_4 (s.2.2.2.2.2.2.2.2.2.2.2.1) (s.2.2.2.2.2.2.2.2.2.2.2.2.2.2.2.2)
noncomputable def L_Ch_pick_0 (v0R : Nat) (v1R : Nat) (v2I : Int32) (v3I : Int32) (v4I : Int32) (σ : AM) : Option (Int32 × AM) := lp F_Ch_pick (0, v0R, v1R, v2I, v3I, v4I, 0, 0, 0, 0, 0, 0, 0, 0, 0, 0, σ)
noncomputable def L_Ch_pick_1 (v0R : Nat) (v1R : Nat) (v3I : Int32) (v4I : Int32) (v5J : Int64) (v7J : Int64) (v9I : Int32) (v10I : Int32) (σ : AM) : Option (Int32 × AM) := lp F_Ch_pick (1, v0R, v1R, 0, v3I, v4I, v5J, v7J, v9I, v10I, 0, 0, 0, 0, 0, 0, σ)
noncomputable def L_Ch_pick_2 (v0R : Nat) (v1R : Nat) (v3I : Int32) (v4I : Int32) (v5J : Int64) (v7J : Int64) (v9I : Int32) (v10I : Int32) (v11J : Int64) (s0I : Int32) (σ : AM) : Option (Int32 × AM) := lp F_Ch_pick (2, v0R, v1R, 0, v3I, v4I, v5J, v7J, v9I, v10I, v11J, s0I, 0, 0, 0, 0, σ)
noncomputable def L_Ch_pick_3 (s0R : Nat) (s1J : Int64) (s2I : Int32) (s3I : Int32) (σ : AM) : Option (Int32 × AM) := lp F_Ch_pick (3, 0, 0, 0, 0, 0, 0, 0, 0, 0, 0, 0, s0R, s1J, s2I, s3I, σ)
noncomputable def L_Ch_pick_4 (s0I : Int32) (σ : AM) : Option (Int32 × AM) := lp F_Ch_pick (4, 0, 0, 0, 0, 0, 0, 0, 0, 0, 0, s0I, 0, 0, 0, 0, σ)
set_option maxRecDepth 20000 in
theorem E_Ch_pick_0 (v0R : Nat) (v1R : Nat) (v2I : Int32) (v3I : Int32) (v4I : Int32) (σ : AM) : L_Ch_pick_0 v0R v1R v2I v3I v4I σ = (gd (okO σ v0R 6) <| gd (okO σ (aR σ v0R 4) 102) <| bnd (M_JArr_fill (aR σ v0R 4) (0 : Int64) σ) fun _ σ4 => L_Ch_pick_1 v0R v1R v3I v4I ((0 : Int64)) (((-1) : Int64)) ((0 : Int32)) v2I σ4) := by
  unfold L_Ch_pick_0
  rw [lp_eq]
  show lpK (lp F_Ch_pick) (T_Ch_pick_0 v0R v1R v2I v3I v4I σ) = _
  unfold T_Ch_pick_0
  simp only [lpK_ite, lq_inl, lq_inr, lpK_bnd, lpK_gd, lq_let]
  try rfl
set_option maxRecDepth 20000 in
theorem E_Ch_pick_1 (v0R : Nat) (v1R : Nat) (v3I : Int32) (v4I : Int32) (v5J : Int64) (v7J : Int64) (v9I : Int32) (v10I : Int32) (σ : AM) : L_Ch_pick_1 v0R v1R v3I v4I v5J v7J v9I v10I σ = (if v10I < v3I then (gd (okO σ v0R 6) <| gd (okO σ (aR σ v0R 1) 3) <| gd (okO σ v1R 101) <| gd (inB v10I (aN σ v1R)) <| bnd (M_Ls_at (aR σ v0R 1) (aI σ v1R v10I.toNatClampNeg) σ) fun r5 σ6 => letT (v5J ||| r5) fun x7 => letT (v7J &&& r5) fun x8 => if v4I = (1 : Int32) then (gd (okO σ6 v0R 6) <| gd (okO σ6 (aR σ6 v0R 1) 3) <| gd (okO σ6 v1R 101) <| gd (inB v10I (aN σ6 v1R)) <| bnd (M_Ls_share (aR σ6 v0R 1) (aI σ6 v1R v10I.toNatClampNeg) σ6) fun r13 σ14 => L_Ch_pick_2 v0R v1R v3I v4I x7 x8 v9I v10I r5 r13 σ14) else (L_Ch_pick_2 v0R v1R v3I v4I x7 x8 v9I v10I r5 ((1 : Int32)) σ6)) else (bnd (M_Ch_bitsOf v9I σ) fun r15 σ16 => gd (okO σ16 v0R 6) <| letT (sI σ16 v0R 5 r15) fun σ18 => letT (v5J &&& (v7J ^^^ ((-1) : Int64))) fun x20 => if v4I = (1 : Int32) then (bnd (M_Ch_stillest v0R x20 σ18) fun r21 σ22 => L_Ch_pick_4 r21 σ22) else (if v4I = (2 : Int32) then (L_Ch_pick_3 v0R x20 v9I ((1 : Int32)) σ18) else (L_Ch_pick_3 v0R x20 v9I ((0 : Int32)) σ18)))) := by
  unfold L_Ch_pick_1
  rw [lp_eq]
  show lpK (lp F_Ch_pick) (T_Ch_pick_1 v0R v1R v3I v4I v5J v7J v9I v10I σ) = _
  unfold T_Ch_pick_1
  simp only [lpK_ite, lq_inl, lq_inr, lpK_bnd, lpK_gd, lq_let]
  try rfl
set_option maxRecDepth 20000 in
theorem E_Ch_pick_2 (v0R : Nat) (v1R : Nat) (v3I : Int32) (v4I : Int32) (v5J : Int64) (v7J : Int64) (v9I : Int32) (v10I : Int32) (v11J : Int64) (s0I : Int32) (σ : AM) : L_Ch_pick_2 v0R v1R v3I v4I v5J v7J v9I v10I v11J s0I σ = (gd (okO σ v0R 6) <| bnd (M_Ch_addTimes v0R v11J s0I σ) fun _ σ2 => letT (v9I + s0I) fun x4 => L_Ch_pick_1 v0R v1R v3I v4I v5J v7J x4 (v10I + (1 : Int32)) σ2) := by
  unfold L_Ch_pick_2
  rw [lp_eq]
  show lpK (lp F_Ch_pick) (T_Ch_pick_2 v0R v1R v3I v4I v5J v7J v9I v10I v11J s0I σ) = _
  unfold T_Ch_pick_2
  simp only [lpK_ite, lq_inl, lq_inr, lpK_bnd, lpK_gd, lq_let]
  try rfl
set_option maxRecDepth 20000 in
theorem E_Ch_pick_3 (s0R : Nat) (s1J : Int64) (s2I : Int32) (s3I : Int32) (σ : AM) : L_Ch_pick_3 s0R s1J s2I s3I σ = (gd (okO σ s0R 6) <| bnd (M_Ch_evenest s0R s1J s2I s3I σ) fun r1 σ2 => L_Ch_pick_4 r1 σ2) := by
  unfold L_Ch_pick_3
  rw [lp_eq]
  show lpK (lp F_Ch_pick) (T_Ch_pick_3 s0R s1J s2I s3I σ) = _
  unfold T_Ch_pick_3
  simp only [lpK_ite, lq_inl, lq_inr, lpK_bnd, lpK_gd, lq_let]
  try rfl
set_option maxRecDepth 20000 in
theorem E_Ch_pick_4 (s0I : Int32) (σ : AM) : L_Ch_pick_4 s0I σ = ((some (s0I, σ))) := by
  unfold L_Ch_pick_4
  rw [lp_eq]
  show lpK (lp F_Ch_pick) (T_Ch_pick_4 s0I σ) = _
  unfold T_Ch_pick_4
  simp only [lpK_ite, lq_inl, lq_inr, lpK_bnd, lpK_gd, lq_let]
  try rfl
noncomputable def M_Ch_pick (v0R : Nat) (v1R : Nat) (v2I : Int32) (v3I : Int32) (v4I : Int32) (σ : AM) : Option (Int32 × AM) := mw σ (L_Ch_pick_0 v0R v1R v2I v3I v4I σ)
def I_Ch_pick (G : GX) (p : Program) (l : Launch) (e : Env) (s : State) (m : MethodId) (args : Array Value) (below : List Frame) (meth : Method) (c : Code) (z0 u0 n : Nat) : Prop :=
  (∀ (v0R : Nat) (v1R : Nat) (v2I : Int32) (v3I : Int32) (v4I : Int32) (σ : AM), VX (QM eI G args s below z0 u0) G p l e s m args below meth c 4 z0 u0 14 (lpn F_Ch_pick n (0, v0R, v1R, v2I, v3I, v4I, 0, 0, 0, 0, 0, 0, 0, 0, 0, 0, σ)) 0 [(0, .ref v0R), (1, .ref v1R), (2, .int v2I), (3, .int v3I), (4, .int v4I)] [] σ) ∧
  (∀ (v0R : Nat) (v1R : Nat) (v3I : Int32) (v4I : Int32) (v5J : Int64) (v7J : Int64) (v9I : Int32) (v10I : Int32) (σ : AM), VX (QM eI G args s below z0 u0) G p l e s m args below meth c 4 z0 u0 14 (lpn F_Ch_pick n (1, v0R, v1R, 0, v3I, v4I, v5J, v7J, v9I, v10I, 0, 0, 0, 0, 0, 0, σ)) 22 [(0, .ref v0R), (1, .ref v1R), (3, .int v3I), (4, .int v4I), (5, .long v5J), (7, .long v7J), (9, .int v9I), (10, .int v10I)] [] σ) ∧
  (∀ (v0R : Nat) (v1R : Nat) (v3I : Int32) (v4I : Int32) (v5J : Int64) (v7J : Int64) (v9I : Int32) (v10I : Int32) (v11J : Int64) (s0I : Int32) (σ : AM), VX (QM eI G args s below z0 u0) G p l e s m args below meth c 4 z0 u0 14 (lpn F_Ch_pick n (2, v0R, v1R, 0, v3I, v4I, v5J, v7J, v9I, v10I, v11J, s0I, 0, 0, 0, 0, σ)) 76 [(0, .ref v0R), (1, .ref v1R), (3, .int v3I), (4, .int v4I), (5, .long v5J), (7, .long v7J), (9, .int v9I), (10, .int v10I), (11, .long v11J)] [.int s0I] σ) ∧
  (∀ (s0R : Nat) (s1J : Int64) (s2I : Int32) (s3I : Int32) (σ : AM), VX (QM eI G args s below z0 u0) G p l e s m args below meth c 4 z0 u0 14 (lpn F_Ch_pick n (3, 0, 0, 0, 0, 0, 0, 0, 0, 0, 0, 0, s0R, s1J, s2I, s3I, σ)) 150 [] [.int s3I, .int s2I, .long s1J, .ref s0R] σ) ∧
  (∀ (s0I : Int32) (σ : AM), VX (QM eI G args s below z0 u0) G p l e s m args below meth c 4 z0 u0 14 (lpn F_Ch_pick n (4, 0, 0, 0, 0, 0, 0, 0, 0, 0, 0, s0I, 0, 0, 0, 0, σ)) 153 [] [.int s0I] σ)
set_option maxRecDepth 20000 in
theorem s_Ch_pick_0 {G : GX} {p : Program} {l : Launch} {e : Env} {s : State} {m : MethodId} {args : Array Value} {below : List Frame} {meth : Method} {c : Code} {z0 u0 n : Nat} (C : Cx G p s m args meth c prog_3_method_3_code 14 "BellPlate$Chooser" ((some FieldType.int))) (IH : I_Ch_pick G p l e s m args below meth c z0 u0 n) (v0R : Nat) (v1R : Nat) (v2I : Int32) (v3I : Int32) (v4I : Int32) (σ : AM) : VX (QM eI G args s below z0 u0) G p l e s m args below meth c 4 z0 u0 14 (lpK (lpn F_Ch_pick n) (T_Ch_pick_0 v0R v1R v2I v3I v4I σ)) 0 [(0, .ref v0R), (1, .ref v1R), (2, .int v2I), (3, .int v3I), (4, .int v4I)] [] σ := by
  unfold T_Ch_pick_0
  refine x_aload_n C d_Ch_pick_0 0 rfl ?_
  refine x_gd (fun h1 => ?_)
  refine x_gd (fun h2 => ?_)
  refine x_getR (k := 4) (kv := 102) C (okO_iff.mp h1) rfl j5_ok (by decide) rfl (okO_iff.mp h2) (by decide) w383 d_Ch_pick_1 ?_
  refine x_lconst (v := (0 : Int64)) C d_Ch_pick_4 (by decide) ?_
  refine x_callSV (As := [.ref (aR σ v0R 4), .long (0 : Int64)]) C (c_JArr_fill G l (aR σ v0R 4) (0 : Int64) σ) w1160 w1159 w1161 w127 k_JArr_fill rfl (by decide) (by decide) rfl (Nat.le_of_ble_eq_true rfl) d_Ch_pick_5 (fun r3 σ4 => ?_)
  refine x_lconst (v := (0 : Int64)) C d_Ch_pick_8 (by decide) ?_
  refine x_lstore (lv' := [(5, .long (0 : Int64)), (0, .ref v0R), (1, .ref v1R), (2, .int v2I), (3, .int v3I), (4, .int v4I)]) C d_Ch_pick_9 (by decide) rfl ?_
  refine x_ldc2 C d_Ch_pick_11 w1162 ?_
  refine x_lstore (lv' := [(7, .long ((-1) : Int64)), (5, .long (0 : Int64)), (0, .ref v0R), (1, .ref v1R), (2, .int v2I), (3, .int v3I), (4, .int v4I)]) C d_Ch_pick_14 (by decide) rfl ?_
  refine x_iconst (v := (0 : Int32)) C d_Ch_pick_16 (by decide) ?_
  refine x_istore (lv' := [(9, .int (0 : Int32)), (7, .long ((-1) : Int64)), (5, .long (0 : Int64)), (0, .ref v0R), (1, .ref v1R), (2, .int v2I), (3, .int v3I), (4, .int v4I)]) C d_Ch_pick_17 (by decide) rfl ?_
  refine x_iload_n C d_Ch_pick_19 5 rfl ?_
  refine x_istore (lv' := [(10, .int v2I), (9, .int (0 : Int32)), (7, .long ((-1) : Int64)), (5, .long (0 : Int64)), (0, .ref v0R), (1, .ref v1R), (2, .int v2I), (3, .int v3I), (4, .int v4I)]) C d_Ch_pick_20 (by decide) rfl ?_
  refine x_lv [4, 5, 7, 8, 3, 2, 1, 0] rfl ?_
  exact IH.2.1 v0R v1R v3I v4I ((0 : Int64)) (((-1) : Int64)) ((0 : Int32)) v2I (σ4)
set_option maxRecDepth 20000 in
theorem s_Ch_pick_1 {G : GX} {p : Program} {l : Launch} {e : Env} {s : State} {m : MethodId} {args : Array Value} {below : List Frame} {meth : Method} {c : Code} {z0 u0 n : Nat} (C : Cx G p s m args meth c prog_3_method_3_code 14 "BellPlate$Chooser" ((some FieldType.int))) (IH : I_Ch_pick G p l e s m args below meth c z0 u0 n) (v0R : Nat) (v1R : Nat) (v3I : Int32) (v4I : Int32) (v5J : Int64) (v7J : Int64) (v9I : Int32) (v10I : Int32) (σ : AM) : VX (QM eI G args s below z0 u0) G p l e s m args below meth c 4 z0 u0 14 (lpK (lpn F_Ch_pick n) (T_Ch_pick_1 v0R v1R v3I v4I v5J v7J v9I v10I σ)) 22 [(0, .ref v0R), (1, .ref v1R), (3, .int v3I), (4, .int v4I), (5, .long v5J), (7, .long v7J), (9, .int v9I), (10, .int v10I)] [] σ := by
  unfold T_Ch_pick_1
  refine x_iload C d_Ch_pick_22 7 rfl ?_
  refine x_iload_n C d_Ch_pick_24 2 rfl ?_
  refine x_icmp_ge (tgt := 99) C d_Ch_pick_25 (by decide) (fun _ => ?_) (fun _ => ?_)
  · refine x_aload_n C d_Ch_pick_28 0 rfl ?_
    refine x_gd (fun h1 => ?_)
    refine x_gd (fun h2 => ?_)
    refine x_getR (k := 1) (kv := 3) C (okO_iff.mp h1) rfl j5_ok (by decide) rfl (okO_iff.mp h2) (by decide) w380 d_Ch_pick_29 ?_
    refine x_aload_n C d_Ch_pick_32 1 rfl ?_
    refine x_iload C d_Ch_pick_33 7 rfl ?_
    refine x_gd (fun h3 => ?_)
    refine x_gd (fun h4 => ?_)
    refine x_aldI C (okO_iff.mp h3) (inB_iff.mp h4) d_Ch_pick_35 ?_
    refine x_callVJ (As := [.int (aI σ v1R v10I.toNatClampNeg)]) C (c_Ls_at G l (aR σ v0R 1) (aI σ v1R v10I.toNatClampNeg) σ) (okO_iff.mp h2) rfl w996 w997 w1163 w998 w123 k_Ls_at rfl (by decide) (by decide) rfl (Nat.le_of_ble_eq_true rfl) d_Ch_pick_36 (fun r5 σ6 => ?_)
    refine x_lstore (lv' := [(11, .long r5), (0, .ref v0R), (1, .ref v1R), (3, .int v3I), (4, .int v4I), (5, .long v5J), (7, .long v7J), (9, .int v9I), (10, .int v10I)]) C d_Ch_pick_39 (by decide) rfl ?_
    refine x_lload C d_Ch_pick_41 5 rfl ?_
    refine x_lload C d_Ch_pick_43 0 rfl ?_
    refine x_lor C d_Ch_pick_45 ?_
    refine x_letJ (fun x7 _ => ?_)
    refine x_lstore (lv' := [(5, .long x7), (11, .long r5), (0, .ref v0R), (1, .ref v1R), (3, .int v3I), (4, .int v4I), (7, .long v7J), (9, .int v9I), (10, .int v10I)]) C d_Ch_pick_46 (by decide) rfl ?_
    refine x_lload C d_Ch_pick_48 6 rfl ?_
    refine x_lload C d_Ch_pick_50 1 rfl ?_
    refine x_land C d_Ch_pick_52 ?_
    refine x_letJ (fun x8 _ => ?_)
    refine x_lstore (lv' := [(7, .long x8), (5, .long x7), (11, .long r5), (0, .ref v0R), (1, .ref v1R), (3, .int v3I), (4, .int v4I), (9, .int v9I), (10, .int v10I)]) C d_Ch_pick_53 (by decide) rfl ?_
    refine x_iload C d_Ch_pick_55 6 rfl ?_
    refine x_iconst (v := (1 : Int32)) C d_Ch_pick_57 (by decide) ?_
    refine x_icmp_ne (tgt := 75) C d_Ch_pick_58 (by decide) (fun _ => ?_) (fun _ => ?_)
    · refine x_aload_n C d_Ch_pick_61 3 rfl ?_
      refine x_gd (fun h9 => ?_)
      refine x_gd (fun h10 => ?_)
      refine x_getR (k := 1) (kv := 3) C (okO_iff.mp h9) rfl j5_ok (by decide) rfl (okO_iff.mp h10) (by decide) w380 d_Ch_pick_62 ?_
      refine x_aload_n C d_Ch_pick_65 4 rfl ?_
      refine x_iload C d_Ch_pick_66 8 rfl ?_
      refine x_gd (fun h11 => ?_)
      refine x_gd (fun h12 => ?_)
      refine x_aldI C (okO_iff.mp h11) (inB_iff.mp h12) d_Ch_pick_68 ?_
      refine x_callVI (As := [.int (aI σ6 v1R v10I.toNatClampNeg)]) C (c_Ls_share G l (aR σ6 v0R 1) (aI σ6 v1R v10I.toNatClampNeg) σ6) (okO_iff.mp h10) rfl w1076 w1077 w1164 w1078 w123 k_Ls_share rfl (by decide) (by decide) rfl (Nat.le_of_ble_eq_true rfl) d_Ch_pick_69 (fun r13 σ14 => ?_)
      refine x_goto (tgt := 76) C d_Ch_pick_72 (by decide) ?_
      refine x_lv [3, 4, 5, 6, 1, 0, 7, 8, 2] rfl ?_
      exact IH.2.2.1 v0R v1R v3I v4I x7 x8 v9I v10I r5 r13 (σ14)
    · refine x_iconst (v := (1 : Int32)) C d_Ch_pick_75 (by decide) ?_
      refine x_lv [3, 4, 5, 6, 1, 0, 7, 8, 2] rfl ?_
      exact IH.2.2.1 v0R v1R v3I v4I x7 x8 v9I v10I r5 ((1 : Int32)) (σ6)
  · refine x_aload_n C d_Ch_pick_99 0 rfl ?_
    refine x_iload C d_Ch_pick_100 6 rfl ?_
    refine x_callSI (As := [.int v9I]) C (c_Ch_bitsOf G l v9I σ) w1173 w1172 w1174 w126 k_Ch_bitsOf rfl (by decide) (by decide) rfl (Nat.le_of_ble_eq_true rfl) d_Ch_pick_102 (fun r15 σ16 => ?_)
    refine x_gd (fun h17 => ?_)
    refine x_putI (k := 5) C (okO_iff.mp h17) rfl j5_ok y5_ok n5_ok (by decide) rfl rfl rfl rfl w384 d_Ch_pick_105 ?_
    refine x_letS (fun σ18 e19 => ?_)
    refine x_lload C d_Ch_pick_108 4 rfl ?_
    refine x_lload C d_Ch_pick_110 5 rfl ?_
    refine x_ldc2 C d_Ch_pick_112 w1162 ?_
    refine x_lxor C d_Ch_pick_115 ?_
    refine x_land C d_Ch_pick_116 ?_
    refine x_letJ (fun x20 _ => ?_)
    refine x_lstore (lv' := [(10, .long x20), (0, .ref v0R), (1, .ref v1R), (3, .int v3I), (4, .int v4I), (5, .long v5J), (7, .long v7J), (9, .int v9I)]) C d_Ch_pick_117 (by decide) rfl ?_
    refine x_iload C d_Ch_pick_119 4 rfl ?_
    refine x_iconst (v := (1 : Int32)) C d_Ch_pick_121 (by decide) ?_
    refine x_icmp_ne (tgt := 134) C d_Ch_pick_122 (by decide) (fun _ => ?_) (fun _ => ?_)
    · refine x_aload_n C d_Ch_pick_125 1 rfl ?_
      refine x_lload C d_Ch_pick_126 0 rfl ?_
      refine x_callVI (As := [.long x20]) C (c_Ch_stillest G l v0R x20 σ18) (by first | exact (okO_iff.mp h17) | (rw [e19]; exact (okO_iff.mp h17))) rfl w1177 w25 w1175 w1178 w126 k_Ch_stillest rfl (by decide) (by decide) rfl (Nat.le_of_ble_eq_true rfl) d_Ch_pick_128 (fun r21 σ22 => ?_)
      refine x_goto (tgt := 153) C d_Ch_pick_131 (by decide) ?_
      refine x_lv [] rfl ?_
      exact IH.2.2.2.2 r21 (σ22)
    · refine x_aload_n C d_Ch_pick_134 1 rfl ?_
      refine x_lload C d_Ch_pick_135 0 rfl ?_
      refine x_iload C d_Ch_pick_137 7 rfl ?_
      refine x_iload C d_Ch_pick_139 4 rfl ?_
      refine x_iconst (v := (2 : Int32)) C d_Ch_pick_141 (by decide) ?_
      refine x_icmp_ne (tgt := 149) C d_Ch_pick_142 (by decide) (fun _ => ?_) (fun _ => ?_)
      · refine x_iconst (v := (1 : Int32)) C d_Ch_pick_145 (by decide) ?_
        refine x_goto (tgt := 150) C d_Ch_pick_146 (by decide) ?_
        refine x_lv [] rfl ?_
        exact IH.2.2.2.1 v0R x20 v9I ((1 : Int32)) (σ18)
      · refine x_iconst (v := (0 : Int32)) C d_Ch_pick_149 (by decide) ?_
        refine x_lv [] rfl ?_
        exact IH.2.2.2.1 v0R x20 v9I ((0 : Int32)) (σ18)
set_option maxRecDepth 20000 in
theorem s_Ch_pick_2 {G : GX} {p : Program} {l : Launch} {e : Env} {s : State} {m : MethodId} {args : Array Value} {below : List Frame} {meth : Method} {c : Code} {z0 u0 n : Nat} (C : Cx G p s m args meth c prog_3_method_3_code 14 "BellPlate$Chooser" ((some FieldType.int))) (IH : I_Ch_pick G p l e s m args below meth c z0 u0 n) (v0R : Nat) (v1R : Nat) (v3I : Int32) (v4I : Int32) (v5J : Int64) (v7J : Int64) (v9I : Int32) (v10I : Int32) (v11J : Int64) (s0I : Int32) (σ : AM) : VX (QM eI G args s below z0 u0) G p l e s m args below meth c 4 z0 u0 14 (lpK (lpn F_Ch_pick n) (T_Ch_pick_2 v0R v1R v3I v4I v5J v7J v9I v10I v11J s0I σ)) 76 [(0, .ref v0R), (1, .ref v1R), (3, .int v3I), (4, .int v4I), (5, .long v5J), (7, .long v7J), (9, .int v9I), (10, .int v10I), (11, .long v11J)] [.int s0I] σ := by
  unfold T_Ch_pick_2
  refine x_istore (lv' := [(13, .int s0I), (0, .ref v0R), (1, .ref v1R), (3, .int v3I), (4, .int v4I), (5, .long v5J), (7, .long v7J), (9, .int v9I), (10, .int v10I), (11, .long v11J)]) C d_Ch_pick_76 (by decide) rfl ?_
  refine x_aload_n C d_Ch_pick_78 1 rfl ?_
  refine x_lload C d_Ch_pick_79 9 rfl ?_
  refine x_iload C d_Ch_pick_81 0 rfl ?_
  refine x_gd (fun h3 => ?_)
  refine x_callVV (As := [.long v11J, .int s0I]) C (c_Ch_addTimes G l v0R v11J s0I σ) (okO_iff.mp h3) rfl w1167 w24 w1165 w1168 w126 k_Ch_addTimes rfl (by decide) (by decide) rfl (Nat.le_of_ble_eq_true rfl) d_Ch_pick_83 (fun r1 σ2 => ?_)
  refine x_iload C d_Ch_pick_86 7 rfl ?_
  refine x_iload C d_Ch_pick_88 0 rfl ?_
  refine x_iadd C d_Ch_pick_90 ?_
  refine x_letI (fun x4 _ => ?_)
  refine x_istore (lv' := [(9, .int x4), (13, .int s0I), (0, .ref v0R), (1, .ref v1R), (3, .int v3I), (4, .int v4I), (5, .long v5J), (7, .long v7J), (10, .int v10I), (11, .long v11J)]) C d_Ch_pick_91 (by decide) rfl ?_
  refine x_iinc (v := v10I + (1 : Int32)) (lv' := [(10, .int (v10I + (1 : Int32))), (9, .int x4), (13, .int s0I), (0, .ref v0R), (1, .ref v1R), (3, .int v3I), (4, .int v4I), (5, .long v5J), (7, .long v7J), (11, .long v11J)]) C d_Ch_pick_93 8 rfl rfl (by decide) rfl ?_
  refine x_goto (tgt := 22) C d_Ch_pick_96 (by decide) ?_
  refine x_lv [3, 4, 5, 6, 7, 8, 1, 0] rfl ?_
  exact IH.2.1 v0R v1R v3I v4I v5J v7J x4 (v10I + (1 : Int32)) (σ2)
set_option maxRecDepth 20000 in
theorem s_Ch_pick_3 {G : GX} {p : Program} {l : Launch} {e : Env} {s : State} {m : MethodId} {args : Array Value} {below : List Frame} {meth : Method} {c : Code} {z0 u0 n : Nat} (C : Cx G p s m args meth c prog_3_method_3_code 14 "BellPlate$Chooser" ((some FieldType.int))) (IH : I_Ch_pick G p l e s m args below meth c z0 u0 n) (s0R : Nat) (s1J : Int64) (s2I : Int32) (s3I : Int32) (σ : AM) : VX (QM eI G args s below z0 u0) G p l e s m args below meth c 4 z0 u0 14 (lpK (lpn F_Ch_pick n) (T_Ch_pick_3 s0R s1J s2I s3I σ)) 150 [] [.int s3I, .int s2I, .long s1J, .ref s0R] σ := by
  unfold T_Ch_pick_3
  refine x_gd (fun h3 => ?_)
  refine x_callVI (As := [.long s1J, .int s2I, .int s3I]) C (c_Ch_evenest G l s0R s1J s2I s3I σ) (okO_iff.mp h3) rfl w1186 w26 w1184 w1187 w126 k_Ch_evenest rfl (by decide) (by decide) rfl (Nat.le_of_ble_eq_true rfl) d_Ch_pick_150 (fun r1 σ2 => ?_)
  exact IH.2.2.2.2 r1 (σ2)
set_option maxRecDepth 20000 in
theorem s_Ch_pick_4 {G : GX} {p : Program} {l : Launch} {e : Env} {s : State} {m : MethodId} {args : Array Value} {below : List Frame} {meth : Method} {c : Code} {z0 u0 n : Nat} (C : Cx G p s m args meth c prog_3_method_3_code 14 "BellPlate$Chooser" ((some FieldType.int))) (IH : I_Ch_pick G p l e s m args below meth c z0 u0 n) (s0I : Int32) (σ : AM) : VX (QM eI G args s below z0 u0) G p l e s m args below meth c 4 z0 u0 14 (lpK (lpn F_Ch_pick n) (T_Ch_pick_4 s0I σ)) 153 [] [.int s0I] σ := by
  unfold T_Ch_pick_4
  exact x_iret C d_Ch_pick_153
theorem i_Ch_pick {G : GX} {p : Program} {l : Launch} {e : Env} {s : State} {m : MethodId} {args : Array Value} {below : List Frame} {meth : Method} {c : Code} {z0 u0 : Nat} (C : Cx G p s m args meth c prog_3_method_3_code 14 "BellPlate$Chooser" ((some FieldType.int))) (n : Nat) : I_Ch_pick G p l e s m args below meth c z0 u0 n := by
  induction n with
  | zero => exact ⟨fun _ _ _ _ _ _ => x_none, fun _ _ _ _ _ _ _ _ _ => x_none, fun _ _ _ _ _ _ _ _ _ _ _ => x_none, fun _ _ _ _ _ => x_none, fun _ _ => x_none⟩
  | succ n IH => exact ⟨fun v0R v1R v2I v3I v4I σ => s_Ch_pick_0 C IH v0R v1R v2I v3I v4I σ, fun v0R v1R v3I v4I v5J v7J v9I v10I σ => s_Ch_pick_1 C IH v0R v1R v3I v4I v5J v7J v9I v10I σ, fun v0R v1R v3I v4I v5J v7J v9I v10I v11J s0I σ => s_Ch_pick_2 C IH v0R v1R v3I v4I v5J v7J v9I v10I v11J s0I σ, fun s0R s1J s2I s3I σ => s_Ch_pick_3 C IH s0R s1J s2I s3I σ, fun s0I σ => s_Ch_pick_4 C IH s0I σ⟩
theorem c_Ch_pick (G : GX) (l : Launch) (v0R : Nat) (v1R : Nat) (v2I : Int32) (v3I : Int32) (v4I : Int32) (σ : AM) : CT eI G l 4 y_Ch_pick prog_3_method_3_code 14 ((some FieldType.int)) [.ref v0R, .ref v1R, .int v2I, .int v3I, .int v4I] σ (M_Ch_pick v0R v1R v2I v3I v4I σ) := by
  refine ct_of (by decide +kernel) (Nat.le_of_ble_eq_true rfl) (fun p e s m args below meth c C hin => ?_)
  refine x_lve (lv' := [(0, .ref v0R), (1, .ref v1R), (2, .int v2I), (3, .int v3I), (4, .int v4I)]) rfl ?_
  intro r σ' h
  obtain ⟨n, hn⟩ := (lp_iff _ _ _).mp h
  exact (i_Ch_pick C n).1 v0R v1R v2I v3I v4I σ r σ' hn
/-! BellPlate$Chooser.partRow([IIII)I -/
abbrev y_Ch_partRow : MethodName := ⟨"BellPlate$Chooser", "partRow", "([IIII)I"⟩
theorem k_Ch_partRow : y_Ch_partRow.cls ≠ "java/lang/invoke/MethodHandle" ∧ y_Ch_partRow.cls ≠ "java/lang/invoke/VarHandle" ∧ (parseMethodDescriptor y_Ch_partRow.desc).map (fun d => d.parameters.length) = some 4 := by decide +kernel
theorem d_Ch_partRow_0 : decode prog_3_method_8_code 0 = .ok (.iload_n 2, 1) := by decide +kernel
theorem d_Ch_partRow_1 : decode prog_3_method_8_code 1 = .ok (.istore 5, 2) := by decide +kernel
theorem d_Ch_partRow_3 : decode prog_3_method_8_code 3 = .ok (.iload_n 2, 1) := by decide +kernel
theorem d_Ch_partRow_4 : decode prog_3_method_8_code 4 = .ok (.istore 6, 2) := by decide +kernel
theorem d_Ch_partRow_6 : decode prog_3_method_8_code 6 = .ok (.iload 6, 2) := by decide +kernel
theorem d_Ch_partRow_8 : decode prog_3_method_8_code 8 = .ok (.iload_n 3, 1) := by decide +kernel
theorem d_Ch_partRow_9 : decode prog_3_method_8_code 9 = .ok (.if_icmp .ge 49, 3) := by decide +kernel
theorem d_Ch_partRow_12 : decode prog_3_method_8_code 12 = .ok (.aload_n 1, 1) := by decide +kernel
theorem d_Ch_partRow_13 : decode prog_3_method_8_code 13 = .ok (.iload 6, 2) := by decide +kernel
theorem d_Ch_partRow_15 : decode prog_3_method_8_code 15 = .ok (.iaload, 1) := by decide +kernel
theorem d_Ch_partRow_16 : decode prog_3_method_8_code 16 = .ok (.istore 7, 2) := by decide +kernel
theorem d_Ch_partRow_18 : decode prog_3_method_8_code 18 = .ok (.aload_n 0, 1) := by decide +kernel
theorem d_Ch_partRow_19 : decode prog_3_method_8_code 19 = .ok (.getfield 15, 3) := by decide +kernel
theorem d_Ch_partRow_22 : decode prog_3_method_8_code 22 = .ok (.iload 7, 2) := by decide +kernel
theorem d_Ch_partRow_24 : decode prog_3_method_8_code 24 = .ok (.invokevirtual 70, 3) := by decide +kernel
theorem d_Ch_partRow_27 : decode prog_3_method_8_code 27 = .ok (.iload 4, 2) := by decide +kernel
theorem d_Ch_partRow_29 : decode prog_3_method_8_code 29 = .ok (.invokestatic 110, 3) := by decide +kernel
theorem d_Ch_partRow_32 : decode prog_3_method_8_code 32 = .ok (.ifCond .ne 20, 3) := by decide +kernel
theorem d_Ch_partRow_35 : decode prog_3_method_8_code 35 = .ok (.aload_n 1, 1) := by decide +kernel
theorem d_Ch_partRow_36 : decode prog_3_method_8_code 36 = .ok (.iload 6, 2) := by decide +kernel
theorem d_Ch_partRow_38 : decode prog_3_method_8_code 38 = .ok (.aload_n 1, 1) := by decide +kernel
theorem d_Ch_partRow_39 : decode prog_3_method_8_code 39 = .ok (.iload 5, 2) := by decide +kernel
theorem d_Ch_partRow_41 : decode prog_3_method_8_code 41 = .ok (.iaload, 1) := by decide +kernel
theorem d_Ch_partRow_42 : decode prog_3_method_8_code 42 = .ok (.iastore, 1) := by decide +kernel
theorem d_Ch_partRow_43 : decode prog_3_method_8_code 43 = .ok (.aload_n 1, 1) := by decide +kernel
theorem d_Ch_partRow_44 : decode prog_3_method_8_code 44 = .ok (.iload 5, 2) := by decide +kernel
theorem d_Ch_partRow_46 : decode prog_3_method_8_code 46 = .ok (.iload 7, 2) := by decide +kernel
theorem d_Ch_partRow_48 : decode prog_3_method_8_code 48 = .ok (.iastore, 1) := by decide +kernel
theorem d_Ch_partRow_49 : decode prog_3_method_8_code 49 = .ok (.iinc 5 1, 3) := by decide +kernel
theorem d_Ch_partRow_52 : decode prog_3_method_8_code 52 = .ok (.iinc 6 1, 3) := by decide +kernel
theorem d_Ch_partRow_55 : decode prog_3_method_8_code 55 = .ok (.goto (-49), 3) := by decide +kernel
theorem d_Ch_partRow_58 : decode prog_3_method_8_code 58 = .ok (.iload 5, 2) := by decide +kernel
theorem d_Ch_partRow_60 : decode prog_3_method_8_code 60 = .ok (.ireturn, 1) := by decide +kernel
abbrev S_Ch_partRow : Type := Nat × Nat × Nat × Int32 × Int32 × Int32 × Int32 × Int32 × AM
noncomputable def T_Ch_partRow_0 (v0R : Nat) (v1R : Nat) (v2I : Int32) (v3I : Int32) (v4I : Int32) (σ : AM) : S_Ch_partRow ⊕ Option (Int32 × AM) :=
  .inl (1, v0R, v1R, 0, v3I, v4I, v2I, v2I, σ)
noncomputable def T_Ch_partRow_1 (v0R : Nat) (v1R : Nat) (v3I : Int32) (v4I : Int32) (v5I : Int32) (v6I : Int32) (σ : AM) : S_Ch_partRow ⊕ Option (Int32 × AM) :=
  if v6I < v3I then (gdT (okO σ v1R 101) <| gdT (inB v6I (aN σ v1R)) <| letT (aI σ v1R v6I.toNatClampNeg) fun x3 => gdT (okO σ v0R 6) <| gdT (okO σ (aR σ v0R 1) 3) <| bndT (M_Ls_at (aR σ v0R 1) x3 σ) fun r6 σ7 => bndT (M_St_has r6 v4I σ7) fun r8 σ9 => if r8 = 0 then (gdT (okO σ9 v1R 101) <| gdT (inB v5I (aN σ9 v1R)) <| gdT (inB v6I (aN σ9 v1R)) <| letT (sI σ9 v1R v6I.toNatClampNeg (aI σ9 v1R v5I.toNatClampNeg)) fun σ13 => letT (sI σ13 v1R v5I.toNatClampNeg x3) fun σ15 => .inl (2, v0R, v1R, 0, v3I, v4I, v5I + (1 : Int32), v6I, σ15)) else (.inl (2, v0R, v1R, 0, v3I, v4I, v5I, v6I, σ9))) else (.inr (some (v5I, σ)))
noncomputable def T_Ch_partRow_2 (v0R : Nat) (v1R : Nat) (v3I : Int32) (v4I : Int32) (v5I : Int32) (v6I : Int32) (σ : AM) : S_Ch_partRow ⊕ Option (Int32 × AM) :=
  .inl (1, v0R, v1R, 0, v3I, v4I, v5I, v6I + (1 : Int32), σ)
noncomputable def F_Ch_partRow : S_Ch_partRow → S_Ch_partRow ⊕ Option (Int32 × AM) := fun s => match s.1 with
  | 0 => T_Ch_partRow_0 (s.2.1) (s.2.2.1) (s.2.2.2.1) (s.2.2.2.2.1) (s.2.2.2.2.2.1) (s.2.2.2.2.2.2.2.2)
  | 1 => T_Ch_partRow_1 (s.2.1) (s.2.2.1) (s.2.2.2.2.1) (s.2.2.2.2.2.1) (s.2.2.2.2.2.2.1) (s.2.2.2.2.2.2.2.1) (s.2.2.2.2.2.2.2.2)
  | _ => T_Ch_partRow_2 (s.2.1) (s.2.2.1) (s.2.2.2.2.1) (s.2.2.2.2.2.1) (s.2.2.2.2.2.2.1) (s.2.2.2.2.2.2.2.1) (s.2.2.2.2.2.2.2.2)
noncomputable def L_Ch_partRow_0 (v0R : Nat) (v1R : Nat) (v2I : Int32) (v3I : Int32) (v4I : Int32) (σ : AM) : Option (Int32 × AM) := lp F_Ch_partRow (0, v0R, v1R, v2I, v3I, v4I, 0, 0, σ)
noncomputable def L_Ch_partRow_1 (v0R : Nat) (v1R : Nat) (v3I : Int32) (v4I : Int32) (v5I : Int32) (v6I : Int32) (σ : AM) : Option (Int32 × AM) := lp F_Ch_partRow (1, v0R, v1R, 0, v3I, v4I, v5I, v6I, σ)
noncomputable def L_Ch_partRow_2 (v0R : Nat) (v1R : Nat) (v3I : Int32) (v4I : Int32) (v5I : Int32) (v6I : Int32) (σ : AM) : Option (Int32 × AM) := lp F_Ch_partRow (2, v0R, v1R, 0, v3I, v4I, v5I, v6I, σ)
set_option maxRecDepth 20000 in
theorem E_Ch_partRow_0 (v0R : Nat) (v1R : Nat) (v2I : Int32) (v3I : Int32) (v4I : Int32) (σ : AM) : L_Ch_partRow_0 v0R v1R v2I v3I v4I σ = (L_Ch_partRow_1 v0R v1R v3I v4I v2I v2I σ) := by
  unfold L_Ch_partRow_0
  rw [lp_eq]
  show lpK (lp F_Ch_partRow) (T_Ch_partRow_0 v0R v1R v2I v3I v4I σ) = _
  unfold T_Ch_partRow_0
  simp only [lpK_ite, lq_inl, lq_inr, lpK_bnd, lpK_gd, lq_let]
  try rfl
set_option maxRecDepth 20000 in
theorem E_Ch_partRow_1 (v0R : Nat) (v1R : Nat) (v3I : Int32) (v4I : Int32) (v5I : Int32) (v6I : Int32) (σ : AM) : L_Ch_partRow_1 v0R v1R v3I v4I v5I v6I σ = (if v6I < v3I then (gd (okO σ v1R 101) <| gd (inB v6I (aN σ v1R)) <| letT (aI σ v1R v6I.toNatClampNeg) fun x3 => gd (okO σ v0R 6) <| gd (okO σ (aR σ v0R 1) 3) <| bnd (M_Ls_at (aR σ v0R 1) x3 σ) fun r6 σ7 => bnd (M_St_has r6 v4I σ7) fun r8 σ9 => if r8 = 0 then (gd (okO σ9 v1R 101) <| gd (inB v5I (aN σ9 v1R)) <| gd (inB v6I (aN σ9 v1R)) <| letT (sI σ9 v1R v6I.toNatClampNeg (aI σ9 v1R v5I.toNatClampNeg)) fun σ13 => letT (sI σ13 v1R v5I.toNatClampNeg x3) fun σ15 => L_Ch_partRow_2 v0R v1R v3I v4I (v5I + (1 : Int32)) v6I σ15) else (L_Ch_partRow_2 v0R v1R v3I v4I v5I v6I σ9)) else ((some (v5I, σ)))) := by
  unfold L_Ch_partRow_1
  rw [lp_eq]
  show lpK (lp F_Ch_partRow) (T_Ch_partRow_1 v0R v1R v3I v4I v5I v6I σ) = _
  unfold T_Ch_partRow_1
  simp only [lpK_ite, lq_inl, lq_inr, lpK_bnd, lpK_gd, lq_let]
  try rfl
set_option maxRecDepth 20000 in
theorem E_Ch_partRow_2 (v0R : Nat) (v1R : Nat) (v3I : Int32) (v4I : Int32) (v5I : Int32) (v6I : Int32) (σ : AM) : L_Ch_partRow_2 v0R v1R v3I v4I v5I v6I σ = (L_Ch_partRow_1 v0R v1R v3I v4I v5I (v6I + (1 : Int32)) σ) := by
  unfold L_Ch_partRow_2
  rw [lp_eq]
  show lpK (lp F_Ch_partRow) (T_Ch_partRow_2 v0R v1R v3I v4I v5I v6I σ) = _
  unfold T_Ch_partRow_2
  simp only [lpK_ite, lq_inl, lq_inr, lpK_bnd, lpK_gd, lq_let]
  try rfl
noncomputable def M_Ch_partRow (v0R : Nat) (v1R : Nat) (v2I : Int32) (v3I : Int32) (v4I : Int32) (σ : AM) : Option (Int32 × AM) := mw σ (L_Ch_partRow_0 v0R v1R v2I v3I v4I σ)
def I_Ch_partRow (G : GX) (p : Program) (l : Launch) (e : Env) (s : State) (m : MethodId) (args : Array Value) (below : List Frame) (meth : Method) (c : Code) (z0 u0 n : Nat) : Prop :=
  (∀ (v0R : Nat) (v1R : Nat) (v2I : Int32) (v3I : Int32) (v4I : Int32) (σ : AM), VX (QM eI G args s below z0 u0) G p l e s m args below meth c 1 z0 u0 8 (lpn F_Ch_partRow n (0, v0R, v1R, v2I, v3I, v4I, 0, 0, σ)) 0 [(0, .ref v0R), (1, .ref v1R), (2, .int v2I), (3, .int v3I), (4, .int v4I)] [] σ) ∧
  (∀ (v0R : Nat) (v1R : Nat) (v3I : Int32) (v4I : Int32) (v5I : Int32) (v6I : Int32) (σ : AM), VX (QM eI G args s below z0 u0) G p l e s m args below meth c 1 z0 u0 8 (lpn F_Ch_partRow n (1, v0R, v1R, 0, v3I, v4I, v5I, v6I, σ)) 6 [(0, .ref v0R), (1, .ref v1R), (3, .int v3I), (4, .int v4I), (5, .int v5I), (6, .int v6I)] [] σ) ∧
  (∀ (v0R : Nat) (v1R : Nat) (v3I : Int32) (v4I : Int32) (v5I : Int32) (v6I : Int32) (σ : AM), VX (QM eI G args s below z0 u0) G p l e s m args below meth c 1 z0 u0 8 (lpn F_Ch_partRow n (2, v0R, v1R, 0, v3I, v4I, v5I, v6I, σ)) 52 [(0, .ref v0R), (1, .ref v1R), (3, .int v3I), (4, .int v4I), (5, .int v5I), (6, .int v6I)] [] σ)
set_option maxRecDepth 20000 in
theorem s_Ch_partRow_0 {G : GX} {p : Program} {l : Launch} {e : Env} {s : State} {m : MethodId} {args : Array Value} {below : List Frame} {meth : Method} {c : Code} {z0 u0 n : Nat} (C : Cx G p s m args meth c prog_3_method_8_code 8 "BellPlate$Chooser" ((some FieldType.int))) (IH : I_Ch_partRow G p l e s m args below meth c z0 u0 n) (v0R : Nat) (v1R : Nat) (v2I : Int32) (v3I : Int32) (v4I : Int32) (σ : AM) : VX (QM eI G args s below z0 u0) G p l e s m args below meth c 1 z0 u0 8 (lpK (lpn F_Ch_partRow n) (T_Ch_partRow_0 v0R v1R v2I v3I v4I σ)) 0 [(0, .ref v0R), (1, .ref v1R), (2, .int v2I), (3, .int v3I), (4, .int v4I)] [] σ := by
  unfold T_Ch_partRow_0
  refine x_iload_n C d_Ch_partRow_0 2 rfl ?_
  refine x_istore (lv' := [(5, .int v2I), (0, .ref v0R), (1, .ref v1R), (2, .int v2I), (3, .int v3I), (4, .int v4I)]) C d_Ch_partRow_1 (by decide) rfl ?_
  refine x_iload_n C d_Ch_partRow_3 3 rfl ?_
  refine x_istore (lv' := [(6, .int v2I), (5, .int v2I), (0, .ref v0R), (1, .ref v1R), (2, .int v2I), (3, .int v3I), (4, .int v4I)]) C d_Ch_partRow_4 (by decide) rfl ?_
  refine x_lv [2, 3, 5, 6, 1, 0] rfl ?_
  exact IH.2.1 v0R v1R v3I v4I v2I v2I (σ)
set_option maxRecDepth 20000 in
theorem s_Ch_partRow_1 {G : GX} {p : Program} {l : Launch} {e : Env} {s : State} {m : MethodId} {args : Array Value} {below : List Frame} {meth : Method} {c : Code} {z0 u0 n : Nat} (C : Cx G p s m args meth c prog_3_method_8_code 8 "BellPlate$Chooser" ((some FieldType.int))) (IH : I_Ch_partRow G p l e s m args below meth c z0 u0 n) (v0R : Nat) (v1R : Nat) (v3I : Int32) (v4I : Int32) (v5I : Int32) (v6I : Int32) (σ : AM) : VX (QM eI G args s below z0 u0) G p l e s m args below meth c 1 z0 u0 8 (lpK (lpn F_Ch_partRow n) (T_Ch_partRow_1 v0R v1R v3I v4I v5I v6I σ)) 6 [(0, .ref v0R), (1, .ref v1R), (3, .int v3I), (4, .int v4I), (5, .int v5I), (6, .int v6I)] [] σ := by
  unfold T_Ch_partRow_1
  refine x_iload C d_Ch_partRow_6 5 rfl ?_
  refine x_iload_n C d_Ch_partRow_8 2 rfl ?_
  refine x_icmp_ge (tgt := 58) C d_Ch_partRow_9 (by decide) (fun _ => ?_) (fun _ => ?_)
  · refine x_aload_n C d_Ch_partRow_12 1 rfl ?_
    refine x_iload C d_Ch_partRow_13 5 rfl ?_
    refine x_gd (fun h1 => ?_)
    refine x_gd (fun h2 => ?_)
    refine x_aldI C (okO_iff.mp h1) (inB_iff.mp h2) d_Ch_partRow_15 ?_
    refine x_letI (fun x3 _ => ?_)
    refine x_istore (lv' := [(7, .int x3), (0, .ref v0R), (1, .ref v1R), (3, .int v3I), (4, .int v4I), (5, .int v5I), (6, .int v6I)]) C d_Ch_partRow_16 (by decide) rfl ?_
    refine x_aload_n C d_Ch_partRow_18 1 rfl ?_
    refine x_gd (fun h4 => ?_)
    refine x_gd (fun h5 => ?_)
    refine x_getR (k := 1) (kv := 3) C (okO_iff.mp h4) rfl j5_ok (by decide) rfl (okO_iff.mp h5) (by decide) w380 d_Ch_partRow_19 ?_
    refine x_iload C d_Ch_partRow_22 0 rfl ?_
    refine x_callVJ (As := [.int x3]) C (c_Ls_at G l (aR σ v0R 1) x3 σ) (okO_iff.mp h5) rfl w996 w997 w1163 w998 w123 k_Ls_at rfl (by decide) (by decide) rfl (Nat.le_of_ble_eq_true rfl) d_Ch_partRow_24 (fun r6 σ7 => ?_)
    refine x_iload C d_Ch_partRow_27 4 rfl ?_
    refine x_callSI (As := [.long r6, .int v4I]) C (c_St_has G l r6 v4I σ7) w1101 w1180 w1102 w141 k_St_has rfl (by decide) (by decide) rfl (Nat.le_of_ble_eq_true rfl) d_Ch_partRow_29 (fun r8 σ9 => ?_)
    refine x_if_ne (tgt := 52) C d_Ch_partRow_32 (by decide) (fun _ => ?_) (fun _ => ?_)
    · refine x_aload_n C d_Ch_partRow_35 2 rfl ?_
      refine x_iload C d_Ch_partRow_36 6 rfl ?_
      refine x_aload_n C d_Ch_partRow_38 2 rfl ?_
      refine x_iload C d_Ch_partRow_39 5 rfl ?_
      refine x_gd (fun h10 => ?_)
      refine x_gd (fun h11 => ?_)
      refine x_aldI C (okO_iff.mp h10) (inB_iff.mp h11) d_Ch_partRow_41 ?_
      refine x_gd (fun h12 => ?_)
      refine x_astI C (okO_iff.mp h10) (inB_iff.mp h12) d_Ch_partRow_42 ?_
      refine x_letS (fun σ13 e14 => ?_)
      refine x_aload_n C d_Ch_partRow_43 2 rfl ?_
      refine x_iload C d_Ch_partRow_44 5 rfl ?_
      refine x_iload C d_Ch_partRow_46 0 rfl ?_
      refine x_astI C (by first | exact (okO_iff.mp h10) | (rw [e14]; exact (okO_iff.mp h10))) (by first | exact (inB_iff.mp h11) | (rw [e14]; exact (inB_iff.mp h11))) d_Ch_partRow_48 ?_
      refine x_letS (fun σ15 e16 => ?_)
      refine x_iinc (v := v5I + (1 : Int32)) (lv' := [(5, .int (v5I + (1 : Int32))), (7, .int x3), (0, .ref v0R), (1, .ref v1R), (3, .int v3I), (4, .int v4I), (6, .int v6I)]) C d_Ch_partRow_49 5 rfl rfl (by decide) rfl ?_
      refine x_lv [2, 3, 4, 5, 0, 6] rfl ?_
      exact IH.2.2 v0R v1R v3I v4I (v5I + (1 : Int32)) v6I (σ15)
    · refine x_lv [1, 2, 3, 4, 5, 6] rfl ?_
      exact IH.2.2 v0R v1R v3I v4I v5I v6I (σ9)
  · refine x_iload C d_Ch_partRow_58 4 rfl ?_
    exact x_iret C d_Ch_partRow_60
set_option maxRecDepth 20000 in
theorem s_Ch_partRow_2 {G : GX} {p : Program} {l : Launch} {e : Env} {s : State} {m : MethodId} {args : Array Value} {below : List Frame} {meth : Method} {c : Code} {z0 u0 n : Nat} (C : Cx G p s m args meth c prog_3_method_8_code 8 "BellPlate$Chooser" ((some FieldType.int))) (IH : I_Ch_partRow G p l e s m args below meth c z0 u0 n) (v0R : Nat) (v1R : Nat) (v3I : Int32) (v4I : Int32) (v5I : Int32) (v6I : Int32) (σ : AM) : VX (QM eI G args s below z0 u0) G p l e s m args below meth c 1 z0 u0 8 (lpK (lpn F_Ch_partRow n) (T_Ch_partRow_2 v0R v1R v3I v4I v5I v6I σ)) 52 [(0, .ref v0R), (1, .ref v1R), (3, .int v3I), (4, .int v4I), (5, .int v5I), (6, .int v6I)] [] σ := by
  unfold T_Ch_partRow_2
  refine x_iinc (v := v6I + (1 : Int32)) (lv' := [(6, .int (v6I + (1 : Int32))), (0, .ref v0R), (1, .ref v1R), (3, .int v3I), (4, .int v4I), (5, .int v5I)]) C d_Ch_partRow_52 5 rfl rfl (by decide) rfl ?_
  refine x_goto (tgt := 6) C d_Ch_partRow_55 (by decide) ?_
  refine x_lv [1, 2, 3, 4, 5, 0] rfl ?_
  exact IH.2.1 v0R v1R v3I v4I v5I (v6I + (1 : Int32)) (σ)
theorem i_Ch_partRow {G : GX} {p : Program} {l : Launch} {e : Env} {s : State} {m : MethodId} {args : Array Value} {below : List Frame} {meth : Method} {c : Code} {z0 u0 : Nat} (C : Cx G p s m args meth c prog_3_method_8_code 8 "BellPlate$Chooser" ((some FieldType.int))) (n : Nat) : I_Ch_partRow G p l e s m args below meth c z0 u0 n := by
  induction n with
  | zero => exact ⟨fun _ _ _ _ _ _ => x_none, fun _ _ _ _ _ _ _ => x_none, fun _ _ _ _ _ _ _ => x_none⟩
  | succ n IH => exact ⟨fun v0R v1R v2I v3I v4I σ => s_Ch_partRow_0 C IH v0R v1R v2I v3I v4I σ, fun v0R v1R v3I v4I v5I v6I σ => s_Ch_partRow_1 C IH v0R v1R v3I v4I v5I v6I σ, fun v0R v1R v3I v4I v5I v6I σ => s_Ch_partRow_2 C IH v0R v1R v3I v4I v5I v6I σ⟩
theorem c_Ch_partRow (G : GX) (l : Launch) (v0R : Nat) (v1R : Nat) (v2I : Int32) (v3I : Int32) (v4I : Int32) (σ : AM) : CT eI G l 1 y_Ch_partRow prog_3_method_8_code 8 ((some FieldType.int)) [.ref v0R, .ref v1R, .int v2I, .int v3I, .int v4I] σ (M_Ch_partRow v0R v1R v2I v3I v4I σ) := by
  refine ct_of (by decide +kernel) (Nat.le_of_ble_eq_true rfl) (fun p e s m args below meth c C hin => ?_)
  refine x_lve (lv' := [(0, .ref v0R), (1, .ref v1R), (2, .int v2I), (3, .int v3I), (4, .int v4I)]) rfl ?_
  intro r σ' h
  obtain ⟨n, hn⟩ := (lp_iff _ _ _).mp h
  exact (i_Ch_partRow C n).1 v0R v1R v2I v3I v4I σ r σ' hn
/-! BellPlate$Chooser.copyOfRest()[I -/
abbrev y_Ch_copyOfRest : MethodName := ⟨"BellPlate$Chooser", "copyOfRest", "()[I"⟩
theorem k_Ch_copyOfRest : y_Ch_copyOfRest.cls ≠ "java/lang/invoke/MethodHandle" ∧ y_Ch_copyOfRest.cls ≠ "java/lang/invoke/VarHandle" ∧ (parseMethodDescriptor y_Ch_copyOfRest.desc).map (fun d => d.parameters.length) = some 0 := by decide +kernel
theorem d_Ch_copyOfRest_0 : decode prog_3_method_9_code 0 = .ok (.aload_n 0, 1) := by decide +kernel
theorem d_Ch_copyOfRest_1 : decode prog_3_method_9_code 1 = .ok (.getfield 15, 3) := by decide +kernel
theorem d_Ch_copyOfRest_4 : decode prog_3_method_9_code 4 = .ok (.invokevirtual 127, 3) := by decide +kernel
theorem d_Ch_copyOfRest_7 : decode prog_3_method_9_code 7 = .ok (.astore_n 1, 1) := by decide +kernel
theorem d_Ch_copyOfRest_8 : decode prog_3_method_9_code 8 = .ok (.aload_n 0, 1) := by decide +kernel
theorem d_Ch_copyOfRest_9 : decode prog_3_method_9_code 9 = .ok (.getfield 23, 3) := by decide +kernel
theorem d_Ch_copyOfRest_12 : decode prog_3_method_9_code 12 = .ok (.invokevirtual 131, 3) := by decide +kernel
theorem d_Ch_copyOfRest_15 : decode prog_3_method_9_code 15 = .ok (.iconst 0, 1) := by decide +kernel
theorem d_Ch_copyOfRest_16 : decode prog_3_method_9_code 16 = .ok (.aload_n 1, 1) := by decide +kernel
theorem d_Ch_copyOfRest_17 : decode prog_3_method_9_code 17 = .ok (.iconst 0, 1) := by decide +kernel
theorem d_Ch_copyOfRest_18 : decode prog_3_method_9_code 18 = .ok (.aload_n 0, 1) := by decide +kernel
theorem d_Ch_copyOfRest_19 : decode prog_3_method_9_code 19 = .ok (.getfield 23, 3) := by decide +kernel
theorem d_Ch_copyOfRest_22 : decode prog_3_method_9_code 22 = .ok (.invokevirtual 136, 3) := by decide +kernel
theorem d_Ch_copyOfRest_25 : decode prog_3_method_9_code 25 = .ok (.invokestatic 139, 3) := by decide +kernel
theorem d_Ch_copyOfRest_28 : decode prog_3_method_9_code 28 = .ok (.aload_n 1, 1) := by decide +kernel
theorem d_Ch_copyOfRest_29 : decode prog_3_method_9_code 29 = .ok (.areturn, 1) := by decide +kernel
abbrev S_Ch_copyOfRest : Type := Nat × Nat × AM
noncomputable def T_Ch_copyOfRest_0 (v0R : Nat) (σ : AM) : S_Ch_copyOfRest ⊕ Option (Nat × AM) :=
  gdT (okO σ v0R 6) <| gdT (okO σ (aR σ v0R 1) 3) <| bndT (M_Ls_spare (aR σ v0R 1) σ) fun r3 σ4 => gdT (okO σ4 v0R 6) <| gdT (okO σ4 (aR σ4 v0R 3) 5) <| bndT (M_Rs_row (aR σ4 v0R 3) σ4) fun r7 σ8 => gdT (okO σ8 v0R 6) <| gdT (okO σ8 (aR σ8 v0R 3) 5) <| bndT (M_Rs_size (aR σ8 v0R 3) σ8) fun r11 σ12 => gdT (okO σ12 r7 101) <| gdT (okO σ12 r3 101) <| gdT (okC σ12 r7 r3 (0 : Int32) (0 : Int32) r11) <| letT (cpI σ12 r7 (0 : Int32).toNatClampNeg r3 (0 : Int32).toNatClampNeg r11.toNatClampNeg) fun σ16 => .inr (some (r3, σ16))
noncomputable def F_Ch_copyOfRest : S_Ch_copyOfRest → S_Ch_copyOfRest ⊕ Option (Nat × AM) := fun s => match s.1 with
  | _ => T_Ch_copyOfRest_0 (s.2.1) (s.2.2)
noncomputable def L_Ch_copyOfRest_0 (v0R : Nat) (σ : AM) : Option (Nat × AM) := lp F_Ch_copyOfRest (0, v0R, σ)
set_option maxRecDepth 20000 in
theorem E_Ch_copyOfRest_0 (v0R : Nat) (σ : AM) : L_Ch_copyOfRest_0 v0R σ = (gd (okO σ v0R 6) <| gd (okO σ (aR σ v0R 1) 3) <| bnd (M_Ls_spare (aR σ v0R 1) σ) fun r3 σ4 => gd (okO σ4 v0R 6) <| gd (okO σ4 (aR σ4 v0R 3) 5) <| bnd (M_Rs_row (aR σ4 v0R 3) σ4) fun r7 σ8 => gd (okO σ8 v0R 6) <| gd (okO σ8 (aR σ8 v0R 3) 5) <| bnd (M_Rs_size (aR σ8 v0R 3) σ8) fun r11 σ12 => gd (okO σ12 r7 101) <| gd (okO σ12 r3 101) <| gd (okC σ12 r7 r3 (0 : Int32) (0 : Int32) r11) <| letT (cpI σ12 r7 (0 : Int32).toNatClampNeg r3 (0 : Int32).toNatClampNeg r11.toNatClampNeg) fun σ16 => (some (r3, σ16))) := by
  unfold L_Ch_copyOfRest_0
  rw [lp_eq]
  show lpK (lp F_Ch_copyOfRest) (T_Ch_copyOfRest_0 v0R σ) = _
  unfold T_Ch_copyOfRest_0
  simp only [lpK_ite, lq_inl, lq_inr, lpK_bnd, lpK_gd, lq_let]
  try rfl
noncomputable def M_Ch_copyOfRest (v0R : Nat) (σ : AM) : Option (Nat × AM) := mw σ (L_Ch_copyOfRest_0 v0R σ)
def I_Ch_copyOfRest (G : GX) (p : Program) (l : Launch) (e : Env) (s : State) (m : MethodId) (args : Array Value) (below : List Frame) (meth : Method) (c : Code) (z0 u0 n : Nat) : Prop :=
  (∀ (v0R : Nat) (σ : AM), VX (QM eR G args s below z0 u0) G p l e s m args below meth c 1 z0 u0 2 (lpn F_Ch_copyOfRest n (0, v0R, σ)) 0 [(0, .ref v0R)] [] σ)
set_option maxRecDepth 20000 in
theorem s_Ch_copyOfRest_0 {G : GX} {p : Program} {l : Launch} {e : Env} {s : State} {m : MethodId} {args : Array Value} {below : List Frame} {meth : Method} {c : Code} {z0 u0 n : Nat} (C : Cx G p s m args meth c prog_3_method_9_code 2 "BellPlate$Chooser" ((some (FieldType.array FieldType.int)))) (IH : I_Ch_copyOfRest G p l e s m args below meth c z0 u0 n) (v0R : Nat) (σ : AM) : VX (QM eR G args s below z0 u0) G p l e s m args below meth c 1 z0 u0 2 (lpK (lpn F_Ch_copyOfRest n) (T_Ch_copyOfRest_0 v0R σ)) 0 [(0, .ref v0R)] [] σ := by
  unfold T_Ch_copyOfRest_0
  refine x_aload_n C d_Ch_copyOfRest_0 0 rfl ?_
  refine x_gd (fun h1 => ?_)
  refine x_gd (fun h2 => ?_)
  refine x_getR (k := 1) (kv := 3) C (okO_iff.mp h1) rfl j5_ok (by decide) rfl (okO_iff.mp h2) (by decide) w380 d_Ch_copyOfRest_1 ?_
  refine x_callVR (As := []) C (c_Ls_spare G l (aR σ v0R 1)  σ) (okO_iff.mp h2) rfl w1270 w1271 w1269 w1272 w123 k_Ls_spare rfl (by decide) (by decide) rfl (Nat.le_of_ble_eq_true rfl) d_Ch_copyOfRest_4 (fun r3 σ4 => ?_)
  refine x_astore_n (lv' := [(1, .ref r3), (0, .ref v0R)]) C d_Ch_copyOfRest_7 (by decide) rfl rfl ?_
  refine x_aload_n C d_Ch_copyOfRest_8 1 rfl ?_
  refine x_gd (fun h5 => ?_)
  refine x_gd (fun h6 => ?_)
  refine x_getR (k := 3) (kv := 5) C (okO_iff.mp h5) rfl j5_ok (by decide) rfl (okO_iff.mp h6) (by decide) w382 d_Ch_copyOfRest_9 ?_
  refine x_callVR (As := []) C (c_Rs_row G l (aR σ4 v0R 3)  σ4) (okO_iff.mp h6) rfl w1152 w1153 w1273 w1154 w125 k_Rs_row rfl (by decide) (by decide) rfl (Nat.le_of_ble_eq_true rfl) d_Ch_copyOfRest_12 (fun r7 σ8 => ?_)
  refine x_iconst (v := (0 : Int32)) C d_Ch_copyOfRest_15 (by decide) ?_
  refine x_aload_n C d_Ch_copyOfRest_16 0 rfl ?_
  refine x_iconst (v := (0 : Int32)) C d_Ch_copyOfRest_17 (by decide) ?_
  refine x_aload_n C d_Ch_copyOfRest_18 1 rfl ?_
  refine x_gd (fun h9 => ?_)
  refine x_gd (fun h10 => ?_)
  refine x_getR (k := 3) (kv := 5) C (okO_iff.mp h9) rfl j5_ok (by decide) rfl (okO_iff.mp h10) (by decide) w382 d_Ch_copyOfRest_19 ?_
  refine x_callVI (As := []) C (c_Rs_size G l (aR σ8 v0R 3)  σ8) (okO_iff.mp h10) rfl w1084 w1085 w1274 w1086 w125 k_Rs_size rfl (by decide) (by decide) rfl (Nat.le_of_ble_eq_true rfl) d_Ch_copyOfRest_22 (fun r11 σ12 => ?_)
  refine x_gd (fun h13 => ?_)
  refine x_gd (fun h14 => ?_)
  refine x_gd (fun h15 => ?_)
  refine x_cpyI C w1275 w966 w965 w140 (okO_iff.mp h13) (okO_iff.mp h14) h15 (by decide) (Nat.le_of_ble_eq_true rfl) d_Ch_copyOfRest_25 ?_
  refine x_letS (fun σ16 e17 => ?_)
  refine x_aload_n C d_Ch_copyOfRest_28 0 rfl ?_
  exact x_aret (by first | exact Or.inl ⟨_, rfl⟩ | exact Or.inr ⟨_, rfl⟩) C d_Ch_copyOfRest_29
theorem i_Ch_copyOfRest {G : GX} {p : Program} {l : Launch} {e : Env} {s : State} {m : MethodId} {args : Array Value} {below : List Frame} {meth : Method} {c : Code} {z0 u0 : Nat} (C : Cx G p s m args meth c prog_3_method_9_code 2 "BellPlate$Chooser" ((some (FieldType.array FieldType.int)))) (n : Nat) : I_Ch_copyOfRest G p l e s m args below meth c z0 u0 n := by
  induction n with
  | zero => exact fun _ _ => x_none
  | succ n IH => exact fun v0R σ => s_Ch_copyOfRest_0 C IH v0R σ
theorem c_Ch_copyOfRest (G : GX) (l : Launch) (v0R : Nat) (σ : AM) : CT eR G l 1 y_Ch_copyOfRest prog_3_method_9_code 2 ((some (FieldType.array FieldType.int))) [.ref v0R] σ (M_Ch_copyOfRest v0R σ) := by
  refine ct_of (by decide +kernel) (Nat.le_of_ble_eq_true rfl) (fun p e s m args below meth c C hin => ?_)
  refine x_lve (lv' := [(0, .ref v0R)]) rfl ?_
  intro r σ' h
  obtain ⟨n, hn⟩ := (lp_iff _ _ _).mp h
  exact (i_Ch_copyOfRest C n) v0R σ r σ' hn
/-! BellPlate$Chooser.hide(II)V -/
abbrev y_Ch_hide : MethodName := ⟨"BellPlate$Chooser", "hide", "(II)V"⟩
theorem k_Ch_hide : y_Ch_hide.cls ≠ "java/lang/invoke/MethodHandle" ∧ y_Ch_hide.cls ≠ "java/lang/invoke/VarHandle" ∧ (parseMethodDescriptor y_Ch_hide.desc).map (fun d => d.parameters.length) = some 2 := by decide +kernel
theorem d_Ch_hide_0 : decode prog_3_method_10_code 0 = .ok (.aload_n 0, 1) := by decide +kernel
theorem d_Ch_hide_1 : decode prog_3_method_10_code 1 = .ok (.getfield 61, 3) := by decide +kernel
theorem d_Ch_hide_4 : decode prog_3_method_10_code 4 = .ok (.aload_n 0, 1) := by decide +kernel
theorem d_Ch_hide_5 : decode prog_3_method_10_code 5 = .ok (.getfield 19, 3) := by decide +kernel
theorem d_Ch_hide_8 : decode prog_3_method_10_code 8 = .ok (.invokevirtual 145, 3) := by decide +kernel
theorem d_Ch_hide_11 : decode prog_3_method_10_code 11 = .ok (.if_icmp .ne 20, 3) := by decide +kernel
theorem d_Ch_hide_14 : decode prog_3_method_10_code 14 = .ok (.aload_n 0, 1) := by decide +kernel
theorem d_Ch_hide_15 : decode prog_3_method_10_code 15 = .ok (.getfield 148, 3) := by decide +kernel
theorem d_Ch_hide_18 : decode prog_3_method_10_code 18 = .ok (.iload_n 1, 1) := by decide +kernel
theorem d_Ch_hide_19 : decode prog_3_method_10_code 19 = .ok (.if_icmp .ne 12, 3) := by decide +kernel
theorem d_Ch_hide_22 : decode prog_3_method_10_code 22 = .ok (.aload_n 0, 1) := by decide +kernel
theorem d_Ch_hide_23 : decode prog_3_method_10_code 23 = .ok (.getfield 151, 3) := by decide +kernel
theorem d_Ch_hide_26 : decode prog_3_method_10_code 26 = .ok (.iload_n 2, 1) := by decide +kernel
theorem d_Ch_hide_27 : decode prog_3_method_10_code 27 = .ok (.if_icmp .ne 4, 3) := by decide +kernel
theorem d_Ch_hide_30 : decode prog_3_method_10_code 30 = .ok (.return_, 1) := by decide +kernel
theorem d_Ch_hide_31 : decode prog_3_method_10_code 31 = .ok (.aload_n 0, 1) := by decide +kernel
theorem d_Ch_hide_32 : decode prog_3_method_10_code 32 = .ok (.aload_n 0, 1) := by decide +kernel
theorem d_Ch_hide_33 : decode prog_3_method_10_code 33 = .ok (.getfield 19, 3) := by decide +kernel
theorem d_Ch_hide_36 : decode prog_3_method_10_code 36 = .ok (.invokevirtual 145, 3) := by decide +kernel
theorem d_Ch_hide_39 : decode prog_3_method_10_code 39 = .ok (.putfield 61, 3) := by decide +kernel
theorem d_Ch_hide_42 : decode prog_3_method_10_code 42 = .ok (.aload_n 0, 1) := by decide +kernel
theorem d_Ch_hide_43 : decode prog_3_method_10_code 43 = .ok (.iload_n 1, 1) := by decide +kernel
theorem d_Ch_hide_44 : decode prog_3_method_10_code 44 = .ok (.putfield 148, 3) := by decide +kernel
theorem d_Ch_hide_47 : decode prog_3_method_10_code 47 = .ok (.aload_n 0, 1) := by decide +kernel
theorem d_Ch_hide_48 : decode prog_3_method_10_code 48 = .ok (.iload_n 2, 1) := by decide +kernel
theorem d_Ch_hide_49 : decode prog_3_method_10_code 49 = .ok (.putfield 151, 3) := by decide +kernel
theorem d_Ch_hide_52 : decode prog_3_method_10_code 52 = .ok (.aload_n 0, 1) := by decide +kernel
theorem d_Ch_hide_53 : decode prog_3_method_10_code 53 = .ok (.iconst 0, 1) := by decide +kernel
theorem d_Ch_hide_54 : decode prog_3_method_10_code 54 = .ok (.putfield 154, 3) := by decide +kernel
theorem d_Ch_hide_57 : decode prog_3_method_10_code 57 = .ok (.aload_n 0, 1) := by decide +kernel
theorem d_Ch_hide_58 : decode prog_3_method_10_code 58 = .ok (.iconst 0, 1) := by decide +kernel
theorem d_Ch_hide_59 : decode prog_3_method_10_code 59 = .ok (.putfield 157, 3) := by decide +kernel
theorem d_Ch_hide_62 : decode prog_3_method_10_code 62 = .ok (.aload_n 0, 1) := by decide +kernel
theorem d_Ch_hide_63 : decode prog_3_method_10_code 63 = .ok (.iconst 0, 1) := by decide +kernel
theorem d_Ch_hide_64 : decode prog_3_method_10_code 64 = .ok (.putfield 160, 3) := by decide +kernel
theorem d_Ch_hide_67 : decode prog_3_method_10_code 67 = .ok (.aload_n 0, 1) := by decide +kernel
theorem d_Ch_hide_68 : decode prog_3_method_10_code 68 = .ok (.getfield 15, 3) := by decide +kernel
theorem d_Ch_hide_71 : decode prog_3_method_10_code 71 = .ok (.iload_n 1, 1) := by decide +kernel
theorem d_Ch_hide_72 : decode prog_3_method_10_code 72 = .ok (.invokevirtual 163, 3) := by decide +kernel
theorem d_Ch_hide_75 : decode prog_3_method_10_code 75 = .ok (.lstore_n 3, 1) := by decide +kernel
theorem d_Ch_hide_76 : decode prog_3_method_10_code 76 = .ok (.aload_n 0, 1) := by decide +kernel
theorem d_Ch_hide_77 : decode prog_3_method_10_code 77 = .ok (.invokevirtual 166, 3) := by decide +kernel
theorem d_Ch_hide_80 : decode prog_3_method_10_code 80 = .ok (.astore 5, 2) := by decide +kernel
theorem d_Ch_hide_82 : decode prog_3_method_10_code 82 = .ok (.iconst 0, 1) := by decide +kernel
theorem d_Ch_hide_83 : decode prog_3_method_10_code 83 = .ok (.istore 6, 2) := by decide +kernel
theorem d_Ch_hide_85 : decode prog_3_method_10_code 85 = .ok (.aload_n 0, 1) := by decide +kernel
theorem d_Ch_hide_86 : decode prog_3_method_10_code 86 = .ok (.getfield 23, 3) := by decide +kernel
theorem d_Ch_hide_89 : decode prog_3_method_10_code 89 = .ok (.invokevirtual 136, 3) := by decide +kernel
theorem d_Ch_hide_92 : decode prog_3_method_10_code 92 = .ok (.istore 7, 2) := by decide +kernel
theorem d_Ch_hide_94 : decode prog_3_method_10_code 94 = .ok (.iconst 0, 1) := by decide +kernel
theorem d_Ch_hide_95 : decode prog_3_method_10_code 95 = .ok (.istore 8, 2) := by decide +kernel
theorem d_Ch_hide_97 : decode prog_3_method_10_code 97 = .ok (.iload 8, 2) := by decide +kernel
theorem d_Ch_hide_99 : decode prog_3_method_10_code 99 = .ok (.bipush 60, 2) := by decide +kernel
theorem d_Ch_hide_101 : decode prog_3_method_10_code 101 = .ok (.if_icmp .ge 146, 3) := by decide +kernel
theorem d_Ch_hide_104 : decode prog_3_method_10_code 104 = .ok (.iload 7, 2) := by decide +kernel
theorem d_Ch_hide_106 : decode prog_3_method_10_code 106 = .ok (.iload 6, 2) := by decide +kernel
theorem d_Ch_hide_108 : decode prog_3_method_10_code 108 = .ok (.isub, 1) := by decide +kernel
theorem d_Ch_hide_109 : decode prog_3_method_10_code 109 = .ok (.iconst 1, 1) := by decide +kernel
theorem d_Ch_hide_110 : decode prog_3_method_10_code 110 = .ok (.if_icmp .le 137, 3) := by decide +kernel
theorem d_Ch_hide_113 : decode prog_3_method_10_code 113 = .ok (.aload_n 0, 1) := by decide +kernel
theorem d_Ch_hide_114 : decode prog_3_method_10_code 114 = .ok (.aload 5, 2) := by decide +kernel
theorem d_Ch_hide_116 : decode prog_3_method_10_code 116 = .ok (.iload 6, 2) := by decide +kernel
theorem d_Ch_hide_118 : decode prog_3_method_10_code 118 = .ok (.iload 7, 2) := by decide +kernel
theorem d_Ch_hide_120 : decode prog_3_method_10_code 120 = .ok (.iload_n 2, 1) := by decide +kernel
theorem d_Ch_hide_121 : decode prog_3_method_10_code 121 = .ok (.invokevirtual 169, 3) := by decide +kernel
theorem d_Ch_hide_124 : decode prog_3_method_10_code 124 = .ok (.istore 9, 2) := by decide +kernel
theorem d_Ch_hide_126 : decode prog_3_method_10_code 126 = .ok (.iload 9, 2) := by decide +kernel
theorem d_Ch_hide_128 : decode prog_3_method_10_code 128 = .ok (.iconst (-1), 1) := by decide +kernel
theorem d_Ch_hide_129 : decode prog_3_method_10_code 129 = .ok (.if_icmp .ne 4, 3) := by decide +kernel
theorem d_Ch_hide_132 : decode prog_3_method_10_code 132 = .ok (.return_, 1) := by decide +kernel
theorem d_Ch_hide_133 : decode prog_3_method_10_code 133 = .ok (.aload_n 0, 1) := by decide +kernel
theorem d_Ch_hide_134 : decode prog_3_method_10_code 134 = .ok (.aload 5, 2) := by decide +kernel
theorem d_Ch_hide_136 : decode prog_3_method_10_code 136 = .ok (.iload 6, 2) := by decide +kernel
theorem d_Ch_hide_138 : decode prog_3_method_10_code 138 = .ok (.iload 7, 2) := by decide +kernel
theorem d_Ch_hide_140 : decode prog_3_method_10_code 140 = .ok (.iload 9, 2) := by decide +kernel
theorem d_Ch_hide_142 : decode prog_3_method_10_code 142 = .ok (.invokevirtual 173, 3) := by decide +kernel
theorem d_Ch_hide_145 : decode prog_3_method_10_code 145 = .ok (.istore 10, 2) := by decide +kernel
theorem d_Ch_hide_147 : decode prog_3_method_10_code 147 = .ok (.lload_n 3, 1) := by decide +kernel
theorem d_Ch_hide_148 : decode prog_3_method_10_code 148 = .ok (.iload 9, 2) := by decide +kernel
theorem d_Ch_hide_150 : decode prog_3_method_10_code 150 = .ok (.invokestatic 110, 3) := by decide +kernel
theorem d_Ch_hide_153 : decode prog_3_method_10_code 153 = .ok (.istore 11, 2) := by decide +kernel
theorem d_Ch_hide_155 : decode prog_3_method_10_code 155 = .ok (.iload 11, 2) := by decide +kernel
theorem d_Ch_hide_157 : decode prog_3_method_10_code 157 = .ok (.ifCond .eq 8, 3) := by decide +kernel
theorem d_Ch_hide_160 : decode prog_3_method_10_code 160 = .ok (.iload 10, 2) := by decide +kernel
theorem d_Ch_hide_162 : decode prog_3_method_10_code 162 = .ok (.goto 5, 3) := by decide +kernel
theorem d_Ch_hide_165 : decode prog_3_method_10_code 165 = .ok (.iload 6, 2) := by decide +kernel
theorem d_Ch_hide_167 : decode prog_3_method_10_code 167 = .ok (.istore 6, 2) := by decide +kernel
theorem d_Ch_hide_169 : decode prog_3_method_10_code 169 = .ok (.iload 11, 2) := by decide +kernel
theorem d_Ch_hide_171 : decode prog_3_method_10_code 171 = .ok (.ifCond .eq 8, 3) := by decide +kernel
theorem d_Ch_hide_174 : decode prog_3_method_10_code 174 = .ok (.iload 7, 2) := by decide +kernel
theorem d_Ch_hide_176 : decode prog_3_method_10_code 176 = .ok (.goto 5, 3) := by decide +kernel
theorem d_Ch_hide_179 : decode prog_3_method_10_code 179 = .ok (.iload 10, 2) := by decide +kernel
theorem d_Ch_hide_181 : decode prog_3_method_10_code 181 = .ok (.istore 7, 2) := by decide +kernel
theorem d_Ch_hide_183 : decode prog_3_method_10_code 183 = .ok (.aload_n 0, 1) := by decide +kernel
theorem d_Ch_hide_184 : decode prog_3_method_10_code 184 = .ok (.getfield 58, 3) := by decide +kernel
theorem d_Ch_hide_187 : decode prog_3_method_10_code 187 = .ok (.aload_n 0, 1) := by decide +kernel
theorem d_Ch_hide_188 : decode prog_3_method_10_code 188 = .ok (.getfield 154, 3) := by decide +kernel
theorem d_Ch_hide_191 : decode prog_3_method_10_code 191 = .ok (.iload 9, 2) := by decide +kernel
theorem d_Ch_hide_193 : decode prog_3_method_10_code 193 = .ok (.iastore, 1) := by decide +kernel
theorem d_Ch_hide_194 : decode prog_3_method_10_code 194 = .ok (.aload_n 0, 1) := by decide +kernel
theorem d_Ch_hide_195 : decode prog_3_method_10_code 195 = .ok (.dup, 1) := by decide +kernel
theorem d_Ch_hide_196 : decode prog_3_method_10_code 196 = .ok (.getfield 154, 3) := by decide +kernel
theorem d_Ch_hide_199 : decode prog_3_method_10_code 199 = .ok (.iconst 1, 1) := by decide +kernel
theorem d_Ch_hide_200 : decode prog_3_method_10_code 200 = .ok (.iadd, 1) := by decide +kernel
theorem d_Ch_hide_201 : decode prog_3_method_10_code 201 = .ok (.putfield 154, 3) := by decide +kernel
theorem d_Ch_hide_204 : decode prog_3_method_10_code 204 = .ok (.aload_n 0, 1) := by decide +kernel
theorem d_Ch_hide_205 : decode prog_3_method_10_code 205 = .ok (.dup, 1) := by decide +kernel
theorem d_Ch_hide_206 : decode prog_3_method_10_code 206 = .ok (.getfield 157, 3) := by decide +kernel
theorem d_Ch_hide_209 : decode prog_3_method_10_code 209 = .ok (.iload 11, 2) := by decide +kernel
theorem d_Ch_hide_211 : decode prog_3_method_10_code 211 = .ok (.ifCond .eq 7, 3) := by decide +kernel
theorem d_Ch_hide_214 : decode prog_3_method_10_code 214 = .ok (.iconst 1, 1) := by decide +kernel
theorem d_Ch_hide_215 : decode prog_3_method_10_code 215 = .ok (.goto 4, 3) := by decide +kernel
theorem d_Ch_hide_218 : decode prog_3_method_10_code 218 = .ok (.iconst 0, 1) := by decide +kernel
theorem d_Ch_hide_219 : decode prog_3_method_10_code 219 = .ok (.iadd, 1) := by decide +kernel
theorem d_Ch_hide_220 : decode prog_3_method_10_code 220 = .ok (.putfield 157, 3) := by decide +kernel
theorem d_Ch_hide_223 : decode prog_3_method_10_code 223 = .ok (.aload_n 0, 1) := by decide +kernel
theorem d_Ch_hide_224 : decode prog_3_method_10_code 224 = .ok (.dup, 1) := by decide +kernel
theorem d_Ch_hide_225 : decode prog_3_method_10_code 225 = .ok (.getfield 160, 3) := by decide +kernel
theorem d_Ch_hide_228 : decode prog_3_method_10_code 228 = .ok (.aload_n 0, 1) := by decide +kernel
theorem d_Ch_hide_229 : decode prog_3_method_10_code 229 = .ok (.getfield 9, 3) := by decide +kernel
theorem d_Ch_hide_232 : decode prog_3_method_10_code 232 = .ok (.iload 9, 2) := by decide +kernel
theorem d_Ch_hide_234 : decode prog_3_method_10_code 234 = .ok (.invokevirtual 118, 3) := by decide +kernel
theorem d_Ch_hide_237 : decode prog_3_method_10_code 237 = .ok (.iadd, 1) := by decide +kernel
theorem d_Ch_hide_238 : decode prog_3_method_10_code 238 = .ok (.putfield 160, 3) := by decide +kernel
theorem d_Ch_hide_241 : decode prog_3_method_10_code 241 = .ok (.iinc 8 1, 3) := by decide +kernel
theorem d_Ch_hide_244 : decode prog_3_method_10_code 244 = .ok (.goto (-147), 3) := by decide +kernel
theorem d_Ch_hide_247 : decode prog_3_method_10_code 247 = .ok (.return_, 1) := by decide +kernel
abbrev S_Ch_hide : Type := Nat × Nat × Int32 × Int32 × Int64 × Nat × Int32 × Int32 × Int32 × Int32 × Int32 × Int32 × Int32 × Nat × Int32 × Int32 × AM
noncomputable def T_Ch_hide_0 (v0R : Nat) (v1I : Int32) (v2I : Int32) (σ : AM) : S_Ch_hide ⊕ Option (Unit × AM) :=
  gdT (okO σ v0R 6) <| gdT (okO σ (aR σ v0R 2) 4) <| bndT (M_Bk_age (aR σ v0R 2) σ) fun r3 σ4 => if (aI σ v0R 15) = r3 then (gdT (okO σ4 v0R 6) <| if (aI σ4 v0R 13) = v1I then (if (aI σ4 v0R 14) = v2I then (.inr (some ((), σ4))) else (.inl (1, v0R, v1I, v2I, 0, 0, 0, 0, 0, 0, 0, 0, 0, 0, 0, 0, σ4))) else (.inl (1, v0R, v1I, v2I, 0, 0, 0, 0, 0, 0, 0, 0, 0, 0, 0, 0, σ4))) else (.inl (1, v0R, v1I, v2I, 0, 0, 0, 0, 0, 0, 0, 0, 0, 0, 0, 0, σ4))
noncomputable def T_Ch_hide_1 (v0R : Nat) (v1I : Int32) (v2I : Int32) (σ : AM) : S_Ch_hide ⊕ Option (Unit × AM) :=
  gdT (okO σ v0R 6) <| gdT (okO σ (aR σ v0R 2) 4) <| bndT (M_Bk_age (aR σ v0R 2) σ) fun r3 σ4 => gdT (okO σ4 v0R 6) <| letT (sI σ4 v0R 15 r3) fun σ6 => letT (sI σ6 v0R 13 v1I) fun σ8 => letT (sI σ8 v0R 14 v2I) fun σ10 => letT (sI σ10 v0R 16 (0 : Int32)) fun σ12 => letT (sI σ12 v0R 17 (0 : Int32)) fun σ14 => letT (sI σ14 v0R 18 (0 : Int32)) fun σ16 => gdT (okO σ16 (aR σ16 v0R 1) 3) <| bndT (M_Ls_listOf (aR σ16 v0R 1) v1I σ16) fun r19 σ20 => gdT (okO σ20 v0R 6) <| bndT (M_Ch_copyOfRest v0R σ20) fun r21 σ22 => gdT (okO σ22 v0R 6) <| gdT (okO σ22 (aR σ22 v0R 3) 5) <| bndT (M_Rs_size (aR σ22 v0R 3) σ22) fun r26 σ27 => .inl (2, v0R, 0, v2I, r19, r21, (0 : Int32), r26, (0 : Int32), 0, 0, 0, 0, 0, 0, 0, σ27)
noncomputable def T_Ch_hide_2 (v0R : Nat) (v2I : Int32) (v3J : Int64) (v5R : Nat) (v6I : Int32) (v7I : Int32) (v8I : Int32) (σ : AM) : S_Ch_hide ⊕ Option (Unit × AM) :=
  if v8I < (60 : Int32) then (if (1 : Int32) < (v7I - v6I) then (gdT (okO σ v0R 6) <| bndT (M_Ch_pick v0R v5R v6I v7I v2I σ) fun r1 σ2 => if r1 = ((-1) : Int32) then (.inr (some ((), σ2))) else (gdT (okO σ2 v0R 6) <| bndT (M_Ch_partRow v0R v5R v6I v7I r1 σ2) fun r4 σ5 => bndT (M_St_has v3J r1 σ5) fun r7 σ8 => if r7 = 0 then (.inl (3, v0R, 0, v2I, v3J, v5R, 0, v7I, v8I, r1, r4, r7, v6I, 0, 0, 0, σ8)) else (.inl (3, v0R, 0, v2I, v3J, v5R, 0, v7I, v8I, r1, r4, r7, r4, 0, 0, 0, σ8)))) else (.inl (6, 0, 0, 0, 0, 0, 0, 0, 0, 0, 0, 0, 0, 0, 0, 0, σ))) else (.inl (6, 0, 0, 0, 0, 0, 0, 0, 0, 0, 0, 0, 0, 0, 0, 0, σ))
noncomputable def T_Ch_hide_3 (v0R : Nat) (v2I : Int32) (v3J : Int64) (v5R : Nat) (v7I : Int32) (v8I : Int32) (v9I : Int32) (v10I : Int32) (v11I : Int32) (s0I : Int32) (σ : AM) : S_Ch_hide ⊕ Option (Unit × AM) :=
  if v11I = 0 then (.inl (4, v0R, 0, v2I, v3J, v5R, s0I, 0, v8I, v9I, 0, v11I, v10I, 0, 0, 0, σ)) else (.inl (4, v0R, 0, v2I, v3J, v5R, s0I, 0, v8I, v9I, 0, v11I, v7I, 0, 0, 0, σ))
noncomputable def T_Ch_hide_4 (v0R : Nat) (v2I : Int32) (v3J : Int64) (v5R : Nat) (v6I : Int32) (v8I : Int32) (v9I : Int32) (v11I : Int32) (s0I : Int32) (σ : AM) : S_Ch_hide ⊕ Option (Unit × AM) :=
  gdT (okO σ v0R 6) <| gdT (okO σ (aR σ v0R 12) 101) <| gdT (inB (aI σ v0R 16) (aN σ (aR σ v0R 12))) <| letT (sI σ (aR σ v0R 12) (aI σ v0R 16).toNatClampNeg v9I) fun σ4 => letT (sI σ4 v0R 16 ((aI σ4 v0R 16) + (1 : Int32))) fun σ6 => if v11I = 0 then (.inl (5, v0R, 0, v2I, v3J, v5R, v6I, s0I, v8I, v9I, 0, 0, 0, v0R, aI σ6 v0R 17, (0 : Int32), σ6)) else (.inl (5, v0R, 0, v2I, v3J, v5R, v6I, s0I, v8I, v9I, 0, 0, 0, v0R, aI σ6 v0R 17, (1 : Int32), σ6))
noncomputable def T_Ch_hide_5 (v0R : Nat) (v2I : Int32) (v3J : Int64) (v5R : Nat) (v6I : Int32) (v7I : Int32) (v8I : Int32) (v9I : Int32) (s0R : Nat) (s1I : Int32) (s2I : Int32) (σ : AM) : S_Ch_hide ⊕ Option (Unit × AM) :=
  gdT (okO σ s0R 6) <| letT (sI σ s0R 17 (s1I + s2I)) fun σ2 => gdT (okO σ2 v0R 6) <| gdT (okO σ2 (aR σ2 v0R 0) 1) <| bndT (M_Tw_costOf (aR σ2 v0R 0) v9I σ2) fun r6 σ7 => gdT (okO σ7 v0R 6) <| letT (sI σ7 v0R 18 ((aI σ2 v0R 18) + r6)) fun σ9 => .inl (2, v0R, 0, v2I, v3J, v5R, v6I, v7I, v8I + (1 : Int32), 0, 0, 0, 0, 0, 0, 0, σ9)
noncomputable def T_Ch_hide_6  (σ : AM) : S_Ch_hide ⊕ Option (Unit × AM) :=
  .inr (some ((), σ))
noncomputable def F_Ch_hide : S_Ch_hide → S_Ch_hide ⊕ Option (Unit × AM) := fun s => match s.1 with
  | 0 => T_Ch_hide_0 (s.2.1) (s.2.2.1) (s.2.2.2.1) (s.2.2.2.2.2.2.2.2.2.2.2.2.2.2.2.2)
  | 1 => T_Ch_hide_1 (s.2.1) (s.2.2.1) (s.2.2.2.1) (s.2.2.2.2.2.2.2.2.2.2.2.2.2.2.2.2)
  | 2 => T_Ch_hide_2 (s.2.1) (s.2.2.2.1) (s.2.2.2.2.1) (s.2.2.2.2.2.1) (s.2.2.2.2.2.2.1) (s.2.2.2.2.2.2.2.1) (s.2.2.2.2.2.2.2.2.1) (s.2.2.2.2.2.2.2.2.2.2.2.2.2.2.2.2)
  | 3 => T_Ch_hide_3 (s.2.1) (s.2.2.2.1) (s.2.2.2.2.1) (s.2.2.2.2.2.1) (s.2.2.2.2.2.2.2.1) (s.2.2.2.2.2.2.2.2.1) (s.2.2.2.2.2.2.2.2.2.1) (s.2.2.2.2.2.2.2.2.2.2.1) (s.2.2.2.2.2.2.2.2.2.2.2.1) (s.2.2.2.2.2.2.2.2.2.2.2.2.1) (s.2.2.2.2.2.2.2.2.2.2.2.2.2.2.2.2)
  | 4 => T_Ch_hide_4 (s.2.1) (s.2.2.2.1) (s.2.2.2.2.1) (s.2.2.2.2.2.1) (s.2.2.2.2.2.2.1) (s.2.2.2.2.2.2.2.2.1) (s.2.2.2.2.2.2.2.2.2.1) (s.2.2.2.2.2.2.2.2.2.2.2.1) (s.2.2.2.2.2.2.2.2.2.2.2.2.1) (s.2.2.2.2.2.2.2.2.2.2.2.2.2.2.2.2)
  | 5 => T_Ch_hide_5 (s.2.1) (s.2.2.2.1) (s.2.2.2.2.1) (s.2.2.2.2.2.1) (s.2.2.2.2.2.2.1) (s.2.2.2.2.2.2.2.1) (s.2.2.2.2.2.2.2.2.1) (s.2.2.2.2.2.2.2.2.2.1) (s.2.2.2.2.2.2.2.2.2.2.2.2.2.1) (s.2.2.2.2.2.2.2.2.2.2.2.2.2.2.1) (s.2.2.2.2.2.2.2.2.2.2.2.2.2.2.2.1) (s.2.2.2.2.2.2.2.2.2.2.2.2.2.2.2.2)
  | _ => T_Ch_hide_6  (s.2.2.2.2.2.2.2.2.2.2.2.2.2.2.2.2)
noncomputable def L_Ch_hide_0 (v0R : Nat) (v1I : Int32) (v2I : Int32) (σ : AM) : Option (Unit × AM) := lp F_Ch_hide (0, v0R, v1I, v2I, 0, 0, 0, 0, 0, 0, 0, 0, 0, 0, 0, 0, σ)
noncomputable def L_Ch_hide_1 (v0R : Nat) (v1I : Int32) (v2I : Int32) (σ : AM) : Option (Unit × AM) := lp F_Ch_hide (1, v0R, v1I, v2I, 0, 0, 0, 0, 0, 0, 0, 0, 0, 0, 0, 0, σ)
noncomputable def L_Ch_hide_2 (v0R : Nat) (v2I : Int32) (v3J : Int64) (v5R : Nat) (v6I : Int32) (v7I : Int32) (v8I : Int32) (σ : AM) : Option (Unit × AM) := lp F_Ch_hide (2, v0R, 0, v2I, v3J, v5R, v6I, v7I, v8I, 0, 0, 0, 0, 0, 0, 0, σ)
noncomputable def L_Ch_hide_3 (v0R : Nat) (v2I : Int32) (v3J : Int64) (v5R : Nat) (v7I : Int32) (v8I : Int32) (v9I : Int32) (v10I : Int32) (v11I : Int32) (s0I : Int32) (σ : AM) : Option (Unit × AM) := lp F_Ch_hide (3, v0R, 0, v2I, v3J, v5R, 0, v7I, v8I, v9I, v10I, v11I, s0I, 0, 0, 0, σ)
noncomputable def L_Ch_hide_4 (v0R : Nat) (v2I : Int32) (v3J : Int64) (v5R : Nat) (v6I : Int32) (v8I : Int32) (v9I : Int32) (v11I : Int32) (s0I : Int32) (σ : AM) : Option (Unit × AM) := lp F_Ch_hide (4, v0R, 0, v2I, v3J, v5R, v6I, 0, v8I, v9I, 0, v11I, s0I, 0, 0, 0, σ)
noncomputable def L_Ch_hide_5 (v0R : Nat) (v2I : Int32) (v3J : Int64) (v5R : Nat) (v6I : Int32) (v7I : Int32) (v8I : Int32) (v9I : Int32) (s0R : Nat) (s1I : Int32) (s2I : Int32) (σ : AM) : Option (Unit × AM) := lp F_Ch_hide (5, v0R, 0, v2I, v3J, v5R, v6I, v7I, v8I, v9I, 0, 0, 0, s0R, s1I, s2I, σ)
noncomputable def L_Ch_hide_6  (σ : AM) : Option (Unit × AM) := lp F_Ch_hide (6, 0, 0, 0, 0, 0, 0, 0, 0, 0, 0, 0, 0, 0, 0, 0, σ)
set_option maxRecDepth 20000 in
theorem E_Ch_hide_0 (v0R : Nat) (v1I : Int32) (v2I : Int32) (σ : AM) : L_Ch_hide_0 v0R v1I v2I σ = (gd (okO σ v0R 6) <| gd (okO σ (aR σ v0R 2) 4) <| bnd (M_Bk_age (aR σ v0R 2) σ) fun r3 σ4 => if (aI σ v0R 15) = r3 then (gd (okO σ4 v0R 6) <| if (aI σ4 v0R 13) = v1I then (if (aI σ4 v0R 14) = v2I then ((some ((), σ4))) else (L_Ch_hide_1 v0R v1I v2I σ4)) else (L_Ch_hide_1 v0R v1I v2I σ4)) else (L_Ch_hide_1 v0R v1I v2I σ4)) := by
  unfold L_Ch_hide_0
  rw [lp_eq]
  show lpK (lp F_Ch_hide) (T_Ch_hide_0 v0R v1I v2I σ) = _
  unfold T_Ch_hide_0
  simp only [lpK_ite, lq_inl, lq_inr, lpK_bnd, lpK_gd, lq_let]
  try rfl
set_option maxRecDepth 20000 in
theorem E_Ch_hide_1 (v0R : Nat) (v1I : Int32) (v2I : Int32) (σ : AM) : L_Ch_hide_1 v0R v1I v2I σ = (gd (okO σ v0R 6) <| gd (okO σ (aR σ v0R 2) 4) <| bnd (M_Bk_age (aR σ v0R 2) σ) fun r3 σ4 => gd (okO σ4 v0R 6) <| letT (sI σ4 v0R 15 r3) fun σ6 => letT (sI σ6 v0R 13 v1I) fun σ8 => letT (sI σ8 v0R 14 v2I) fun σ10 => letT (sI σ10 v0R 16 (0 : Int32)) fun σ12 => letT (sI σ12 v0R 17 (0 : Int32)) fun σ14 => letT (sI σ14 v0R 18 (0 : Int32)) fun σ16 => gd (okO σ16 (aR σ16 v0R 1) 3) <| bnd (M_Ls_listOf (aR σ16 v0R 1) v1I σ16) fun r19 σ20 => gd (okO σ20 v0R 6) <| bnd (M_Ch_copyOfRest v0R σ20) fun r21 σ22 => gd (okO σ22 v0R 6) <| gd (okO σ22 (aR σ22 v0R 3) 5) <| bnd (M_Rs_size (aR σ22 v0R 3) σ22) fun r26 σ27 => L_Ch_hide_2 v0R v2I r19 r21 ((0 : Int32)) r26 ((0 : Int32)) σ27) := by
  unfold L_Ch_hide_1
  rw [lp_eq]
  show lpK (lp F_Ch_hide) (T_Ch_hide_1 v0R v1I v2I σ) = _
  unfold T_Ch_hide_1
  simp only [lpK_ite, lq_inl, lq_inr, lpK_bnd, lpK_gd, lq_let]
  try rfl
set_option maxRecDepth 20000 in
theorem E_Ch_hide_2 (v0R : Nat) (v2I : Int32) (v3J : Int64) (v5R : Nat) (v6I : Int32) (v7I : Int32) (v8I : Int32) (σ : AM) : L_Ch_hide_2 v0R v2I v3J v5R v6I v7I v8I σ = (if v8I < (60 : Int32) then (if (1 : Int32) < (v7I - v6I) then (gd (okO σ v0R 6) <| bnd (M_Ch_pick v0R v5R v6I v7I v2I σ) fun r1 σ2 => if r1 = ((-1) : Int32) then ((some ((), σ2))) else (gd (okO σ2 v0R 6) <| bnd (M_Ch_partRow v0R v5R v6I v7I r1 σ2) fun r4 σ5 => bnd (M_St_has v3J r1 σ5) fun r7 σ8 => if r7 = 0 then (L_Ch_hide_3 v0R v2I v3J v5R v7I v8I r1 r4 r7 v6I σ8) else (L_Ch_hide_3 v0R v2I v3J v5R v7I v8I r1 r4 r7 r4 σ8))) else (L_Ch_hide_6 σ)) else (L_Ch_hide_6 σ)) := by
  unfold L_Ch_hide_2
  rw [lp_eq]
  show lpK (lp F_Ch_hide) (T_Ch_hide_2 v0R v2I v3J v5R v6I v7I v8I σ) = _
  unfold T_Ch_hide_2
  simp only [lpK_ite, lq_inl, lq_inr, lpK_bnd, lpK_gd, lq_let]
  try rfl
set_option maxRecDepth 20000 in
theorem E_Ch_hide_3 (v0R : Nat) (v2I : Int32) (v3J : Int64) (v5R : Nat) (v7I : Int32) (v8I : Int32) (v9I : Int32) (v10I : Int32) (v11I : Int32) (s0I : Int32) (σ : AM) : L_Ch_hide_3 v0R v2I v3J v5R v7I v8I v9I v10I v11I s0I σ = (if v11I = 0 then (L_Ch_hide_4 v0R v2I v3J v5R s0I v8I v9I v11I v10I σ) else (L_Ch_hide_4 v0R v2I v3J v5R s0I v8I v9I v11I v7I σ)) := by
  unfold L_Ch_hide_3
  rw [lp_eq]
  show lpK (lp F_Ch_hide) (T_Ch_hide_3 v0R v2I v3J v5R v7I v8I v9I v10I v11I s0I σ) = _
  unfold T_Ch_hide_3
  simp only [lpK_ite, lq_inl, lq_inr, lpK_bnd, lpK_gd, lq_let]
  try rfl
set_option maxRecDepth 20000 in
theorem E_Ch_hide_4 (v0R : Nat) (v2I : Int32) (v3J : Int64) (v5R : Nat) (v6I : Int32) (v8I : Int32) (v9I : Int32) (v11I : Int32) (s0I : Int32) (σ : AM) : L_Ch_hide_4 v0R v2I v3J v5R v6I v8I v9I v11I s0I σ = (gd (okO σ v0R 6) <| gd (okO σ (aR σ v0R 12) 101) <| gd (inB (aI σ v0R 16) (aN σ (aR σ v0R 12))) <| letT (sI σ (aR σ v0R 12) (aI σ v0R 16).toNatClampNeg v9I) fun σ4 => letT (sI σ4 v0R 16 ((aI σ4 v0R 16) + (1 : Int32))) fun σ6 => if v11I = 0 then (L_Ch_hide_5 v0R v2I v3J v5R v6I s0I v8I v9I v0R (aI σ6 v0R 17) ((0 : Int32)) σ6) else (L_Ch_hide_5 v0R v2I v3J v5R v6I s0I v8I v9I v0R (aI σ6 v0R 17) ((1 : Int32)) σ6)) := by
  unfold L_Ch_hide_4
  rw [lp_eq]
  show lpK (lp F_Ch_hide) (T_Ch_hide_4 v0R v2I v3J v5R v6I v8I v9I v11I s0I σ) = _
  unfold T_Ch_hide_4
  simp only [lpK_ite, lq_inl, lq_inr, lpK_bnd, lpK_gd, lq_let]
  try rfl
set_option maxRecDepth 20000 in
theorem E_Ch_hide_5 (v0R : Nat) (v2I : Int32) (v3J : Int64) (v5R : Nat) (v6I : Int32) (v7I : Int32) (v8I : Int32) (v9I : Int32) (s0R : Nat) (s1I : Int32) (s2I : Int32) (σ : AM) : L_Ch_hide_5 v0R v2I v3J v5R v6I v7I v8I v9I s0R s1I s2I σ = (gd (okO σ s0R 6) <| letT (sI σ s0R 17 (s1I + s2I)) fun σ2 => gd (okO σ2 v0R 6) <| gd (okO σ2 (aR σ2 v0R 0) 1) <| bnd (M_Tw_costOf (aR σ2 v0R 0) v9I σ2) fun r6 σ7 => gd (okO σ7 v0R 6) <| letT (sI σ7 v0R 18 ((aI σ2 v0R 18) + r6)) fun σ9 => L_Ch_hide_2 v0R v2I v3J v5R v6I v7I (v8I + (1 : Int32)) σ9) := by
  unfold L_Ch_hide_5
  rw [lp_eq]
  show lpK (lp F_Ch_hide) (T_Ch_hide_5 v0R v2I v3J v5R v6I v7I v8I v9I s0R s1I s2I σ) = _
  unfold T_Ch_hide_5
  simp only [lpK_ite, lq_inl, lq_inr, lpK_bnd, lpK_gd, lq_let]
  try rfl
set_option maxRecDepth 20000 in
theorem E_Ch_hide_6  (σ : AM) : L_Ch_hide_6  σ = ((some ((), σ))) := by
  unfold L_Ch_hide_6
  rw [lp_eq]
  show lpK (lp F_Ch_hide) (T_Ch_hide_6  σ) = _
  unfold T_Ch_hide_6
  simp only [lpK_ite, lq_inl, lq_inr, lpK_bnd, lpK_gd, lq_let]
  try rfl
noncomputable def M_Ch_hide (v0R : Nat) (v1I : Int32) (v2I : Int32) (σ : AM) : Option (Unit × AM) := mw σ (L_Ch_hide_0 v0R v1I v2I σ)
def I_Ch_hide (G : GX) (p : Program) (l : Launch) (e : Env) (s : State) (m : MethodId) (args : Array Value) (below : List Frame) (meth : Method) (c : Code) (z0 u0 n : Nat) : Prop :=
  (∀ (v0R : Nat) (v1I : Int32) (v2I : Int32) (σ : AM), VX (QM eV G args s below z0 u0) G p l e s m args below meth c 5 z0 u0 12 (lpn F_Ch_hide n (0, v0R, v1I, v2I, 0, 0, 0, 0, 0, 0, 0, 0, 0, 0, 0, 0, σ)) 0 [(0, .ref v0R), (1, .int v1I), (2, .int v2I)] [] σ) ∧
  (∀ (v0R : Nat) (v1I : Int32) (v2I : Int32) (σ : AM), VX (QM eV G args s below z0 u0) G p l e s m args below meth c 5 z0 u0 12 (lpn F_Ch_hide n (1, v0R, v1I, v2I, 0, 0, 0, 0, 0, 0, 0, 0, 0, 0, 0, 0, σ)) 31 [(0, .ref v0R), (1, .int v1I), (2, .int v2I)] [] σ) ∧
  (∀ (v0R : Nat) (v2I : Int32) (v3J : Int64) (v5R : Nat) (v6I : Int32) (v7I : Int32) (v8I : Int32) (σ : AM), VX (QM eV G args s below z0 u0) G p l e s m args below meth c 5 z0 u0 12 (lpn F_Ch_hide n (2, v0R, 0, v2I, v3J, v5R, v6I, v7I, v8I, 0, 0, 0, 0, 0, 0, 0, σ)) 97 [(0, .ref v0R), (2, .int v2I), (3, .long v3J), (5, .ref v5R), (6, .int v6I), (7, .int v7I), (8, .int v8I)] [] σ) ∧
  (∀ (v0R : Nat) (v2I : Int32) (v3J : Int64) (v5R : Nat) (v7I : Int32) (v8I : Int32) (v9I : Int32) (v10I : Int32) (v11I : Int32) (s0I : Int32) (σ : AM), VX (QM eV G args s below z0 u0) G p l e s m args below meth c 5 z0 u0 12 (lpn F_Ch_hide n (3, v0R, 0, v2I, v3J, v5R, 0, v7I, v8I, v9I, v10I, v11I, s0I, 0, 0, 0, σ)) 167 [(0, .ref v0R), (2, .int v2I), (3, .long v3J), (5, .ref v5R), (7, .int v7I), (8, .int v8I), (9, .int v9I), (10, .int v10I), (11, .int v11I)] [.int s0I] σ) ∧
  (∀ (v0R : Nat) (v2I : Int32) (v3J : Int64) (v5R : Nat) (v6I : Int32) (v8I : Int32) (v9I : Int32) (v11I : Int32) (s0I : Int32) (σ : AM), VX (QM eV G args s below z0 u0) G p l e s m args below meth c 5 z0 u0 12 (lpn F_Ch_hide n (4, v0R, 0, v2I, v3J, v5R, v6I, 0, v8I, v9I, 0, v11I, s0I, 0, 0, 0, σ)) 181 [(0, .ref v0R), (2, .int v2I), (3, .long v3J), (5, .ref v5R), (6, .int v6I), (8, .int v8I), (9, .int v9I), (11, .int v11I)] [.int s0I] σ) ∧
  (∀ (v0R : Nat) (v2I : Int32) (v3J : Int64) (v5R : Nat) (v6I : Int32) (v7I : Int32) (v8I : Int32) (v9I : Int32) (s0R : Nat) (s1I : Int32) (s2I : Int32) (σ : AM), VX (QM eV G args s below z0 u0) G p l e s m args below meth c 5 z0 u0 12 (lpn F_Ch_hide n (5, v0R, 0, v2I, v3J, v5R, v6I, v7I, v8I, v9I, 0, 0, 0, s0R, s1I, s2I, σ)) 219 [(0, .ref v0R), (2, .int v2I), (3, .long v3J), (5, .ref v5R), (6, .int v6I), (7, .int v7I), (8, .int v8I), (9, .int v9I)] [.int s2I, .int s1I, .ref s0R] σ) ∧
  (∀ (σ : AM), VX (QM eV G args s below z0 u0) G p l e s m args below meth c 5 z0 u0 12 (lpn F_Ch_hide n (6, 0, 0, 0, 0, 0, 0, 0, 0, 0, 0, 0, 0, 0, 0, 0, σ)) 247 [] [] σ)
set_option maxRecDepth 20000 in
theorem s_Ch_hide_0 {G : GX} {p : Program} {l : Launch} {e : Env} {s : State} {m : MethodId} {args : Array Value} {below : List Frame} {meth : Method} {c : Code} {z0 u0 n : Nat} (C : Cx G p s m args meth c prog_3_method_10_code 12 "BellPlate$Chooser" ((none))) (IH : I_Ch_hide G p l e s m args below meth c z0 u0 n) (v0R : Nat) (v1I : Int32) (v2I : Int32) (σ : AM) : VX (QM eV G args s below z0 u0) G p l e s m args below meth c 5 z0 u0 12 (lpK (lpn F_Ch_hide n) (T_Ch_hide_0 v0R v1I v2I σ)) 0 [(0, .ref v0R), (1, .int v1I), (2, .int v2I)] [] σ := by
  unfold T_Ch_hide_0
  refine x_aload_n C d_Ch_hide_0 0 rfl ?_
  refine x_gd (fun h1 => ?_)
  refine x_getI (k := 15) C (okO_iff.mp h1) rfl j5_ok (by decide) rfl w394 d_Ch_hide_1 ?_
  refine x_aload_n C d_Ch_hide_4 0 rfl ?_
  refine x_gd (fun h2 => ?_)
  refine x_getR (k := 2) (kv := 4) C (okO_iff.mp h1) rfl j5_ok (by decide) rfl (okO_iff.mp h2) (by decide) w381 d_Ch_hide_5 ?_
  refine x_callVI (As := []) C (c_Bk_age G l (aR σ v0R 2)  σ) (okO_iff.mp h2) rfl w1039 w1040 w1263 w1041 w124 k_Bk_age rfl (by decide) (by decide) rfl (Nat.le_of_ble_eq_true rfl) d_Ch_hide_8 (fun r3 σ4 => ?_)
  refine x_icmp_ne (tgt := 31) C d_Ch_hide_11 (by decide) (fun _ => ?_) (fun _ => ?_)
  · refine x_aload_n C d_Ch_hide_14 0 rfl ?_
    refine x_gd (fun h5 => ?_)
    refine x_getI (k := 13) C (okO_iff.mp h5) rfl j5_ok (by decide) rfl w392 d_Ch_hide_15 ?_
    refine x_iload_n C d_Ch_hide_18 1 rfl ?_
    refine x_icmp_ne (tgt := 31) C d_Ch_hide_19 (by decide) (fun _ => ?_) (fun _ => ?_)
    · refine x_aload_n C d_Ch_hide_22 0 rfl ?_
      refine x_getI (k := 14) C (okO_iff.mp h5) rfl j5_ok (by decide) rfl w393 d_Ch_hide_23 ?_
      refine x_iload_n C d_Ch_hide_26 2 rfl ?_
      refine x_icmp_ne (tgt := 31) C d_Ch_hide_27 (by decide) (fun _ => ?_) (fun _ => ?_)
      · exact x_vret C d_Ch_hide_30
      · exact IH.2.1 v0R v1I v2I (σ4)
    · exact IH.2.1 v0R v1I v2I (σ4)
  · exact IH.2.1 v0R v1I v2I (σ4)
set_option maxRecDepth 20000 in
theorem s_Ch_hide_1 {G : GX} {p : Program} {l : Launch} {e : Env} {s : State} {m : MethodId} {args : Array Value} {below : List Frame} {meth : Method} {c : Code} {z0 u0 n : Nat} (C : Cx G p s m args meth c prog_3_method_10_code 12 "BellPlate$Chooser" ((none))) (IH : I_Ch_hide G p l e s m args below meth c z0 u0 n) (v0R : Nat) (v1I : Int32) (v2I : Int32) (σ : AM) : VX (QM eV G args s below z0 u0) G p l e s m args below meth c 5 z0 u0 12 (lpK (lpn F_Ch_hide n) (T_Ch_hide_1 v0R v1I v2I σ)) 31 [(0, .ref v0R), (1, .int v1I), (2, .int v2I)] [] σ := by
  unfold T_Ch_hide_1
  refine x_aload_n C d_Ch_hide_31 0 rfl ?_
  refine x_aload_n C d_Ch_hide_32 0 rfl ?_
  refine x_gd (fun h1 => ?_)
  refine x_gd (fun h2 => ?_)
  refine x_getR (k := 2) (kv := 4) C (okO_iff.mp h1) rfl j5_ok (by decide) rfl (okO_iff.mp h2) (by decide) w381 d_Ch_hide_33 ?_
  refine x_callVI (As := []) C (c_Bk_age G l (aR σ v0R 2)  σ) (okO_iff.mp h2) rfl w1039 w1040 w1263 w1041 w124 k_Bk_age rfl (by decide) (by decide) rfl (Nat.le_of_ble_eq_true rfl) d_Ch_hide_36 (fun r3 σ4 => ?_)
  refine x_gd (fun h5 => ?_)
  refine x_putI (k := 15) C (okO_iff.mp h5) rfl j5_ok y5_ok n5_ok (by decide) rfl rfl rfl rfl w394 d_Ch_hide_39 ?_
  refine x_letS (fun σ6 e7 => ?_)
  refine x_aload_n C d_Ch_hide_42 0 rfl ?_
  refine x_iload_n C d_Ch_hide_43 1 rfl ?_
  refine x_putI (k := 13) C (by first | exact (okO_iff.mp h5) | (rw [e7]; exact (okO_iff.mp h5))) rfl j5_ok y5_ok n5_ok (by decide) rfl rfl rfl rfl w392 d_Ch_hide_44 ?_
  refine x_letS (fun σ8 e9 => ?_)
  refine x_aload_n C d_Ch_hide_47 0 rfl ?_
  refine x_iload_n C d_Ch_hide_48 2 rfl ?_
  refine x_putI (k := 14) C (by first | exact (okO_iff.mp h5) | (rw [e9, e7]; exact (okO_iff.mp h5))) rfl j5_ok y5_ok n5_ok (by decide) rfl rfl rfl rfl w393 d_Ch_hide_49 ?_
  refine x_letS (fun σ10 e11 => ?_)
  refine x_aload_n C d_Ch_hide_52 0 rfl ?_
  refine x_iconst (v := (0 : Int32)) C d_Ch_hide_53 (by decide) ?_
  refine x_putI (k := 16) C (by first | exact (okO_iff.mp h5) | (rw [e11, e9, e7]; exact (okO_iff.mp h5))) rfl j5_ok y5_ok n5_ok (by decide) rfl rfl rfl rfl w395 d_Ch_hide_54 ?_
  refine x_letS (fun σ12 e13 => ?_)
  refine x_aload_n C d_Ch_hide_57 0 rfl ?_
  refine x_iconst (v := (0 : Int32)) C d_Ch_hide_58 (by decide) ?_
  refine x_putI (k := 17) C (by first | exact (okO_iff.mp h5) | (rw [e13, e11, e9, e7]; exact (okO_iff.mp h5))) rfl j5_ok y5_ok n5_ok (by decide) rfl rfl rfl rfl w396 d_Ch_hide_59 ?_
  refine x_letS (fun σ14 e15 => ?_)
  refine x_aload_n C d_Ch_hide_62 0 rfl ?_
  refine x_iconst (v := (0 : Int32)) C d_Ch_hide_63 (by decide) ?_
  refine x_putI (k := 18) C (by first | exact (okO_iff.mp h5) | (rw [e15, e13, e11, e9, e7]; exact (okO_iff.mp h5))) rfl j5_ok y5_ok n5_ok (by decide) rfl rfl rfl rfl w397 d_Ch_hide_64 ?_
  refine x_letS (fun σ16 e17 => ?_)
  refine x_aload_n C d_Ch_hide_67 0 rfl ?_
  refine x_gd (fun h18 => ?_)
  refine x_getR (k := 1) (kv := 3) C (by first | exact (okO_iff.mp h5) | (rw [e17, e15, e13, e11, e9, e7]; exact (okO_iff.mp h5))) rfl j5_ok (by decide) rfl (okO_iff.mp h18) (by decide) w380 d_Ch_hide_68 ?_
  refine x_iload_n C d_Ch_hide_71 1 rfl ?_
  refine x_callVJ (As := [.int v1I]) C (c_Ls_listOf G l (aR σ16 v0R 1) v1I σ16) (okO_iff.mp h18) rfl w991 w992 w1264 w993 w123 k_Ls_listOf rfl (by decide) (by decide) rfl (Nat.le_of_ble_eq_true rfl) d_Ch_hide_72 (fun r19 σ20 => ?_)
  refine x_lstore_n (lv' := [(3, .long r19), (0, .ref v0R), (1, .int v1I), (2, .int v2I)]) C d_Ch_hide_75 (by decide) rfl rfl ?_
  refine x_aload_n C d_Ch_hide_76 1 rfl ?_
  refine x_gd (fun h23 => ?_)
  refine x_callVR (As := []) C (c_Ch_copyOfRest G l v0R  σ20) (okO_iff.mp h23) rfl w1267 w35 w1265 w1268 w126 k_Ch_copyOfRest rfl (by decide) (by decide) rfl (Nat.le_of_ble_eq_true rfl) d_Ch_hide_77 (fun r21 σ22 => ?_)
  refine x_astore (lv' := [(5, .ref r21), (3, .long r19), (0, .ref v0R), (1, .int v1I), (2, .int v2I)]) C d_Ch_hide_80 (by decide) rfl ?_
  refine x_iconst (v := (0 : Int32)) C d_Ch_hide_82 (by decide) ?_
  refine x_istore (lv' := [(6, .int (0 : Int32)), (5, .ref r21), (3, .long r19), (0, .ref v0R), (1, .int v1I), (2, .int v2I)]) C d_Ch_hide_83 (by decide) rfl ?_
  refine x_aload_n C d_Ch_hide_85 3 rfl ?_
  refine x_gd (fun h24 => ?_)
  refine x_gd (fun h25 => ?_)
  refine x_getR (k := 3) (kv := 5) C (okO_iff.mp h24) rfl j5_ok (by decide) rfl (okO_iff.mp h25) (by decide) w382 d_Ch_hide_86 ?_
  refine x_callVI (As := []) C (c_Rs_size G l (aR σ22 v0R 3)  σ22) (okO_iff.mp h25) rfl w1084 w1085 w1274 w1086 w125 k_Rs_size rfl (by decide) (by decide) rfl (Nat.le_of_ble_eq_true rfl) d_Ch_hide_89 (fun r26 σ27 => ?_)
  refine x_istore (lv' := [(7, .int r26), (6, .int (0 : Int32)), (5, .ref r21), (3, .long r19), (0, .ref v0R), (1, .int v1I), (2, .int v2I)]) C d_Ch_hide_92 (by decide) rfl ?_
  refine x_iconst (v := (0 : Int32)) C d_Ch_hide_94 (by decide) ?_
  refine x_istore (lv' := [(8, .int (0 : Int32)), (7, .int r26), (6, .int (0 : Int32)), (5, .ref r21), (3, .long r19), (0, .ref v0R), (1, .int v1I), (2, .int v2I)]) C d_Ch_hide_95 (by decide) rfl ?_
  refine x_lv [5, 7, 4, 3, 2, 1, 0] rfl ?_
  exact IH.2.2.1 v0R v2I r19 r21 ((0 : Int32)) r26 ((0 : Int32)) (σ27)
set_option maxRecDepth 20000 in
theorem s_Ch_hide_2 {G : GX} {p : Program} {l : Launch} {e : Env} {s : State} {m : MethodId} {args : Array Value} {below : List Frame} {meth : Method} {c : Code} {z0 u0 n : Nat} (C : Cx G p s m args meth c prog_3_method_10_code 12 "BellPlate$Chooser" ((none))) (IH : I_Ch_hide G p l e s m args below meth c z0 u0 n) (v0R : Nat) (v2I : Int32) (v3J : Int64) (v5R : Nat) (v6I : Int32) (v7I : Int32) (v8I : Int32) (σ : AM) : VX (QM eV G args s below z0 u0) G p l e s m args below meth c 5 z0 u0 12 (lpK (lpn F_Ch_hide n) (T_Ch_hide_2 v0R v2I v3J v5R v6I v7I v8I σ)) 97 [(0, .ref v0R), (2, .int v2I), (3, .long v3J), (5, .ref v5R), (6, .int v6I), (7, .int v7I), (8, .int v8I)] [] σ := by
  unfold T_Ch_hide_2
  refine x_iload C d_Ch_hide_97 6 rfl ?_
  refine x_bipush (v := (60 : Int32)) C d_Ch_hide_99 (by decide) ?_
  refine x_icmp_ge (tgt := 247) C d_Ch_hide_101 (by decide) (fun _ => ?_) (fun _ => ?_)
  · refine x_iload C d_Ch_hide_104 5 rfl ?_
    refine x_iload C d_Ch_hide_106 4 rfl ?_
    refine x_isub C d_Ch_hide_108 ?_
    refine x_iconst (v := (1 : Int32)) C d_Ch_hide_109 (by decide) ?_
    refine x_icmp_le (tgt := 247) C d_Ch_hide_110 (by decide) (fun _ => ?_) (fun _ => ?_)
    · refine x_aload_n C d_Ch_hide_113 0 rfl ?_
      refine x_aload C d_Ch_hide_114 3 rfl ?_
      refine x_iload C d_Ch_hide_116 4 rfl ?_
      refine x_iload C d_Ch_hide_118 5 rfl ?_
      refine x_iload_n C d_Ch_hide_120 1 rfl ?_
      refine x_gd (fun h3 => ?_)
      refine x_callVI (As := [.ref v5R, .int v6I, .int v7I, .int v2I]) C (c_Ch_pick G l v0R v5R v6I v7I v2I σ) (okO_iff.mp h3) rfl w1156 w1157 w1276 w1158 w126 k_Ch_pick rfl (by decide) (by decide) rfl (Nat.le_of_ble_eq_true rfl) d_Ch_hide_121 (fun r1 σ2 => ?_)
      refine x_istore (lv' := [(9, .int r1), (0, .ref v0R), (2, .int v2I), (3, .long v3J), (5, .ref v5R), (6, .int v6I), (7, .int v7I), (8, .int v8I)]) C d_Ch_hide_124 (by decide) rfl ?_
      refine x_iload C d_Ch_hide_126 0 rfl ?_
      refine x_iconst (v := ((-1) : Int32)) C d_Ch_hide_128 (by decide) ?_
      refine x_icmp_ne (tgt := 133) C d_Ch_hide_129 (by decide) (fun _ => ?_) (fun _ => ?_)
      · exact x_vret C d_Ch_hide_132
      · refine x_aload_n C d_Ch_hide_133 1 rfl ?_
        refine x_aload C d_Ch_hide_134 4 rfl ?_
        refine x_iload C d_Ch_hide_136 5 rfl ?_
        refine x_iload C d_Ch_hide_138 6 rfl ?_
        refine x_iload C d_Ch_hide_140 0 rfl ?_
        refine x_gd (fun h6 => ?_)
        refine x_callVI (As := [.ref v5R, .int v6I, .int v7I, .int r1]) C (c_Ch_partRow G l v0R v5R v6I v7I r1 σ2) (okO_iff.mp h6) rfl w1279 w36 w1277 w1280 w126 k_Ch_partRow rfl (by decide) (by decide) rfl (Nat.le_of_ble_eq_true rfl) d_Ch_hide_142 (fun r4 σ5 => ?_)
        refine x_istore (lv' := [(10, .int r4), (9, .int r1), (0, .ref v0R), (2, .int v2I), (3, .long v3J), (5, .ref v5R), (6, .int v6I), (7, .int v7I), (8, .int v8I)]) C d_Ch_hide_145 (by decide) rfl ?_
        refine x_lload_n C d_Ch_hide_147 4 rfl ?_
        refine x_iload C d_Ch_hide_148 1 rfl ?_
        refine x_callSI (As := [.long v3J, .int r1]) C (c_St_has G l v3J r1 σ5) w1101 w1180 w1102 w141 k_St_has rfl (by decide) (by decide) rfl (Nat.le_of_ble_eq_true rfl) d_Ch_hide_150 (fun r7 σ8 => ?_)
        refine x_istore (lv' := [(11, .int r7), (10, .int r4), (9, .int r1), (0, .ref v0R), (2, .int v2I), (3, .long v3J), (5, .ref v5R), (6, .int v6I), (7, .int v7I), (8, .int v8I)]) C d_Ch_hide_153 (by decide) rfl ?_
        refine x_iload C d_Ch_hide_155 0 rfl ?_
        refine x_if_eq (tgt := 165) C d_Ch_hide_157 (by decide) (fun _ => ?_) (fun _ => ?_)
        · refine x_iload C d_Ch_hide_165 7 rfl ?_
          refine x_lv [3, 4, 5, 6, 8, 9, 2, 1, 0] rfl ?_
          exact IH.2.2.2.1 v0R v2I v3J v5R v7I v8I r1 r4 r7 v6I (σ8)
        · refine x_iload C d_Ch_hide_160 1 rfl ?_
          refine x_goto (tgt := 167) C d_Ch_hide_162 (by decide) ?_
          refine x_lv [3, 4, 5, 6, 8, 9, 2, 1, 0] rfl ?_
          exact IH.2.2.2.1 v0R v2I v3J v5R v7I v8I r1 r4 r7 r4 (σ8)
    · refine x_lv [] rfl ?_
      exact IH.2.2.2.2.2.2  (σ)
  · refine x_lv [] rfl ?_
    exact IH.2.2.2.2.2.2  (σ)
set_option maxRecDepth 20000 in
theorem s_Ch_hide_3 {G : GX} {p : Program} {l : Launch} {e : Env} {s : State} {m : MethodId} {args : Array Value} {below : List Frame} {meth : Method} {c : Code} {z0 u0 n : Nat} (C : Cx G p s m args meth c prog_3_method_10_code 12 "BellPlate$Chooser" ((none))) (IH : I_Ch_hide G p l e s m args below meth c z0 u0 n) (v0R : Nat) (v2I : Int32) (v3J : Int64) (v5R : Nat) (v7I : Int32) (v8I : Int32) (v9I : Int32) (v10I : Int32) (v11I : Int32) (s0I : Int32) (σ : AM) : VX (QM eV G args s below z0 u0) G p l e s m args below meth c 5 z0 u0 12 (lpK (lpn F_Ch_hide n) (T_Ch_hide_3 v0R v2I v3J v5R v7I v8I v9I v10I v11I s0I σ)) 167 [(0, .ref v0R), (2, .int v2I), (3, .long v3J), (5, .ref v5R), (7, .int v7I), (8, .int v8I), (9, .int v9I), (10, .int v10I), (11, .int v11I)] [.int s0I] σ := by
  unfold T_Ch_hide_3
  refine x_istore (lv' := [(6, .int s0I), (0, .ref v0R), (2, .int v2I), (3, .long v3J), (5, .ref v5R), (7, .int v7I), (8, .int v8I), (9, .int v9I), (10, .int v10I), (11, .int v11I)]) C d_Ch_hide_167 (by decide) rfl ?_
  refine x_iload C d_Ch_hide_169 9 rfl ?_
  refine x_if_eq (tgt := 179) C d_Ch_hide_171 (by decide) (fun _ => ?_) (fun _ => ?_)
  · refine x_iload C d_Ch_hide_179 8 rfl ?_
    refine x_lv [1, 2, 3, 4, 0, 6, 7, 9] rfl ?_
    exact IH.2.2.2.2.1 v0R v2I v3J v5R s0I v8I v9I v11I v10I (σ)
  · refine x_iload C d_Ch_hide_174 5 rfl ?_
    refine x_goto (tgt := 181) C d_Ch_hide_176 (by decide) ?_
    refine x_lv [1, 2, 3, 4, 0, 6, 7, 9] rfl ?_
    exact IH.2.2.2.2.1 v0R v2I v3J v5R s0I v8I v9I v11I v7I (σ)
set_option maxRecDepth 20000 in
theorem s_Ch_hide_4 {G : GX} {p : Program} {l : Launch} {e : Env} {s : State} {m : MethodId} {args : Array Value} {below : List Frame} {meth : Method} {c : Code} {z0 u0 n : Nat} (C : Cx G p s m args meth c prog_3_method_10_code 12 "BellPlate$Chooser" ((none))) (IH : I_Ch_hide G p l e s m args below meth c z0 u0 n) (v0R : Nat) (v2I : Int32) (v3J : Int64) (v5R : Nat) (v6I : Int32) (v8I : Int32) (v9I : Int32) (v11I : Int32) (s0I : Int32) (σ : AM) : VX (QM eV G args s below z0 u0) G p l e s m args below meth c 5 z0 u0 12 (lpK (lpn F_Ch_hide n) (T_Ch_hide_4 v0R v2I v3J v5R v6I v8I v9I v11I s0I σ)) 181 [(0, .ref v0R), (2, .int v2I), (3, .long v3J), (5, .ref v5R), (6, .int v6I), (8, .int v8I), (9, .int v9I), (11, .int v11I)] [.int s0I] σ := by
  unfold T_Ch_hide_4
  refine x_istore (lv' := [(7, .int s0I), (0, .ref v0R), (2, .int v2I), (3, .long v3J), (5, .ref v5R), (6, .int v6I), (8, .int v8I), (9, .int v9I), (11, .int v11I)]) C d_Ch_hide_181 (by decide) rfl ?_
  refine x_aload_n C d_Ch_hide_183 1 rfl ?_
  refine x_gd (fun h1 => ?_)
  refine x_gd (fun h2 => ?_)
  refine x_getR (k := 12) (kv := 101) C (okO_iff.mp h1) rfl j5_ok (by decide) rfl (okO_iff.mp h2) (by decide) w391 d_Ch_hide_184 ?_
  refine x_aload_n C d_Ch_hide_187 1 rfl ?_
  refine x_getI (k := 16) C (okO_iff.mp h1) rfl j5_ok (by decide) rfl w395 d_Ch_hide_188 ?_
  refine x_iload C d_Ch_hide_191 7 rfl ?_
  refine x_gd (fun h3 => ?_)
  refine x_astI C (okO_iff.mp h2) (inB_iff.mp h3) d_Ch_hide_193 ?_
  refine x_letS (fun σ4 e5 => ?_)
  refine x_aload_n C d_Ch_hide_194 1 rfl ?_
  refine x_dup C d_Ch_hide_195 rfl ?_
  refine x_getI (k := 16) C (by first | exact (okO_iff.mp h1) | (rw [e5]; exact (okO_iff.mp h1))) rfl j5_ok (by decide) rfl w395 d_Ch_hide_196 ?_
  refine x_iconst (v := (1 : Int32)) C d_Ch_hide_199 (by decide) ?_
  refine x_iadd C d_Ch_hide_200 ?_
  refine x_putI (k := 16) C (by first | exact (okO_iff.mp h1) | (rw [e5]; exact (okO_iff.mp h1))) rfl j5_ok y5_ok n5_ok (by decide) rfl rfl rfl rfl w395 d_Ch_hide_201 ?_
  refine x_letS (fun σ6 e7 => ?_)
  refine x_aload_n C d_Ch_hide_204 1 rfl ?_
  refine x_dup C d_Ch_hide_205 rfl ?_
  refine x_getI (k := 17) C (by first | exact (okO_iff.mp h1) | (rw [e7, e5]; exact (okO_iff.mp h1))) rfl j5_ok (by decide) rfl w396 d_Ch_hide_206 ?_
  refine x_iload C d_Ch_hide_209 8 rfl ?_
  refine x_if_eq (tgt := 218) C d_Ch_hide_211 (by decide) (fun _ => ?_) (fun _ => ?_)
  · refine x_iconst (v := (0 : Int32)) C d_Ch_hide_218 (by decide) ?_
    refine x_lv [1, 2, 3, 4, 5, 0, 6, 7] rfl ?_
    exact IH.2.2.2.2.2.1 v0R v2I v3J v5R v6I s0I v8I v9I v0R (aI σ6 v0R 17) ((0 : Int32)) (σ6)
  · refine x_iconst (v := (1 : Int32)) C d_Ch_hide_214 (by decide) ?_
    refine x_goto (tgt := 219) C d_Ch_hide_215 (by decide) ?_
    refine x_lv [1, 2, 3, 4, 5, 0, 6, 7] rfl ?_
    exact IH.2.2.2.2.2.1 v0R v2I v3J v5R v6I s0I v8I v9I v0R (aI σ6 v0R 17) ((1 : Int32)) (σ6)
set_option maxRecDepth 20000 in
theorem s_Ch_hide_5 {G : GX} {p : Program} {l : Launch} {e : Env} {s : State} {m : MethodId} {args : Array Value} {below : List Frame} {meth : Method} {c : Code} {z0 u0 n : Nat} (C : Cx G p s m args meth c prog_3_method_10_code 12 "BellPlate$Chooser" ((none))) (IH : I_Ch_hide G p l e s m args below meth c z0 u0 n) (v0R : Nat) (v2I : Int32) (v3J : Int64) (v5R : Nat) (v6I : Int32) (v7I : Int32) (v8I : Int32) (v9I : Int32) (s0R : Nat) (s1I : Int32) (s2I : Int32) (σ : AM) : VX (QM eV G args s below z0 u0) G p l e s m args below meth c 5 z0 u0 12 (lpK (lpn F_Ch_hide n) (T_Ch_hide_5 v0R v2I v3J v5R v6I v7I v8I v9I s0R s1I s2I σ)) 219 [(0, .ref v0R), (2, .int v2I), (3, .long v3J), (5, .ref v5R), (6, .int v6I), (7, .int v7I), (8, .int v8I), (9, .int v9I)] [.int s2I, .int s1I, .ref s0R] σ := by
  unfold T_Ch_hide_5
  refine x_iadd C d_Ch_hide_219 ?_
  refine x_gd (fun h1 => ?_)
  refine x_putI (k := 17) C (okO_iff.mp h1) rfl j5_ok y5_ok n5_ok (by decide) rfl rfl rfl rfl w396 d_Ch_hide_220 ?_
  refine x_letS (fun σ2 e3 => ?_)
  refine x_aload_n C d_Ch_hide_223 0 rfl ?_
  refine x_dup C d_Ch_hide_224 rfl ?_
  refine x_gd (fun h4 => ?_)
  refine x_getI (k := 18) C (okO_iff.mp h4) rfl j5_ok (by decide) rfl w397 d_Ch_hide_225 ?_
  refine x_aload_n C d_Ch_hide_228 0 rfl ?_
  refine x_gd (fun h5 => ?_)
  refine x_getR (k := 0) (kv := 1) C (okO_iff.mp h4) rfl j5_ok (by decide) rfl (okO_iff.mp h5) (by decide) w379 d_Ch_hide_229 ?_
  refine x_iload C d_Ch_hide_232 7 rfl ?_
  refine x_callVI (As := [.int v9I]) C (c_Tw_costOf G l (aR σ2 v0R 0) v9I σ2) (okO_iff.mp h5) rfl w1009 w1010 w1188 w1011 w122 k_Tw_costOf rfl (by decide) (by decide) rfl (Nat.le_of_ble_eq_true rfl) d_Ch_hide_234 (fun r6 σ7 => ?_)
  refine x_iadd C d_Ch_hide_237 ?_
  refine x_gd (fun h8 => ?_)
  refine x_putI (k := 18) C (okO_iff.mp h8) rfl j5_ok y5_ok n5_ok (by decide) rfl rfl rfl rfl w397 d_Ch_hide_238 ?_
  refine x_letS (fun σ9 e10 => ?_)
  refine x_iinc (v := v8I + (1 : Int32)) (lv' := [(8, .int (v8I + (1 : Int32))), (0, .ref v0R), (2, .int v2I), (3, .long v3J), (5, .ref v5R), (6, .int v6I), (7, .int v7I), (9, .int v9I)]) C d_Ch_hide_241 6 rfl rfl (by decide) rfl ?_
  refine x_goto (tgt := 97) C d_Ch_hide_244 (by decide) ?_
  refine x_lv [1, 2, 3, 4, 5, 6, 0] rfl ?_
  exact IH.2.2.1 v0R v2I v3J v5R v6I v7I (v8I + (1 : Int32)) (σ9)
set_option maxRecDepth 20000 in
theorem s_Ch_hide_6 {G : GX} {p : Program} {l : Launch} {e : Env} {s : State} {m : MethodId} {args : Array Value} {below : List Frame} {meth : Method} {c : Code} {z0 u0 n : Nat} (C : Cx G p s m args meth c prog_3_method_10_code 12 "BellPlate$Chooser" ((none))) (IH : I_Ch_hide G p l e s m args below meth c z0 u0 n)  (σ : AM) : VX (QM eV G args s below z0 u0) G p l e s m args below meth c 5 z0 u0 12 (lpK (lpn F_Ch_hide n) (T_Ch_hide_6  σ)) 247 [] [] σ := by
  unfold T_Ch_hide_6
  exact x_vret C d_Ch_hide_247
theorem i_Ch_hide {G : GX} {p : Program} {l : Launch} {e : Env} {s : State} {m : MethodId} {args : Array Value} {below : List Frame} {meth : Method} {c : Code} {z0 u0 : Nat} (C : Cx G p s m args meth c prog_3_method_10_code 12 "BellPlate$Chooser" ((none))) (n : Nat) : I_Ch_hide G p l e s m args below meth c z0 u0 n := by
  induction n with
  | zero => exact ⟨fun _ _ _ _ => x_none, fun _ _ _ _ => x_none, fun _ _ _ _ _ _ _ _ => x_none, fun _ _ _ _ _ _ _ _ _ _ _ => x_none, fun _ _ _ _ _ _ _ _ _ _ => x_none, fun _ _ _ _ _ _ _ _ _ _ _ _ => x_none, fun _ => x_none⟩
  | succ n IH => exact ⟨fun v0R v1I v2I σ => s_Ch_hide_0 C IH v0R v1I v2I σ, fun v0R v1I v2I σ => s_Ch_hide_1 C IH v0R v1I v2I σ, fun v0R v2I v3J v5R v6I v7I v8I σ => s_Ch_hide_2 C IH v0R v2I v3J v5R v6I v7I v8I σ, fun v0R v2I v3J v5R v7I v8I v9I v10I v11I s0I σ => s_Ch_hide_3 C IH v0R v2I v3J v5R v7I v8I v9I v10I v11I s0I σ, fun v0R v2I v3J v5R v6I v8I v9I v11I s0I σ => s_Ch_hide_4 C IH v0R v2I v3J v5R v6I v8I v9I v11I s0I σ, fun v0R v2I v3J v5R v6I v7I v8I v9I s0R s1I s2I σ => s_Ch_hide_5 C IH v0R v2I v3J v5R v6I v7I v8I v9I s0R s1I s2I σ, fun σ => s_Ch_hide_6 C IH σ⟩
theorem c_Ch_hide (G : GX) (l : Launch) (v0R : Nat) (v1I : Int32) (v2I : Int32) (σ : AM) : CT eV G l 5 y_Ch_hide prog_3_method_10_code 12 (none) [.ref v0R, .int v1I, .int v2I] σ (M_Ch_hide v0R v1I v2I σ) := by
  refine ct_of (by decide +kernel) (Nat.le_of_ble_eq_true rfl) (fun p e s m args below meth c C hin => ?_)
  refine x_lve (lv' := [(0, .ref v0R), (1, .int v1I), (2, .int v2I)]) rfl ?_
  intro r σ' h
  obtain ⟨n, hn⟩ := (lp_iff _ _ _).mp h
  exact (i_Ch_hide C n).1 v0R v1I v2I σ r σ' hn
/-! BellPlate$Chooser.made()I -/
abbrev y_Ch_made : MethodName := ⟨"BellPlate$Chooser", "made", "()I"⟩
theorem k_Ch_made : y_Ch_made.cls ≠ "java/lang/invoke/MethodHandle" ∧ y_Ch_made.cls ≠ "java/lang/invoke/VarHandle" ∧ (parseMethodDescriptor y_Ch_made.desc).map (fun d => d.parameters.length) = some 0 := by decide +kernel
theorem d_Ch_made_0 : decode prog_3_method_11_code 0 = .ok (.aload_n 0, 1) := by decide +kernel
theorem d_Ch_made_1 : decode prog_3_method_11_code 1 = .ok (.getfield 154, 3) := by decide +kernel
theorem d_Ch_made_4 : decode prog_3_method_11_code 4 = .ok (.ireturn, 1) := by decide +kernel
abbrev S_Ch_made : Type := Nat × Nat × AM
noncomputable def T_Ch_made_0 (v0R : Nat) (σ : AM) : S_Ch_made ⊕ Option (Int32 × AM) :=
  gdT (okO σ v0R 6) <| .inr (some ((aI σ v0R 16), σ))
noncomputable def F_Ch_made : S_Ch_made → S_Ch_made ⊕ Option (Int32 × AM) := fun s => match s.1 with
  | _ => T_Ch_made_0 (s.2.1) (s.2.2)
noncomputable def L_Ch_made_0 (v0R : Nat) (σ : AM) : Option (Int32 × AM) := lp F_Ch_made (0, v0R, σ)
set_option maxRecDepth 20000 in
theorem E_Ch_made_0 (v0R : Nat) (σ : AM) : L_Ch_made_0 v0R σ = (gd (okO σ v0R 6) <| (some ((aI σ v0R 16), σ))) := by
  unfold L_Ch_made_0
  rw [lp_eq]
  show lpK (lp F_Ch_made) (T_Ch_made_0 v0R σ) = _
  unfold T_Ch_made_0
  simp only [lpK_ite, lq_inl, lq_inr, lpK_bnd, lpK_gd, lq_let]
  try rfl
noncomputable def M_Ch_made (v0R : Nat) (σ : AM) : Option (Int32 × AM) := mw σ (L_Ch_made_0 v0R σ)
def I_Ch_made (G : GX) (p : Program) (l : Launch) (e : Env) (s : State) (m : MethodId) (args : Array Value) (below : List Frame) (meth : Method) (c : Code) (z0 u0 n : Nat) : Prop :=
  (∀ (v0R : Nat) (σ : AM), VX (QM eI G args s below z0 u0) G p l e s m args below meth c 0 z0 u0 1 (lpn F_Ch_made n (0, v0R, σ)) 0 [(0, .ref v0R)] [] σ)
set_option maxRecDepth 20000 in
theorem s_Ch_made_0 {G : GX} {p : Program} {l : Launch} {e : Env} {s : State} {m : MethodId} {args : Array Value} {below : List Frame} {meth : Method} {c : Code} {z0 u0 n : Nat} (C : Cx G p s m args meth c prog_3_method_11_code 1 "BellPlate$Chooser" ((some FieldType.int))) (IH : I_Ch_made G p l e s m args below meth c z0 u0 n) (v0R : Nat) (σ : AM) : VX (QM eI G args s below z0 u0) G p l e s m args below meth c 0 z0 u0 1 (lpK (lpn F_Ch_made n) (T_Ch_made_0 v0R σ)) 0 [(0, .ref v0R)] [] σ := by
  unfold T_Ch_made_0
  refine x_aload_n C d_Ch_made_0 0 rfl ?_
  refine x_gd (fun h1 => ?_)
  refine x_getI (k := 16) C (okO_iff.mp h1) rfl j5_ok (by decide) rfl w395 d_Ch_made_1 ?_
  exact x_iret C d_Ch_made_4
theorem i_Ch_made {G : GX} {p : Program} {l : Launch} {e : Env} {s : State} {m : MethodId} {args : Array Value} {below : List Frame} {meth : Method} {c : Code} {z0 u0 : Nat} (C : Cx G p s m args meth c prog_3_method_11_code 1 "BellPlate$Chooser" ((some FieldType.int))) (n : Nat) : I_Ch_made G p l e s m args below meth c z0 u0 n := by
  induction n with
  | zero => exact fun _ _ => x_none
  | succ n IH => exact fun v0R σ => s_Ch_made_0 C IH v0R σ
theorem c_Ch_made (G : GX) (l : Launch) (v0R : Nat) (σ : AM) : CT eI G l 0 y_Ch_made prog_3_method_11_code 1 ((some FieldType.int)) [.ref v0R] σ (M_Ch_made v0R σ) := by
  refine ct_of (by decide +kernel) (Nat.le_of_ble_eq_true rfl) (fun p e s m args below meth c C hin => ?_)
  refine x_lve (lv' := [(0, .ref v0R)]) rfl ?_
  intro r σ' h
  obtain ⟨n, hn⟩ := (lp_iff _ _ _).mp h
  exact (i_Ch_made C n) v0R σ r σ' hn
/-! BellPlate$Chooser.rang()I -/
abbrev y_Ch_rang : MethodName := ⟨"BellPlate$Chooser", "rang", "()I"⟩
theorem k_Ch_rang : y_Ch_rang.cls ≠ "java/lang/invoke/MethodHandle" ∧ y_Ch_rang.cls ≠ "java/lang/invoke/VarHandle" ∧ (parseMethodDescriptor y_Ch_rang.desc).map (fun d => d.parameters.length) = some 0 := by decide +kernel
theorem d_Ch_rang_0 : decode prog_3_method_12_code 0 = .ok (.aload_n 0, 1) := by decide +kernel
theorem d_Ch_rang_1 : decode prog_3_method_12_code 1 = .ok (.getfield 157, 3) := by decide +kernel
theorem d_Ch_rang_4 : decode prog_3_method_12_code 4 = .ok (.ireturn, 1) := by decide +kernel
abbrev S_Ch_rang : Type := Nat × Nat × AM
noncomputable def T_Ch_rang_0 (v0R : Nat) (σ : AM) : S_Ch_rang ⊕ Option (Int32 × AM) :=
  gdT (okO σ v0R 6) <| .inr (some ((aI σ v0R 17), σ))
noncomputable def F_Ch_rang : S_Ch_rang → S_Ch_rang ⊕ Option (Int32 × AM) := fun s => match s.1 with
  | _ => T_Ch_rang_0 (s.2.1) (s.2.2)
noncomputable def L_Ch_rang_0 (v0R : Nat) (σ : AM) : Option (Int32 × AM) := lp F_Ch_rang (0, v0R, σ)
set_option maxRecDepth 20000 in
theorem E_Ch_rang_0 (v0R : Nat) (σ : AM) : L_Ch_rang_0 v0R σ = (gd (okO σ v0R 6) <| (some ((aI σ v0R 17), σ))) := by
  unfold L_Ch_rang_0
  rw [lp_eq]
  show lpK (lp F_Ch_rang) (T_Ch_rang_0 v0R σ) = _
  unfold T_Ch_rang_0
  simp only [lpK_ite, lq_inl, lq_inr, lpK_bnd, lpK_gd, lq_let]
  try rfl
noncomputable def M_Ch_rang (v0R : Nat) (σ : AM) : Option (Int32 × AM) := mw σ (L_Ch_rang_0 v0R σ)
def I_Ch_rang (G : GX) (p : Program) (l : Launch) (e : Env) (s : State) (m : MethodId) (args : Array Value) (below : List Frame) (meth : Method) (c : Code) (z0 u0 n : Nat) : Prop :=
  (∀ (v0R : Nat) (σ : AM), VX (QM eI G args s below z0 u0) G p l e s m args below meth c 0 z0 u0 1 (lpn F_Ch_rang n (0, v0R, σ)) 0 [(0, .ref v0R)] [] σ)
set_option maxRecDepth 20000 in
theorem s_Ch_rang_0 {G : GX} {p : Program} {l : Launch} {e : Env} {s : State} {m : MethodId} {args : Array Value} {below : List Frame} {meth : Method} {c : Code} {z0 u0 n : Nat} (C : Cx G p s m args meth c prog_3_method_12_code 1 "BellPlate$Chooser" ((some FieldType.int))) (IH : I_Ch_rang G p l e s m args below meth c z0 u0 n) (v0R : Nat) (σ : AM) : VX (QM eI G args s below z0 u0) G p l e s m args below meth c 0 z0 u0 1 (lpK (lpn F_Ch_rang n) (T_Ch_rang_0 v0R σ)) 0 [(0, .ref v0R)] [] σ := by
  unfold T_Ch_rang_0
  refine x_aload_n C d_Ch_rang_0 0 rfl ?_
  refine x_gd (fun h1 => ?_)
  refine x_getI (k := 17) C (okO_iff.mp h1) rfl j5_ok (by decide) rfl w396 d_Ch_rang_1 ?_
  exact x_iret C d_Ch_rang_4
theorem i_Ch_rang {G : GX} {p : Program} {l : Launch} {e : Env} {s : State} {m : MethodId} {args : Array Value} {below : List Frame} {meth : Method} {c : Code} {z0 u0 : Nat} (C : Cx G p s m args meth c prog_3_method_12_code 1 "BellPlate$Chooser" ((some FieldType.int))) (n : Nat) : I_Ch_rang G p l e s m args below meth c z0 u0 n := by
  induction n with
  | zero => exact fun _ _ => x_none
  | succ n IH => exact fun v0R σ => s_Ch_rang_0 C IH v0R σ
theorem c_Ch_rang (G : GX) (l : Launch) (v0R : Nat) (σ : AM) : CT eI G l 0 y_Ch_rang prog_3_method_12_code 1 ((some FieldType.int)) [.ref v0R] σ (M_Ch_rang v0R σ) := by
  refine ct_of (by decide +kernel) (Nat.le_of_ble_eq_true rfl) (fun p e s m args below meth c C hin => ?_)
  refine x_lve (lv' := [(0, .ref v0R)]) rfl ?_
  intro r σ' h
  obtain ⟨n, hn⟩ := (lp_iff _ _ _).mp h
  exact (i_Ch_rang C n) v0R σ r σ' hn
/-! BellPlate$Chooser.paid()I -/
abbrev y_Ch_paid : MethodName := ⟨"BellPlate$Chooser", "paid", "()I"⟩
theorem k_Ch_paid : y_Ch_paid.cls ≠ "java/lang/invoke/MethodHandle" ∧ y_Ch_paid.cls ≠ "java/lang/invoke/VarHandle" ∧ (parseMethodDescriptor y_Ch_paid.desc).map (fun d => d.parameters.length) = some 0 := by decide +kernel
theorem d_Ch_paid_0 : decode prog_3_method_13_code 0 = .ok (.aload_n 0, 1) := by decide +kernel
theorem d_Ch_paid_1 : decode prog_3_method_13_code 1 = .ok (.getfield 160, 3) := by decide +kernel
theorem d_Ch_paid_4 : decode prog_3_method_13_code 4 = .ok (.ireturn, 1) := by decide +kernel
abbrev S_Ch_paid : Type := Nat × Nat × AM
noncomputable def T_Ch_paid_0 (v0R : Nat) (σ : AM) : S_Ch_paid ⊕ Option (Int32 × AM) :=
  gdT (okO σ v0R 6) <| .inr (some ((aI σ v0R 18), σ))
noncomputable def F_Ch_paid : S_Ch_paid → S_Ch_paid ⊕ Option (Int32 × AM) := fun s => match s.1 with
  | _ => T_Ch_paid_0 (s.2.1) (s.2.2)
noncomputable def L_Ch_paid_0 (v0R : Nat) (σ : AM) : Option (Int32 × AM) := lp F_Ch_paid (0, v0R, σ)
set_option maxRecDepth 20000 in
theorem E_Ch_paid_0 (v0R : Nat) (σ : AM) : L_Ch_paid_0 v0R σ = (gd (okO σ v0R 6) <| (some ((aI σ v0R 18), σ))) := by
  unfold L_Ch_paid_0
  rw [lp_eq]
  show lpK (lp F_Ch_paid) (T_Ch_paid_0 v0R σ) = _
  unfold T_Ch_paid_0
  simp only [lpK_ite, lq_inl, lq_inr, lpK_bnd, lpK_gd, lq_let]
  try rfl
noncomputable def M_Ch_paid (v0R : Nat) (σ : AM) : Option (Int32 × AM) := mw σ (L_Ch_paid_0 v0R σ)
def I_Ch_paid (G : GX) (p : Program) (l : Launch) (e : Env) (s : State) (m : MethodId) (args : Array Value) (below : List Frame) (meth : Method) (c : Code) (z0 u0 n : Nat) : Prop :=
  (∀ (v0R : Nat) (σ : AM), VX (QM eI G args s below z0 u0) G p l e s m args below meth c 0 z0 u0 1 (lpn F_Ch_paid n (0, v0R, σ)) 0 [(0, .ref v0R)] [] σ)
set_option maxRecDepth 20000 in
theorem s_Ch_paid_0 {G : GX} {p : Program} {l : Launch} {e : Env} {s : State} {m : MethodId} {args : Array Value} {below : List Frame} {meth : Method} {c : Code} {z0 u0 n : Nat} (C : Cx G p s m args meth c prog_3_method_13_code 1 "BellPlate$Chooser" ((some FieldType.int))) (IH : I_Ch_paid G p l e s m args below meth c z0 u0 n) (v0R : Nat) (σ : AM) : VX (QM eI G args s below z0 u0) G p l e s m args below meth c 0 z0 u0 1 (lpK (lpn F_Ch_paid n) (T_Ch_paid_0 v0R σ)) 0 [(0, .ref v0R)] [] σ := by
  unfold T_Ch_paid_0
  refine x_aload_n C d_Ch_paid_0 0 rfl ?_
  refine x_gd (fun h1 => ?_)
  refine x_getI (k := 18) C (okO_iff.mp h1) rfl j5_ok (by decide) rfl w397 d_Ch_paid_1 ?_
  exact x_iret C d_Ch_paid_4
theorem i_Ch_paid {G : GX} {p : Program} {l : Launch} {e : Env} {s : State} {m : MethodId} {args : Array Value} {below : List Frame} {meth : Method} {c : Code} {z0 u0 : Nat} (C : Cx G p s m args meth c prog_3_method_13_code 1 "BellPlate$Chooser" ((some FieldType.int))) (n : Nat) : I_Ch_paid G p l e s m args below meth c z0 u0 n := by
  induction n with
  | zero => exact fun _ _ => x_none
  | succ n IH => exact fun v0R σ => s_Ch_paid_0 C IH v0R σ
theorem c_Ch_paid (G : GX) (l : Launch) (v0R : Nat) (σ : AM) : CT eI G l 0 y_Ch_paid prog_3_method_13_code 1 ((some FieldType.int)) [.ref v0R] σ (M_Ch_paid v0R σ) := by
  refine ct_of (by decide +kernel) (Nat.le_of_ble_eq_true rfl) (fun p e s m args below meth c C hin => ?_)
  refine x_lve (lv' := [(0, .ref v0R)]) rfl ?_
  intro r σ' h
  obtain ⟨n, hn⟩ := (lp_iff _ _ _).mp h
  exact (i_Ch_paid C n) v0R σ r σ' hn
/-! BellPlate$Chooser.setAt(I)I -/
abbrev y_Ch_setAt : MethodName := ⟨"BellPlate$Chooser", "setAt", "(I)I"⟩
theorem k_Ch_setAt : y_Ch_setAt.cls ≠ "java/lang/invoke/MethodHandle" ∧ y_Ch_setAt.cls ≠ "java/lang/invoke/VarHandle" ∧ (parseMethodDescriptor y_Ch_setAt.desc).map (fun d => d.parameters.length) = some 1 := by decide +kernel
theorem d_Ch_setAt_0 : decode prog_3_method_14_code 0 = .ok (.iload_n 1, 1) := by decide +kernel
theorem d_Ch_setAt_1 : decode prog_3_method_14_code 1 = .ok (.ifCond .lt 20, 3) := by decide +kernel
theorem d_Ch_setAt_4 : decode prog_3_method_14_code 4 = .ok (.iload_n 1, 1) := by decide +kernel
theorem d_Ch_setAt_5 : decode prog_3_method_14_code 5 = .ok (.aload_n 0, 1) := by decide +kernel
theorem d_Ch_setAt_6 : decode prog_3_method_14_code 6 = .ok (.getfield 154, 3) := by decide +kernel
theorem d_Ch_setAt_9 : decode prog_3_method_14_code 9 = .ok (.if_icmp .ge 12, 3) := by decide +kernel
theorem d_Ch_setAt_12 : decode prog_3_method_14_code 12 = .ok (.aload_n 0, 1) := by decide +kernel
theorem d_Ch_setAt_13 : decode prog_3_method_14_code 13 = .ok (.getfield 58, 3) := by decide +kernel
theorem d_Ch_setAt_16 : decode prog_3_method_14_code 16 = .ok (.iload_n 1, 1) := by decide +kernel
theorem d_Ch_setAt_17 : decode prog_3_method_14_code 17 = .ok (.iaload, 1) := by decide +kernel
theorem d_Ch_setAt_18 : decode prog_3_method_14_code 18 = .ok (.goto 4, 3) := by decide +kernel
theorem d_Ch_setAt_21 : decode prog_3_method_14_code 21 = .ok (.iconst (-1), 1) := by decide +kernel
theorem d_Ch_setAt_22 : decode prog_3_method_14_code 22 = .ok (.ireturn, 1) := by decide +kernel
abbrev S_Ch_setAt : Type := Nat × Nat × Int32 × Int32 × AM
noncomputable def T_Ch_setAt_0 (v0R : Nat) (v1I : Int32) (σ : AM) : S_Ch_setAt ⊕ Option (Int32 × AM) :=
  if v1I < 0 then (.inl (1, 0, 0, 0, σ)) else (gdT (okO σ v0R 6) <| if v1I < (aI σ v0R 16) then (gdT (okO σ (aR σ v0R 12) 101) <| gdT (inB v1I (aN σ (aR σ v0R 12))) <| .inl (2, 0, 0, aI σ (aR σ v0R 12) v1I.toNatClampNeg, σ)) else (.inl (1, 0, 0, 0, σ)))
noncomputable def T_Ch_setAt_1  (σ : AM) : S_Ch_setAt ⊕ Option (Int32 × AM) :=
  .inl (2, 0, 0, ((-1) : Int32), σ)
noncomputable def T_Ch_setAt_2 (s0I : Int32) (σ : AM) : S_Ch_setAt ⊕ Option (Int32 × AM) :=
  .inr (some (s0I, σ))
noncomputable def F_Ch_setAt : S_Ch_setAt → S_Ch_setAt ⊕ Option (Int32 × AM) := fun s => match s.1 with
  | 0 => T_Ch_setAt_0 (s.2.1) (s.2.2.1) (s.2.2.2.2)
  | 1 => T_Ch_setAt_1  (s.2.2.2.2)
  | _ => T_Ch_setAt_2 (s.2.2.2.1) (s.2.2.2.2)
noncomputable def L_Ch_setAt_0 (v0R : Nat) (v1I : Int32) (σ : AM) : Option (Int32 × AM) := lp F_Ch_setAt (0, v0R, v1I, 0, σ)
noncomputable def L_Ch_setAt_1  (σ : AM) : Option (Int32 × AM) := lp F_Ch_setAt (1, 0, 0, 0, σ)
noncomputable def L_Ch_setAt_2 (s0I : Int32) (σ : AM) : Option (Int32 × AM) := lp F_Ch_setAt (2, 0, 0, s0I, σ)
set_option maxRecDepth 20000 in
theorem E_Ch_setAt_0 (v0R : Nat) (v1I : Int32) (σ : AM) : L_Ch_setAt_0 v0R v1I σ = (if v1I < 0 then (L_Ch_setAt_1 σ) else (gd (okO σ v0R 6) <| if v1I < (aI σ v0R 16) then (gd (okO σ (aR σ v0R 12) 101) <| gd (inB v1I (aN σ (aR σ v0R 12))) <| L_Ch_setAt_2 (aI σ (aR σ v0R 12) v1I.toNatClampNeg) σ) else (L_Ch_setAt_1 σ))) := by
  unfold L_Ch_setAt_0
  rw [lp_eq]
  show lpK (lp F_Ch_setAt) (T_Ch_setAt_0 v0R v1I σ) = _
  unfold T_Ch_setAt_0
  simp only [lpK_ite, lq_inl, lq_inr, lpK_bnd, lpK_gd, lq_let]
  try rfl
set_option maxRecDepth 20000 in
theorem E_Ch_setAt_1  (σ : AM) : L_Ch_setAt_1  σ = (L_Ch_setAt_2 (((-1) : Int32)) σ) := by
  unfold L_Ch_setAt_1
  rw [lp_eq]
  show lpK (lp F_Ch_setAt) (T_Ch_setAt_1  σ) = _
  unfold T_Ch_setAt_1
  simp only [lpK_ite, lq_inl, lq_inr, lpK_bnd, lpK_gd, lq_let]
  try rfl
set_option maxRecDepth 20000 in
theorem E_Ch_setAt_2 (s0I : Int32) (σ : AM) : L_Ch_setAt_2 s0I σ = ((some (s0I, σ))) := by
  unfold L_Ch_setAt_2
  rw [lp_eq]
  show lpK (lp F_Ch_setAt) (T_Ch_setAt_2 s0I σ) = _
  unfold T_Ch_setAt_2
  simp only [lpK_ite, lq_inl, lq_inr, lpK_bnd, lpK_gd, lq_let]
  try rfl
noncomputable def M_Ch_setAt (v0R : Nat) (v1I : Int32) (σ : AM) : Option (Int32 × AM) := mw σ (L_Ch_setAt_0 v0R v1I σ)
def I_Ch_setAt (G : GX) (p : Program) (l : Launch) (e : Env) (s : State) (m : MethodId) (args : Array Value) (below : List Frame) (meth : Method) (c : Code) (z0 u0 n : Nat) : Prop :=
  (∀ (v0R : Nat) (v1I : Int32) (σ : AM), VX (QM eI G args s below z0 u0) G p l e s m args below meth c 0 z0 u0 2 (lpn F_Ch_setAt n (0, v0R, v1I, 0, σ)) 0 [(0, .ref v0R), (1, .int v1I)] [] σ) ∧
  (∀ (σ : AM), VX (QM eI G args s below z0 u0) G p l e s m args below meth c 0 z0 u0 2 (lpn F_Ch_setAt n (1, 0, 0, 0, σ)) 21 [] [] σ) ∧
  (∀ (s0I : Int32) (σ : AM), VX (QM eI G args s below z0 u0) G p l e s m args below meth c 0 z0 u0 2 (lpn F_Ch_setAt n (2, 0, 0, s0I, σ)) 22 [] [.int s0I] σ)
set_option maxRecDepth 20000 in
theorem s_Ch_setAt_0 {G : GX} {p : Program} {l : Launch} {e : Env} {s : State} {m : MethodId} {args : Array Value} {below : List Frame} {meth : Method} {c : Code} {z0 u0 n : Nat} (C : Cx G p s m args meth c prog_3_method_14_code 2 "BellPlate$Chooser" ((some FieldType.int))) (IH : I_Ch_setAt G p l e s m args below meth c z0 u0 n) (v0R : Nat) (v1I : Int32) (σ : AM) : VX (QM eI G args s below z0 u0) G p l e s m args below meth c 0 z0 u0 2 (lpK (lpn F_Ch_setAt n) (T_Ch_setAt_0 v0R v1I σ)) 0 [(0, .ref v0R), (1, .int v1I)] [] σ := by
  unfold T_Ch_setAt_0
  refine x_iload_n C d_Ch_setAt_0 1 rfl ?_
  refine x_if_lt (tgt := 21) C d_Ch_setAt_1 (by decide) (fun _ => ?_) (fun _ => ?_)
  · refine x_lv [] rfl ?_
    exact IH.2.1  (σ)
  · refine x_iload_n C d_Ch_setAt_4 1 rfl ?_
    refine x_aload_n C d_Ch_setAt_5 0 rfl ?_
    refine x_gd (fun h1 => ?_)
    refine x_getI (k := 16) C (okO_iff.mp h1) rfl j5_ok (by decide) rfl w395 d_Ch_setAt_6 ?_
    refine x_icmp_ge (tgt := 21) C d_Ch_setAt_9 (by decide) (fun _ => ?_) (fun _ => ?_)
    · refine x_aload_n C d_Ch_setAt_12 0 rfl ?_
      refine x_gd (fun h2 => ?_)
      refine x_getR (k := 12) (kv := 101) C (okO_iff.mp h1) rfl j5_ok (by decide) rfl (okO_iff.mp h2) (by decide) w391 d_Ch_setAt_13 ?_
      refine x_iload_n C d_Ch_setAt_16 1 rfl ?_
      refine x_gd (fun h3 => ?_)
      refine x_aldI C (okO_iff.mp h2) (inB_iff.mp h3) d_Ch_setAt_17 ?_
      refine x_goto (tgt := 22) C d_Ch_setAt_18 (by decide) ?_
      refine x_lv [] rfl ?_
      exact IH.2.2 (aI σ (aR σ v0R 12) v1I.toNatClampNeg) (σ)
    · refine x_lv [] rfl ?_
      exact IH.2.1  (σ)
set_option maxRecDepth 20000 in
theorem s_Ch_setAt_1 {G : GX} {p : Program} {l : Launch} {e : Env} {s : State} {m : MethodId} {args : Array Value} {below : List Frame} {meth : Method} {c : Code} {z0 u0 n : Nat} (C : Cx G p s m args meth c prog_3_method_14_code 2 "BellPlate$Chooser" ((some FieldType.int))) (IH : I_Ch_setAt G p l e s m args below meth c z0 u0 n)  (σ : AM) : VX (QM eI G args s below z0 u0) G p l e s m args below meth c 0 z0 u0 2 (lpK (lpn F_Ch_setAt n) (T_Ch_setAt_1  σ)) 21 [] [] σ := by
  unfold T_Ch_setAt_1
  refine x_iconst (v := ((-1) : Int32)) C d_Ch_setAt_21 (by decide) ?_
  exact IH.2.2 (((-1) : Int32)) (σ)
set_option maxRecDepth 20000 in
theorem s_Ch_setAt_2 {G : GX} {p : Program} {l : Launch} {e : Env} {s : State} {m : MethodId} {args : Array Value} {below : List Frame} {meth : Method} {c : Code} {z0 u0 n : Nat} (C : Cx G p s m args meth c prog_3_method_14_code 2 "BellPlate$Chooser" ((some FieldType.int))) (IH : I_Ch_setAt G p l e s m args below meth c z0 u0 n) (s0I : Int32) (σ : AM) : VX (QM eI G args s below z0 u0) G p l e s m args below meth c 0 z0 u0 2 (lpK (lpn F_Ch_setAt n) (T_Ch_setAt_2 s0I σ)) 22 [] [.int s0I] σ := by
  unfold T_Ch_setAt_2
  exact x_iret C d_Ch_setAt_22
theorem i_Ch_setAt {G : GX} {p : Program} {l : Launch} {e : Env} {s : State} {m : MethodId} {args : Array Value} {below : List Frame} {meth : Method} {c : Code} {z0 u0 : Nat} (C : Cx G p s m args meth c prog_3_method_14_code 2 "BellPlate$Chooser" ((some FieldType.int))) (n : Nat) : I_Ch_setAt G p l e s m args below meth c z0 u0 n := by
  induction n with
  | zero => exact ⟨fun _ _ _ => x_none, fun _ => x_none, fun _ _ => x_none⟩
  | succ n IH => exact ⟨fun v0R v1I σ => s_Ch_setAt_0 C IH v0R v1I σ, fun σ => s_Ch_setAt_1 C IH σ, fun s0I σ => s_Ch_setAt_2 C IH s0I σ⟩
theorem c_Ch_setAt (G : GX) (l : Launch) (v0R : Nat) (v1I : Int32) (σ : AM) : CT eI G l 0 y_Ch_setAt prog_3_method_14_code 2 ((some FieldType.int)) [.ref v0R, .int v1I] σ (M_Ch_setAt v0R v1I σ) := by
  refine ct_of (by decide +kernel) (Nat.le_of_ble_eq_true rfl) (fun p e s m args below meth c C hin => ?_)
  refine x_lve (lv' := [(0, .ref v0R), (1, .int v1I)]) rfl ?_
  intro r σ' h
  obtain ⟨n, hn⟩ := (lp_iff _ _ _).mp h
  exact (i_Ch_setAt C n).1 v0R v1I σ r σ' hn
/-! BellPlate$Chooser.put(IIII)I -/
abbrev y_Ch_put : MethodName := ⟨"BellPlate$Chooser", "put", "(IIII)I"⟩
theorem k_Ch_put : y_Ch_put.cls ≠ "java/lang/invoke/MethodHandle" ∧ y_Ch_put.cls ≠ "java/lang/invoke/VarHandle" ∧ (parseMethodDescriptor y_Ch_put.desc).map (fun d => d.parameters.length) = some 4 := by decide +kernel
theorem d_Ch_put_0 : decode prog_3_method_16_code 0 = .ok (.iload_n 1, 1) := by decide +kernel
theorem d_Ch_put_1 : decode prog_3_method_16_code 1 = .ok (.aload_n 0, 1) := by decide +kernel
theorem d_Ch_put_2 : decode prog_3_method_16_code 2 = .ok (.getfield 33, 3) := by decide +kernel
theorem d_Ch_put_5 : decode prog_3_method_16_code 5 = .ok (.arraylength, 1) := by decide +kernel
theorem d_Ch_put_6 : decode prog_3_method_16_code 6 = .ok (.if_icmp .lt 5, 3) := by decide +kernel
theorem d_Ch_put_9 : decode prog_3_method_16_code 9 = .ok (.iload_n 1, 1) := by decide +kernel
theorem d_Ch_put_10 : decode prog_3_method_16_code 10 = .ok (.ireturn, 1) := by decide +kernel
theorem d_Ch_put_11 : decode prog_3_method_16_code 11 = .ok (.aload_n 0, 1) := by decide +kernel
theorem d_Ch_put_12 : decode prog_3_method_16_code 12 = .ok (.getfield 33, 3) := by decide +kernel
theorem d_Ch_put_15 : decode prog_3_method_16_code 15 = .ok (.iload_n 1, 1) := by decide +kernel
theorem d_Ch_put_16 : decode prog_3_method_16_code 16 = .ok (.iload_n 2, 1) := by decide +kernel
theorem d_Ch_put_17 : decode prog_3_method_16_code 17 = .ok (.iastore, 1) := by decide +kernel
theorem d_Ch_put_18 : decode prog_3_method_16_code 18 = .ok (.aload_n 0, 1) := by decide +kernel
theorem d_Ch_put_19 : decode prog_3_method_16_code 19 = .ok (.getfield 37, 3) := by decide +kernel
theorem d_Ch_put_22 : decode prog_3_method_16_code 22 = .ok (.iload_n 1, 1) := by decide +kernel
theorem d_Ch_put_23 : decode prog_3_method_16_code 23 = .ok (.iload_n 3, 1) := by decide +kernel
theorem d_Ch_put_24 : decode prog_3_method_16_code 24 = .ok (.iastore, 1) := by decide +kernel
theorem d_Ch_put_25 : decode prog_3_method_16_code 25 = .ok (.aload_n 0, 1) := by decide +kernel
theorem d_Ch_put_26 : decode prog_3_method_16_code 26 = .ok (.getfield 40, 3) := by decide +kernel
theorem d_Ch_put_29 : decode prog_3_method_16_code 29 = .ok (.iload_n 1, 1) := by decide +kernel
theorem d_Ch_put_30 : decode prog_3_method_16_code 30 = .ok (.iload 4, 2) := by decide +kernel
theorem d_Ch_put_32 : decode prog_3_method_16_code 32 = .ok (.iastore, 1) := by decide +kernel
theorem d_Ch_put_33 : decode prog_3_method_16_code 33 = .ok (.iload_n 1, 1) := by decide +kernel
theorem d_Ch_put_34 : decode prog_3_method_16_code 34 = .ok (.iconst 1, 1) := by decide +kernel
theorem d_Ch_put_35 : decode prog_3_method_16_code 35 = .ok (.iadd, 1) := by decide +kernel
theorem d_Ch_put_36 : decode prog_3_method_16_code 36 = .ok (.ireturn, 1) := by decide +kernel
abbrev S_Ch_put : Type := Nat × Nat × Int32 × Int32 × Int32 × Int32 × AM
noncomputable def T_Ch_put_0 (v0R : Nat) (v1I : Int32) (v2I : Int32) (v3I : Int32) (v4I : Int32) (σ : AM) : S_Ch_put ⊕ Option (Int32 × AM) :=
  gdT (okO σ v0R 6) <| gdT (okO σ (aR σ v0R 6) 101) <| if v1I < (nI (aN σ (aR σ v0R 6))) then (gdT (inB v1I (aN σ (aR σ v0R 6))) <| letT (sI σ (aR σ v0R 6) v1I.toNatClampNeg v2I) fun σ4 => gdT (okO σ4 (aR σ4 v0R 7) 101) <| gdT (inB v1I (aN σ4 (aR σ4 v0R 7))) <| letT (sI σ4 (aR σ4 v0R 7) v1I.toNatClampNeg v3I) fun σ8 => gdT (okO σ8 (aR σ8 v0R 8) 101) <| gdT (inB v1I (aN σ8 (aR σ8 v0R 8))) <| letT (sI σ8 (aR σ8 v0R 8) v1I.toNatClampNeg v4I) fun σ12 => .inr (some ((v1I + (1 : Int32)), σ12))) else (.inr (some (v1I, σ)))
noncomputable def F_Ch_put : S_Ch_put → S_Ch_put ⊕ Option (Int32 × AM) := fun s => match s.1 with
  | _ => T_Ch_put_0 (s.2.1) (s.2.2.1) (s.2.2.2.1) (s.2.2.2.2.1) (s.2.2.2.2.2.1) (s.2.2.2.2.2.2)
noncomputable def L_Ch_put_0 (v0R : Nat) (v1I : Int32) (v2I : Int32) (v3I : Int32) (v4I : Int32) (σ : AM) : Option (Int32 × AM) := lp F_Ch_put (0, v0R, v1I, v2I, v3I, v4I, σ)
set_option maxRecDepth 20000 in
theorem E_Ch_put_0 (v0R : Nat) (v1I : Int32) (v2I : Int32) (v3I : Int32) (v4I : Int32) (σ : AM) : L_Ch_put_0 v0R v1I v2I v3I v4I σ = (gd (okO σ v0R 6) <| gd (okO σ (aR σ v0R 6) 101) <| if v1I < (nI (aN σ (aR σ v0R 6))) then (gd (inB v1I (aN σ (aR σ v0R 6))) <| letT (sI σ (aR σ v0R 6) v1I.toNatClampNeg v2I) fun σ4 => gd (okO σ4 (aR σ4 v0R 7) 101) <| gd (inB v1I (aN σ4 (aR σ4 v0R 7))) <| letT (sI σ4 (aR σ4 v0R 7) v1I.toNatClampNeg v3I) fun σ8 => gd (okO σ8 (aR σ8 v0R 8) 101) <| gd (inB v1I (aN σ8 (aR σ8 v0R 8))) <| letT (sI σ8 (aR σ8 v0R 8) v1I.toNatClampNeg v4I) fun σ12 => (some ((v1I + (1 : Int32)), σ12))) else ((some (v1I, σ)))) := by
  unfold L_Ch_put_0
  rw [lp_eq]
  show lpK (lp F_Ch_put) (T_Ch_put_0 v0R v1I v2I v3I v4I σ) = _
  unfold T_Ch_put_0
  simp only [lpK_ite, lq_inl, lq_inr, lpK_bnd, lpK_gd, lq_let]
  try rfl
noncomputable def M_Ch_put (v0R : Nat) (v1I : Int32) (v2I : Int32) (v3I : Int32) (v4I : Int32) (σ : AM) : Option (Int32 × AM) := mw σ (L_Ch_put_0 v0R v1I v2I v3I v4I σ)
def I_Ch_put (G : GX) (p : Program) (l : Launch) (e : Env) (s : State) (m : MethodId) (args : Array Value) (below : List Frame) (meth : Method) (c : Code) (z0 u0 n : Nat) : Prop :=
  (∀ (v0R : Nat) (v1I : Int32) (v2I : Int32) (v3I : Int32) (v4I : Int32) (σ : AM), VX (QM eI G args s below z0 u0) G p l e s m args below meth c 0 z0 u0 5 (lpn F_Ch_put n (0, v0R, v1I, v2I, v3I, v4I, σ)) 0 [(0, .ref v0R), (1, .int v1I), (2, .int v2I), (3, .int v3I), (4, .int v4I)] [] σ)
set_option maxRecDepth 20000 in
theorem s_Ch_put_0 {G : GX} {p : Program} {l : Launch} {e : Env} {s : State} {m : MethodId} {args : Array Value} {below : List Frame} {meth : Method} {c : Code} {z0 u0 n : Nat} (C : Cx G p s m args meth c prog_3_method_16_code 5 "BellPlate$Chooser" ((some FieldType.int))) (IH : I_Ch_put G p l e s m args below meth c z0 u0 n) (v0R : Nat) (v1I : Int32) (v2I : Int32) (v3I : Int32) (v4I : Int32) (σ : AM) : VX (QM eI G args s below z0 u0) G p l e s m args below meth c 0 z0 u0 5 (lpK (lpn F_Ch_put n) (T_Ch_put_0 v0R v1I v2I v3I v4I σ)) 0 [(0, .ref v0R), (1, .int v1I), (2, .int v2I), (3, .int v3I), (4, .int v4I)] [] σ := by
  unfold T_Ch_put_0
  refine x_iload_n C d_Ch_put_0 1 rfl ?_
  refine x_aload_n C d_Ch_put_1 0 rfl ?_
  refine x_gd (fun h1 => ?_)
  refine x_gd (fun h2 => ?_)
  refine x_getR (k := 6) (kv := 101) C (okO_iff.mp h1) rfl j5_ok (by decide) rfl (okO_iff.mp h2) (by decide) w385 d_Ch_put_2 ?_
  refine x_alen (t := 0) C (okO_iff.mp h2) (by decide) d_Ch_put_5 ?_
  refine x_icmp_lt (tgt := 11) C d_Ch_put_6 (by decide) (fun _ => ?_) (fun _ => ?_)
  · refine x_aload_n C d_Ch_put_11 0 rfl ?_
    refine x_getR (k := 6) (kv := 101) C (okO_iff.mp h1) rfl j5_ok (by decide) rfl (okO_iff.mp h2) (by decide) w385 d_Ch_put_12 ?_
    refine x_iload_n C d_Ch_put_15 1 rfl ?_
    refine x_iload_n C d_Ch_put_16 2 rfl ?_
    refine x_gd (fun h3 => ?_)
    refine x_astI C (okO_iff.mp h2) (inB_iff.mp h3) d_Ch_put_17 ?_
    refine x_letS (fun σ4 e5 => ?_)
    refine x_aload_n C d_Ch_put_18 0 rfl ?_
    refine x_gd (fun h6 => ?_)
    refine x_getR (k := 7) (kv := 101) C (by first | exact (okO_iff.mp h1) | (rw [e5]; exact (okO_iff.mp h1))) rfl j5_ok (by decide) rfl (okO_iff.mp h6) (by decide) w386 d_Ch_put_19 ?_
    refine x_iload_n C d_Ch_put_22 1 rfl ?_
    refine x_iload_n C d_Ch_put_23 3 rfl ?_
    refine x_gd (fun h7 => ?_)
    refine x_astI C (okO_iff.mp h6) (inB_iff.mp h7) d_Ch_put_24 ?_
    refine x_letS (fun σ8 e9 => ?_)
    refine x_aload_n C d_Ch_put_25 0 rfl ?_
    refine x_gd (fun h10 => ?_)
    refine x_getR (k := 8) (kv := 101) C (by first | exact (okO_iff.mp h1) | (rw [e9, e5]; exact (okO_iff.mp h1))) rfl j5_ok (by decide) rfl (okO_iff.mp h10) (by decide) w387 d_Ch_put_26 ?_
    refine x_iload_n C d_Ch_put_29 1 rfl ?_
    refine x_iload C d_Ch_put_30 4 rfl ?_
    refine x_gd (fun h11 => ?_)
    refine x_astI C (okO_iff.mp h10) (inB_iff.mp h11) d_Ch_put_32 ?_
    refine x_letS (fun σ12 e13 => ?_)
    refine x_iload_n C d_Ch_put_33 1 rfl ?_
    refine x_iconst (v := (1 : Int32)) C d_Ch_put_34 (by decide) ?_
    refine x_iadd C d_Ch_put_35 ?_
    exact x_iret C d_Ch_put_36
  · refine x_iload_n C d_Ch_put_9 1 rfl ?_
    exact x_iret C d_Ch_put_10
theorem i_Ch_put {G : GX} {p : Program} {l : Launch} {e : Env} {s : State} {m : MethodId} {args : Array Value} {below : List Frame} {meth : Method} {c : Code} {z0 u0 : Nat} (C : Cx G p s m args meth c prog_3_method_16_code 5 "BellPlate$Chooser" ((some FieldType.int))) (n : Nat) : I_Ch_put G p l e s m args below meth c z0 u0 n := by
  induction n with
  | zero => exact fun _ _ _ _ _ _ => x_none
  | succ n IH => exact fun v0R v1I v2I v3I v4I σ => s_Ch_put_0 C IH v0R v1I v2I v3I v4I σ
theorem c_Ch_put (G : GX) (l : Launch) (v0R : Nat) (v1I : Int32) (v2I : Int32) (v3I : Int32) (v4I : Int32) (σ : AM) : CT eI G l 0 y_Ch_put prog_3_method_16_code 5 ((some FieldType.int)) [.ref v0R, .int v1I, .int v2I, .int v3I, .int v4I] σ (M_Ch_put v0R v1I v2I v3I v4I σ) := by
  refine ct_of (by decide +kernel) (Nat.le_of_ble_eq_true rfl) (fun p e s m args below meth c C hin => ?_)
  refine x_lve (lv' := [(0, .ref v0R), (1, .int v1I), (2, .int v2I), (3, .int v3I), (4, .int v4I)]) rfl ?_
  intro r σ' h
  obtain ⟨n, hn⟩ := (lp_iff _ _ _).mp h
  exact (i_Ch_put C n) v0R v1I v2I v3I v4I σ r σ' hn
/-! BellPlate$Chooser.endRuns([IIIII)V -/
abbrev y_Ch_endRuns : MethodName := ⟨"BellPlate$Chooser", "endRuns", "([IIIII)V"⟩
theorem k_Ch_endRuns : y_Ch_endRuns.cls ≠ "java/lang/invoke/MethodHandle" ∧ y_Ch_endRuns.cls ≠ "java/lang/invoke/VarHandle" ∧ (parseMethodDescriptor y_Ch_endRuns.desc).map (fun d => d.parameters.length) = some 5 := by decide +kernel
theorem d_Ch_endRuns_0 : decode prog_3_method_17_code 0 = .ok (.aload_n 0, 1) := by decide +kernel
theorem d_Ch_endRuns_1 : decode prog_3_method_17_code 1 = .ok (.getfield 43, 3) := by decide +kernel
theorem d_Ch_endRuns_4 : decode prog_3_method_17_code 4 = .ok (.iload 5, 2) := by decide +kernel
theorem d_Ch_endRuns_6 : decode prog_3_method_17_code 6 = .ok (.aload_n 0, 1) := by decide +kernel
theorem d_Ch_endRuns_7 : decode prog_3_method_17_code 7 = .ok (.getfield 43, 3) := by decide +kernel
theorem d_Ch_endRuns_10 : decode prog_3_method_17_code 10 = .ok (.iload 5, 2) := by decide +kernel
theorem d_Ch_endRuns_12 : decode prog_3_method_17_code 12 = .ok (.iaload, 1) := by decide +kernel
theorem d_Ch_endRuns_13 : decode prog_3_method_17_code 13 = .ok (.iload 4, 2) := by decide +kernel
theorem d_Ch_endRuns_15 : decode prog_3_method_17_code 15 = .ok (.invokestatic 121, 3) := by decide +kernel
theorem d_Ch_endRuns_18 : decode prog_3_method_17_code 18 = .ok (.iastore, 1) := by decide +kernel
theorem d_Ch_endRuns_19 : decode prog_3_method_17_code 19 = .ok (.iload_n 2, 1) := by decide +kernel
theorem d_Ch_endRuns_20 : decode prog_3_method_17_code 20 = .ok (.istore 6, 2) := by decide +kernel
theorem d_Ch_endRuns_22 : decode prog_3_method_17_code 22 = .ok (.iload 6, 2) := by decide +kernel
theorem d_Ch_endRuns_24 : decode prog_3_method_17_code 24 = .ok (.iload_n 3, 1) := by decide +kernel
theorem d_Ch_endRuns_25 : decode prog_3_method_17_code 25 = .ok (.if_icmp .ge 33, 3) := by decide +kernel
theorem d_Ch_endRuns_28 : decode prog_3_method_17_code 28 = .ok (.aload_n 0, 1) := by decide +kernel
theorem d_Ch_endRuns_29 : decode prog_3_method_17_code 29 = .ok (.getfield 46, 3) := by decide +kernel
theorem d_Ch_endRuns_32 : decode prog_3_method_17_code 32 = .ok (.iload 5, 2) := by decide +kernel
theorem d_Ch_endRuns_34 : decode prog_3_method_17_code 34 = .ok (.dup2, 1) := by decide +kernel
theorem d_Ch_endRuns_35 : decode prog_3_method_17_code 35 = .ok (.iaload, 1) := by decide +kernel
theorem d_Ch_endRuns_36 : decode prog_3_method_17_code 36 = .ok (.iload 4, 2) := by decide +kernel
theorem d_Ch_endRuns_38 : decode prog_3_method_17_code 38 = .ok (.aload_n 0, 1) := by decide +kernel
theorem d_Ch_endRuns_39 : decode prog_3_method_17_code 39 = .ok (.getfield 15, 3) := by decide +kernel
theorem d_Ch_endRuns_42 : decode prog_3_method_17_code 42 = .ok (.aload_n 1, 1) := by decide +kernel
theorem d_Ch_endRuns_43 : decode prog_3_method_17_code 43 = .ok (.iload 6, 2) := by decide +kernel
theorem d_Ch_endRuns_45 : decode prog_3_method_17_code 45 = .ok (.iaload, 1) := by decide +kernel
theorem d_Ch_endRuns_46 : decode prog_3_method_17_code 46 = .ok (.invokevirtual 76, 3) := by decide +kernel
theorem d_Ch_endRuns_49 : decode prog_3_method_17_code 49 = .ok (.imul, 1) := by decide +kernel
theorem d_Ch_endRuns_50 : decode prog_3_method_17_code 50 = .ok (.iadd, 1) := by decide +kernel
theorem d_Ch_endRuns_51 : decode prog_3_method_17_code 51 = .ok (.iastore, 1) := by decide +kernel
theorem d_Ch_endRuns_52 : decode prog_3_method_17_code 52 = .ok (.iinc 6 1, 3) := by decide +kernel
theorem d_Ch_endRuns_55 : decode prog_3_method_17_code 55 = .ok (.goto (-33), 3) := by decide +kernel
theorem d_Ch_endRuns_58 : decode prog_3_method_17_code 58 = .ok (.return_, 1) := by decide +kernel
abbrev S_Ch_endRuns : Type := Nat × Nat × Nat × Int32 × Int32 × Int32 × Int32 × Int32 × AM
noncomputable def T_Ch_endRuns_0 (v0R : Nat) (v1R : Nat) (v2I : Int32) (v3I : Int32) (v4I : Int32) (v5I : Int32) (σ : AM) : S_Ch_endRuns ⊕ Option (Unit × AM) :=
  gdT (okO σ v0R 6) <| gdT (okO σ (aR σ v0R 9) 101) <| gdT (inB v5I (aN σ (aR σ v0R 9))) <| letT (sI σ (aR σ v0R 9) v5I.toNatClampNeg (mxI (aI σ (aR σ v0R 9) v5I.toNatClampNeg) v4I)) fun σ4 => .inl (1, v0R, v1R, 0, v3I, v4I, v5I, v2I, σ4)
noncomputable def T_Ch_endRuns_1 (v0R : Nat) (v1R : Nat) (v3I : Int32) (v4I : Int32) (v5I : Int32) (v6I : Int32) (σ : AM) : S_Ch_endRuns ⊕ Option (Unit × AM) :=
  if v6I < v3I then (gdT (okO σ v0R 6) <| gdT (okO σ (aR σ v0R 10) 101) <| gdT (inB v5I (aN σ (aR σ v0R 10))) <| gdT (okO σ (aR σ v0R 1) 3) <| gdT (okO σ v1R 101) <| gdT (inB v6I (aN σ v1R)) <| bndT (M_Ls_share (aR σ v0R 1) (aI σ v1R v6I.toNatClampNeg) σ) fun r7 σ8 => gdT (okO σ8 (aR σ v0R 10) 101) <| gdT (inB v5I (aN σ8 (aR σ v0R 10))) <| letT (sI σ8 (aR σ v0R 10) v5I.toNatClampNeg ((aI σ (aR σ v0R 10) v5I.toNatClampNeg) + (v4I * r7))) fun σ11 => .inl (1, v0R, v1R, 0, v3I, v4I, v5I, v6I + (1 : Int32), σ11)) else (.inr (some ((), σ)))
noncomputable def F_Ch_endRuns : S_Ch_endRuns → S_Ch_endRuns ⊕ Option (Unit × AM) := fun s => match s.1 with
  | 0 => T_Ch_endRuns_0 (s.2.1) (s.2.2.1) (s.2.2.2.1) (s.2.2.2.2.1) (s.2.2.2.2.2.1) (s.2.2.2.2.2.2.1) (s.2.2.2.2.2.2.2.2)
  | _ => T_Ch_endRuns_1 (s.2.1) (s.2.2.1) (s.2.2.2.2.1) (s.2.2.2.2.2.1) (s.2.2.2.2.2.2.1) (s.2.2.2.2.2.2.2.1) (s.2.2.2.2.2.2.2.2)
noncomputable def L_Ch_endRuns_0 (v0R : Nat) (v1R : Nat) (v2I : Int32) (v3I : Int32) (v4I : Int32) (v5I : Int32) (σ : AM) : Option (Unit × AM) := lp F_Ch_endRuns (0, v0R, v1R, v2I, v3I, v4I, v5I, 0, σ)
noncomputable def L_Ch_endRuns_1 (v0R : Nat) (v1R : Nat) (v3I : Int32) (v4I : Int32) (v5I : Int32) (v6I : Int32) (σ : AM) : Option (Unit × AM) := lp F_Ch_endRuns (1, v0R, v1R, 0, v3I, v4I, v5I, v6I, σ)
set_option maxRecDepth 20000 in
theorem E_Ch_endRuns_0 (v0R : Nat) (v1R : Nat) (v2I : Int32) (v3I : Int32) (v4I : Int32) (v5I : Int32) (σ : AM) : L_Ch_endRuns_0 v0R v1R v2I v3I v4I v5I σ = (gd (okO σ v0R 6) <| gd (okO σ (aR σ v0R 9) 101) <| gd (inB v5I (aN σ (aR σ v0R 9))) <| letT (sI σ (aR σ v0R 9) v5I.toNatClampNeg (mxI (aI σ (aR σ v0R 9) v5I.toNatClampNeg) v4I)) fun σ4 => L_Ch_endRuns_1 v0R v1R v3I v4I v5I v2I σ4) := by
  unfold L_Ch_endRuns_0
  rw [lp_eq]
  show lpK (lp F_Ch_endRuns) (T_Ch_endRuns_0 v0R v1R v2I v3I v4I v5I σ) = _
  unfold T_Ch_endRuns_0
  simp only [lpK_ite, lq_inl, lq_inr, lpK_bnd, lpK_gd, lq_let]
  try rfl
set_option maxRecDepth 20000 in
theorem E_Ch_endRuns_1 (v0R : Nat) (v1R : Nat) (v3I : Int32) (v4I : Int32) (v5I : Int32) (v6I : Int32) (σ : AM) : L_Ch_endRuns_1 v0R v1R v3I v4I v5I v6I σ = (if v6I < v3I then (gd (okO σ v0R 6) <| gd (okO σ (aR σ v0R 10) 101) <| gd (inB v5I (aN σ (aR σ v0R 10))) <| gd (okO σ (aR σ v0R 1) 3) <| gd (okO σ v1R 101) <| gd (inB v6I (aN σ v1R)) <| bnd (M_Ls_share (aR σ v0R 1) (aI σ v1R v6I.toNatClampNeg) σ) fun r7 σ8 => gd (okO σ8 (aR σ v0R 10) 101) <| gd (inB v5I (aN σ8 (aR σ v0R 10))) <| letT (sI σ8 (aR σ v0R 10) v5I.toNatClampNeg ((aI σ (aR σ v0R 10) v5I.toNatClampNeg) + (v4I * r7))) fun σ11 => L_Ch_endRuns_1 v0R v1R v3I v4I v5I (v6I + (1 : Int32)) σ11) else ((some ((), σ)))) := by
  unfold L_Ch_endRuns_1
  rw [lp_eq]
  show lpK (lp F_Ch_endRuns) (T_Ch_endRuns_1 v0R v1R v3I v4I v5I v6I σ) = _
  unfold T_Ch_endRuns_1
  simp only [lpK_ite, lq_inl, lq_inr, lpK_bnd, lpK_gd, lq_let]
  try rfl
noncomputable def M_Ch_endRuns (v0R : Nat) (v1R : Nat) (v2I : Int32) (v3I : Int32) (v4I : Int32) (v5I : Int32) (σ : AM) : Option (Unit × AM) := mw σ (L_Ch_endRuns_0 v0R v1R v2I v3I v4I v5I σ)
def I_Ch_endRuns (G : GX) (p : Program) (l : Launch) (e : Env) (s : State) (m : MethodId) (args : Array Value) (below : List Frame) (meth : Method) (c : Code) (z0 u0 n : Nat) : Prop :=
  (∀ (v0R : Nat) (v1R : Nat) (v2I : Int32) (v3I : Int32) (v4I : Int32) (v5I : Int32) (σ : AM), VX (QM eV G args s below z0 u0) G p l e s m args below meth c 1 z0 u0 7 (lpn F_Ch_endRuns n (0, v0R, v1R, v2I, v3I, v4I, v5I, 0, σ)) 0 [(0, .ref v0R), (1, .ref v1R), (2, .int v2I), (3, .int v3I), (4, .int v4I), (5, .int v5I)] [] σ) ∧
  (∀ (v0R : Nat) (v1R : Nat) (v3I : Int32) (v4I : Int32) (v5I : Int32) (v6I : Int32) (σ : AM), VX (QM eV G args s below z0 u0) G p l e s m args below meth c 1 z0 u0 7 (lpn F_Ch_endRuns n (1, v0R, v1R, 0, v3I, v4I, v5I, v6I, σ)) 22 [(0, .ref v0R), (1, .ref v1R), (3, .int v3I), (4, .int v4I), (5, .int v5I), (6, .int v6I)] [] σ)
set_option maxRecDepth 20000 in
theorem s_Ch_endRuns_0 {G : GX} {p : Program} {l : Launch} {e : Env} {s : State} {m : MethodId} {args : Array Value} {below : List Frame} {meth : Method} {c : Code} {z0 u0 n : Nat} (C : Cx G p s m args meth c prog_3_method_17_code 7 "BellPlate$Chooser" ((none))) (IH : I_Ch_endRuns G p l e s m args below meth c z0 u0 n) (v0R : Nat) (v1R : Nat) (v2I : Int32) (v3I : Int32) (v4I : Int32) (v5I : Int32) (σ : AM) : VX (QM eV G args s below z0 u0) G p l e s m args below meth c 1 z0 u0 7 (lpK (lpn F_Ch_endRuns n) (T_Ch_endRuns_0 v0R v1R v2I v3I v4I v5I σ)) 0 [(0, .ref v0R), (1, .ref v1R), (2, .int v2I), (3, .int v3I), (4, .int v4I), (5, .int v5I)] [] σ := by
  unfold T_Ch_endRuns_0
  refine x_aload_n C d_Ch_endRuns_0 0 rfl ?_
  refine x_gd (fun h1 => ?_)
  refine x_gd (fun h2 => ?_)
  refine x_getR (k := 9) (kv := 101) C (okO_iff.mp h1) rfl j5_ok (by decide) rfl (okO_iff.mp h2) (by decide) w388 d_Ch_endRuns_1 ?_
  refine x_iload C d_Ch_endRuns_4 5 rfl ?_
  refine x_aload_n C d_Ch_endRuns_6 0 rfl ?_
  refine x_getR (k := 9) (kv := 101) C (okO_iff.mp h1) rfl j5_ok (by decide) rfl (okO_iff.mp h2) (by decide) w388 d_Ch_endRuns_7 ?_
  refine x_iload C d_Ch_endRuns_10 5 rfl ?_
  refine x_gd (fun h3 => ?_)
  refine x_aldI C (okO_iff.mp h2) (inB_iff.mp h3) d_Ch_endRuns_12 ?_
  refine x_iload C d_Ch_endRuns_13 4 rfl ?_
  refine x_mmax C w1189 (by decide) (Nat.le_of_ble_eq_true rfl) d_Ch_endRuns_15 ?_
  refine x_astI C (okO_iff.mp h2) (inB_iff.mp h3) d_Ch_endRuns_18 ?_
  refine x_letS (fun σ4 e5 => ?_)
  refine x_iload_n C d_Ch_endRuns_19 2 rfl ?_
  refine x_istore (lv' := [(6, .int v2I), (0, .ref v0R), (1, .ref v1R), (2, .int v2I), (3, .int v3I), (4, .int v4I), (5, .int v5I)]) C d_Ch_endRuns_20 (by decide) rfl ?_
  refine x_lv [1, 2, 4, 5, 6, 0] rfl ?_
  exact IH.2 v0R v1R v3I v4I v5I v2I (σ4)
set_option maxRecDepth 20000 in
theorem s_Ch_endRuns_1 {G : GX} {p : Program} {l : Launch} {e : Env} {s : State} {m : MethodId} {args : Array Value} {below : List Frame} {meth : Method} {c : Code} {z0 u0 n : Nat} (C : Cx G p s m args meth c prog_3_method_17_code 7 "BellPlate$Chooser" ((none))) (IH : I_Ch_endRuns G p l e s m args below meth c z0 u0 n) (v0R : Nat) (v1R : Nat) (v3I : Int32) (v4I : Int32) (v5I : Int32) (v6I : Int32) (σ : AM) : VX (QM eV G args s below z0 u0) G p l e s m args below meth c 1 z0 u0 7 (lpK (lpn F_Ch_endRuns n) (T_Ch_endRuns_1 v0R v1R v3I v4I v5I v6I σ)) 22 [(0, .ref v0R), (1, .ref v1R), (3, .int v3I), (4, .int v4I), (5, .int v5I), (6, .int v6I)] [] σ := by
  unfold T_Ch_endRuns_1
  refine x_iload C d_Ch_endRuns_22 5 rfl ?_
  refine x_iload_n C d_Ch_endRuns_24 2 rfl ?_
  refine x_icmp_ge (tgt := 58) C d_Ch_endRuns_25 (by decide) (fun _ => ?_) (fun _ => ?_)
  · refine x_aload_n C d_Ch_endRuns_28 0 rfl ?_
    refine x_gd (fun h1 => ?_)
    refine x_gd (fun h2 => ?_)
    refine x_getR (k := 10) (kv := 101) C (okO_iff.mp h1) rfl j5_ok (by decide) rfl (okO_iff.mp h2) (by decide) w389 d_Ch_endRuns_29 ?_
    refine x_iload C d_Ch_endRuns_32 4 rfl ?_
    refine x_dup2 C d_Ch_endRuns_34 rfl rfl ?_
    refine x_gd (fun h3 => ?_)
    refine x_aldI C (okO_iff.mp h2) (inB_iff.mp h3) d_Ch_endRuns_35 ?_
    refine x_iload C d_Ch_endRuns_36 3 rfl ?_
    refine x_aload_n C d_Ch_endRuns_38 0 rfl ?_
    refine x_gd (fun h4 => ?_)
    refine x_getR (k := 1) (kv := 3) C (okO_iff.mp h1) rfl j5_ok (by decide) rfl (okO_iff.mp h4) (by decide) w380 d_Ch_endRuns_39 ?_
    refine x_aload_n C d_Ch_endRuns_42 1 rfl ?_
    refine x_iload C d_Ch_endRuns_43 5 rfl ?_
    refine x_gd (fun h5 => ?_)
    refine x_gd (fun h6 => ?_)
    refine x_aldI C (okO_iff.mp h5) (inB_iff.mp h6) d_Ch_endRuns_45 ?_
    refine x_callVI (As := [.int (aI σ v1R v6I.toNatClampNeg)]) C (c_Ls_share G l (aR σ v0R 1) (aI σ v1R v6I.toNatClampNeg) σ) (okO_iff.mp h4) rfl w1076 w1077 w1164 w1078 w123 k_Ls_share rfl (by decide) (by decide) rfl (Nat.le_of_ble_eq_true rfl) d_Ch_endRuns_46 (fun r7 σ8 => ?_)
    refine x_imul C d_Ch_endRuns_49 ?_
    refine x_iadd C d_Ch_endRuns_50 ?_
    refine x_gd (fun h9 => ?_)
    refine x_gd (fun h10 => ?_)
    refine x_astI C (okO_iff.mp h9) (inB_iff.mp h10) d_Ch_endRuns_51 ?_
    refine x_letS (fun σ11 e12 => ?_)
    refine x_iinc (v := v6I + (1 : Int32)) (lv' := [(6, .int (v6I + (1 : Int32))), (0, .ref v0R), (1, .ref v1R), (3, .int v3I), (4, .int v4I), (5, .int v5I)]) C d_Ch_endRuns_52 5 rfl rfl (by decide) rfl ?_
    refine x_goto (tgt := 22) C d_Ch_endRuns_55 (by decide) ?_
    refine x_lv [1, 2, 3, 4, 5, 0] rfl ?_
    exact IH.2 v0R v1R v3I v4I v5I (v6I + (1 : Int32)) (σ11)
  · exact x_vret C d_Ch_endRuns_58
theorem i_Ch_endRuns {G : GX} {p : Program} {l : Launch} {e : Env} {s : State} {m : MethodId} {args : Array Value} {below : List Frame} {meth : Method} {c : Code} {z0 u0 : Nat} (C : Cx G p s m args meth c prog_3_method_17_code 7 "BellPlate$Chooser" ((none))) (n : Nat) : I_Ch_endRuns G p l e s m args below meth c z0 u0 n := by
  induction n with
  | zero => exact ⟨fun _ _ _ _ _ _ _ => x_none, fun _ _ _ _ _ _ _ => x_none⟩
  | succ n IH => exact ⟨fun v0R v1R v2I v3I v4I v5I σ => s_Ch_endRuns_0 C IH v0R v1R v2I v3I v4I v5I σ, fun v0R v1R v3I v4I v5I v6I σ => s_Ch_endRuns_1 C IH v0R v1R v3I v4I v5I v6I σ⟩
theorem c_Ch_endRuns (G : GX) (l : Launch) (v0R : Nat) (v1R : Nat) (v2I : Int32) (v3I : Int32) (v4I : Int32) (v5I : Int32) (σ : AM) : CT eV G l 1 y_Ch_endRuns prog_3_method_17_code 7 (none) [.ref v0R, .ref v1R, .int v2I, .int v3I, .int v4I, .int v5I] σ (M_Ch_endRuns v0R v1R v2I v3I v4I v5I σ) := by
  refine ct_of (by decide +kernel) (Nat.le_of_ble_eq_true rfl) (fun p e s m args below meth c C hin => ?_)
  refine x_lve (lv' := [(0, .ref v0R), (1, .ref v1R), (2, .int v2I), (3, .int v3I), (4, .int v4I), (5, .int v5I)]) rfl ?_
  intro r σ' h
  obtain ⟨n, hn⟩ := (lp_iff _ _ _).mp h
  exact (i_Ch_endRuns C n).1 v0R v1R v2I v3I v4I v5I σ r σ' hn
/-! BellPlate$Chooser.tryAll(I)V -/
abbrev y_Ch_tryAll : MethodName := ⟨"BellPlate$Chooser", "tryAll", "(I)V"⟩
theorem k_Ch_tryAll : y_Ch_tryAll.cls ≠ "java/lang/invoke/MethodHandle" ∧ y_Ch_tryAll.cls ≠ "java/lang/invoke/VarHandle" ∧ (parseMethodDescriptor y_Ch_tryAll.desc).map (fun d => d.parameters.length) = some 1 := by decide +kernel
theorem d_Ch_tryAll_0 : decode prog_3_method_15_code 0 = .ok (.aload_n 0, 1) := by decide +kernel
theorem d_Ch_tryAll_1 : decode prog_3_method_15_code 1 = .ok (.getfield 49, 3) := by decide +kernel
theorem d_Ch_tryAll_4 : decode prog_3_method_15_code 4 = .ok (.iload_n 1, 1) := by decide +kernel
theorem d_Ch_tryAll_5 : decode prog_3_method_15_code 5 = .ok (.iaload, 1) := by decide +kernel
theorem d_Ch_tryAll_6 : decode prog_3_method_15_code 6 = .ok (.aload_n 0, 1) := by decide +kernel
theorem d_Ch_tryAll_7 : decode prog_3_method_15_code 7 = .ok (.getfield 19, 3) := by decide +kernel
theorem d_Ch_tryAll_10 : decode prog_3_method_15_code 10 = .ok (.invokevirtual 145, 3) := by decide +kernel
theorem d_Ch_tryAll_13 : decode prog_3_method_15_code 13 = .ok (.if_icmp .ne 4, 3) := by decide +kernel
theorem d_Ch_tryAll_16 : decode prog_3_method_15_code 16 = .ok (.return_, 1) := by decide +kernel
theorem d_Ch_tryAll_17 : decode prog_3_method_15_code 17 = .ok (.aload_n 0, 1) := by decide +kernel
theorem d_Ch_tryAll_18 : decode prog_3_method_15_code 18 = .ok (.getfield 49, 3) := by decide +kernel
theorem d_Ch_tryAll_21 : decode prog_3_method_15_code 21 = .ok (.iload_n 1, 1) := by decide +kernel
theorem d_Ch_tryAll_22 : decode prog_3_method_15_code 22 = .ok (.aload_n 0, 1) := by decide +kernel
theorem d_Ch_tryAll_23 : decode prog_3_method_15_code 23 = .ok (.getfield 19, 3) := by decide +kernel
theorem d_Ch_tryAll_26 : decode prog_3_method_15_code 26 = .ok (.invokevirtual 145, 3) := by decide +kernel
theorem d_Ch_tryAll_29 : decode prog_3_method_15_code 29 = .ok (.iastore, 1) := by decide +kernel
theorem d_Ch_tryAll_30 : decode prog_3_method_15_code 30 = .ok (.aload_n 0, 1) := by decide +kernel
theorem d_Ch_tryAll_31 : decode prog_3_method_15_code 31 = .ok (.getfield 43, 3) := by decide +kernel
theorem d_Ch_tryAll_34 : decode prog_3_method_15_code 34 = .ok (.iload_n 1, 1) := by decide +kernel
theorem d_Ch_tryAll_35 : decode prog_3_method_15_code 35 = .ok (.iconst 0, 1) := by decide +kernel
theorem d_Ch_tryAll_36 : decode prog_3_method_15_code 36 = .ok (.iastore, 1) := by decide +kernel
theorem d_Ch_tryAll_37 : decode prog_3_method_15_code 37 = .ok (.aload_n 0, 1) := by decide +kernel
theorem d_Ch_tryAll_38 : decode prog_3_method_15_code 38 = .ok (.getfield 46, 3) := by decide +kernel
theorem d_Ch_tryAll_41 : decode prog_3_method_15_code 41 = .ok (.iload_n 1, 1) := by decide +kernel
theorem d_Ch_tryAll_42 : decode prog_3_method_15_code 42 = .ok (.iconst 0, 1) := by decide +kernel
theorem d_Ch_tryAll_43 : decode prog_3_method_15_code 43 = .ok (.iastore, 1) := by decide +kernel
theorem d_Ch_tryAll_44 : decode prog_3_method_15_code 44 = .ok (.aload_n 0, 1) := by decide +kernel
theorem d_Ch_tryAll_45 : decode prog_3_method_15_code 45 = .ok (.invokevirtual 166, 3) := by decide +kernel
theorem d_Ch_tryAll_48 : decode prog_3_method_15_code 48 = .ok (.astore_n 2, 1) := by decide +kernel
theorem d_Ch_tryAll_49 : decode prog_3_method_15_code 49 = .ok (.aload_n 0, 1) := by decide +kernel
theorem d_Ch_tryAll_50 : decode prog_3_method_15_code 50 = .ok (.iconst 0, 1) := by decide +kernel
theorem d_Ch_tryAll_51 : decode prog_3_method_15_code 51 = .ok (.iconst 0, 1) := by decide +kernel
theorem d_Ch_tryAll_52 : decode prog_3_method_15_code 52 = .ok (.aload_n 0, 1) := by decide +kernel
theorem d_Ch_tryAll_53 : decode prog_3_method_15_code 53 = .ok (.getfield 23, 3) := by decide +kernel
theorem d_Ch_tryAll_56 : decode prog_3_method_15_code 56 = .ok (.invokevirtual 136, 3) := by decide +kernel
theorem d_Ch_tryAll_59 : decode prog_3_method_15_code 59 = .ok (.iconst 0, 1) := by decide +kernel
theorem d_Ch_tryAll_60 : decode prog_3_method_15_code 60 = .ok (.invokevirtual 176, 3) := by decide +kernel
theorem d_Ch_tryAll_63 : decode prog_3_method_15_code 63 = .ok (.istore_n 3, 1) := by decide +kernel
theorem d_Ch_tryAll_64 : decode prog_3_method_15_code 64 = .ok (.iconst 0, 1) := by decide +kernel
theorem d_Ch_tryAll_65 : decode prog_3_method_15_code 65 = .ok (.istore 4, 2) := by decide +kernel
theorem d_Ch_tryAll_67 : decode prog_3_method_15_code 67 = .ok (.iload 4, 2) := by decide +kernel
theorem d_Ch_tryAll_69 : decode prog_3_method_15_code 69 = .ok (.ldc 180, 2) := by decide +kernel
theorem d_Ch_tryAll_71 : decode prog_3_method_15_code 71 = .ok (.if_icmp .ge 133, 3) := by decide +kernel
theorem d_Ch_tryAll_74 : decode prog_3_method_15_code 74 = .ok (.iload_n 3, 1) := by decide +kernel
theorem d_Ch_tryAll_75 : decode prog_3_method_15_code 75 = .ok (.ifCond .le 129, 3) := by decide +kernel
theorem d_Ch_tryAll_78 : decode prog_3_method_15_code 78 = .ok (.iinc 3 (-1), 3) := by decide +kernel
theorem d_Ch_tryAll_81 : decode prog_3_method_15_code 81 = .ok (.aload_n 0, 1) := by decide +kernel
theorem d_Ch_tryAll_82 : decode prog_3_method_15_code 82 = .ok (.getfield 33, 3) := by decide +kernel
theorem d_Ch_tryAll_85 : decode prog_3_method_15_code 85 = .ok (.iload_n 3, 1) := by decide +kernel
theorem d_Ch_tryAll_86 : decode prog_3_method_15_code 86 = .ok (.iaload, 1) := by decide +kernel
theorem d_Ch_tryAll_87 : decode prog_3_method_15_code 87 = .ok (.istore 5, 2) := by decide +kernel
theorem d_Ch_tryAll_89 : decode prog_3_method_15_code 89 = .ok (.aload_n 0, 1) := by decide +kernel
theorem d_Ch_tryAll_90 : decode prog_3_method_15_code 90 = .ok (.getfield 37, 3) := by decide +kernel
theorem d_Ch_tryAll_93 : decode prog_3_method_15_code 93 = .ok (.iload_n 3, 1) := by decide +kernel
theorem d_Ch_tryAll_94 : decode prog_3_method_15_code 94 = .ok (.iaload, 1) := by decide +kernel
theorem d_Ch_tryAll_95 : decode prog_3_method_15_code 95 = .ok (.istore 6, 2) := by decide +kernel
theorem d_Ch_tryAll_97 : decode prog_3_method_15_code 97 = .ok (.aload_n 0, 1) := by decide +kernel
theorem d_Ch_tryAll_98 : decode prog_3_method_15_code 98 = .ok (.getfield 40, 3) := by decide +kernel
theorem d_Ch_tryAll_101 : decode prog_3_method_15_code 101 = .ok (.iload_n 3, 1) := by decide +kernel
theorem d_Ch_tryAll_102 : decode prog_3_method_15_code 102 = .ok (.iaload, 1) := by decide +kernel
theorem d_Ch_tryAll_103 : decode prog_3_method_15_code 103 = .ok (.istore 7, 2) := by decide +kernel
theorem d_Ch_tryAll_105 : decode prog_3_method_15_code 105 = .ok (.iconst (-1), 1) := by decide +kernel
theorem d_Ch_tryAll_106 : decode prog_3_method_15_code 106 = .ok (.istore 8, 2) := by decide +kernel
theorem d_Ch_tryAll_108 : decode prog_3_method_15_code 108 = .ok (.iload 6, 2) := by decide +kernel
theorem d_Ch_tryAll_110 : decode prog_3_method_15_code 110 = .ok (.iload 5, 2) := by decide +kernel
theorem d_Ch_tryAll_112 : decode prog_3_method_15_code 112 = .ok (.isub, 1) := by decide +kernel
theorem d_Ch_tryAll_113 : decode prog_3_method_15_code 113 = .ok (.iconst 1, 1) := by decide +kernel
theorem d_Ch_tryAll_114 : decode prog_3_method_15_code 114 = .ok (.if_icmp .le 22, 3) := by decide +kernel
theorem d_Ch_tryAll_117 : decode prog_3_method_15_code 117 = .ok (.iload 7, 2) := by decide +kernel
theorem d_Ch_tryAll_119 : decode prog_3_method_15_code 119 = .ok (.bipush 60, 2) := by decide +kernel
theorem d_Ch_tryAll_121 : decode prog_3_method_15_code 121 = .ok (.if_icmp .ge 15, 3) := by decide +kernel
theorem d_Ch_tryAll_124 : decode prog_3_method_15_code 124 = .ok (.aload_n 0, 1) := by decide +kernel
theorem d_Ch_tryAll_125 : decode prog_3_method_15_code 125 = .ok (.aload_n 2, 1) := by decide +kernel
theorem d_Ch_tryAll_126 : decode prog_3_method_15_code 126 = .ok (.iload 5, 2) := by decide +kernel
theorem d_Ch_tryAll_128 : decode prog_3_method_15_code 128 = .ok (.iload 6, 2) := by decide +kernel
theorem d_Ch_tryAll_130 : decode prog_3_method_15_code 130 = .ok (.iload_n 1, 1) := by decide +kernel
theorem d_Ch_tryAll_131 : decode prog_3_method_15_code 131 = .ok (.invokevirtual 169, 3) := by decide +kernel
theorem d_Ch_tryAll_134 : decode prog_3_method_15_code 134 = .ok (.istore 8, 2) := by decide +kernel
theorem d_Ch_tryAll_136 : decode prog_3_method_15_code 136 = .ok (.iload 8, 2) := by decide +kernel
theorem d_Ch_tryAll_138 : decode prog_3_method_15_code 138 = .ok (.iconst (-1), 1) := by decide +kernel
theorem d_Ch_tryAll_139 : decode prog_3_method_15_code 139 = .ok (.if_icmp .ne 18, 3) := by decide +kernel
theorem d_Ch_tryAll_142 : decode prog_3_method_15_code 142 = .ok (.aload_n 0, 1) := by decide +kernel
theorem d_Ch_tryAll_143 : decode prog_3_method_15_code 143 = .ok (.aload_n 2, 1) := by decide +kernel
theorem d_Ch_tryAll_144 : decode prog_3_method_15_code 144 = .ok (.iload 5, 2) := by decide +kernel
theorem d_Ch_tryAll_146 : decode prog_3_method_15_code 146 = .ok (.iload 6, 2) := by decide +kernel
theorem d_Ch_tryAll_148 : decode prog_3_method_15_code 148 = .ok (.iload 7, 2) := by decide +kernel
theorem d_Ch_tryAll_150 : decode prog_3_method_15_code 150 = .ok (.iload_n 1, 1) := by decide +kernel
theorem d_Ch_tryAll_151 : decode prog_3_method_15_code 151 = .ok (.invokevirtual 181, 3) := by decide +kernel
theorem d_Ch_tryAll_154 : decode prog_3_method_15_code 154 = .ok (.goto 44, 3) := by decide +kernel
theorem d_Ch_tryAll_157 : decode prog_3_method_15_code 157 = .ok (.aload_n 0, 1) := by decide +kernel
theorem d_Ch_tryAll_158 : decode prog_3_method_15_code 158 = .ok (.aload_n 2, 1) := by decide +kernel
theorem d_Ch_tryAll_159 : decode prog_3_method_15_code 159 = .ok (.iload 5, 2) := by decide +kernel
theorem d_Ch_tryAll_161 : decode prog_3_method_15_code 161 = .ok (.iload 6, 2) := by decide +kernel
theorem d_Ch_tryAll_163 : decode prog_3_method_15_code 163 = .ok (.iload 8, 2) := by decide +kernel
theorem d_Ch_tryAll_165 : decode prog_3_method_15_code 165 = .ok (.invokevirtual 173, 3) := by decide +kernel
theorem d_Ch_tryAll_168 : decode prog_3_method_15_code 168 = .ok (.istore 9, 2) := by decide +kernel
theorem d_Ch_tryAll_170 : decode prog_3_method_15_code 170 = .ok (.aload_n 0, 1) := by decide +kernel
theorem d_Ch_tryAll_171 : decode prog_3_method_15_code 171 = .ok (.iload_n 3, 1) := by decide +kernel
theorem d_Ch_tryAll_172 : decode prog_3_method_15_code 172 = .ok (.iload 5, 2) := by decide +kernel
theorem d_Ch_tryAll_174 : decode prog_3_method_15_code 174 = .ok (.iload 9, 2) := by decide +kernel
theorem d_Ch_tryAll_176 : decode prog_3_method_15_code 176 = .ok (.iload 7, 2) := by decide +kernel
theorem d_Ch_tryAll_178 : decode prog_3_method_15_code 178 = .ok (.iconst 1, 1) := by decide +kernel
theorem d_Ch_tryAll_179 : decode prog_3_method_15_code 179 = .ok (.iadd, 1) := by decide +kernel
theorem d_Ch_tryAll_180 : decode prog_3_method_15_code 180 = .ok (.invokevirtual 176, 3) := by decide +kernel
theorem d_Ch_tryAll_183 : decode prog_3_method_15_code 183 = .ok (.istore_n 3, 1) := by decide +kernel
theorem d_Ch_tryAll_184 : decode prog_3_method_15_code 184 = .ok (.aload_n 0, 1) := by decide +kernel
theorem d_Ch_tryAll_185 : decode prog_3_method_15_code 185 = .ok (.iload_n 3, 1) := by decide +kernel
theorem d_Ch_tryAll_186 : decode prog_3_method_15_code 186 = .ok (.iload 9, 2) := by decide +kernel
theorem d_Ch_tryAll_188 : decode prog_3_method_15_code 188 = .ok (.iload 6, 2) := by decide +kernel
theorem d_Ch_tryAll_190 : decode prog_3_method_15_code 190 = .ok (.iload 7, 2) := by decide +kernel
theorem d_Ch_tryAll_192 : decode prog_3_method_15_code 192 = .ok (.iconst 1, 1) := by decide +kernel
theorem d_Ch_tryAll_193 : decode prog_3_method_15_code 193 = .ok (.iadd, 1) := by decide +kernel
theorem d_Ch_tryAll_194 : decode prog_3_method_15_code 194 = .ok (.invokevirtual 176, 3) := by decide +kernel
theorem d_Ch_tryAll_197 : decode prog_3_method_15_code 197 = .ok (.istore_n 3, 1) := by decide +kernel
theorem d_Ch_tryAll_198 : decode prog_3_method_15_code 198 = .ok (.iinc 4 1, 3) := by decide +kernel
theorem d_Ch_tryAll_201 : decode prog_3_method_15_code 201 = .ok (.goto (-134), 3) := by decide +kernel
theorem d_Ch_tryAll_204 : decode prog_3_method_15_code 204 = .ok (.return_, 1) := by decide +kernel
abbrev S_Ch_tryAll : Type := Nat × Nat × Int32 × Nat × Int32 × Int32 × Int32 × Int32 × Int32 × Int32 × AM
noncomputable def T_Ch_tryAll_0 (v0R : Nat) (v1I : Int32) (σ : AM) : S_Ch_tryAll ⊕ Option (Unit × AM) :=
  gdT (okO σ v0R 6) <| gdT (okO σ (aR σ v0R 11) 101) <| gdT (inB v1I (aN σ (aR σ v0R 11))) <| gdT (okO σ (aR σ v0R 2) 4) <| bndT (M_Bk_age (aR σ v0R 2) σ) fun r5 σ6 => if (aI σ (aR σ v0R 11) v1I.toNatClampNeg) = r5 then (.inr (some ((), σ6))) else (gdT (okO σ6 v0R 6) <| gdT (okO σ6 (aR σ6 v0R 11) 101) <| gdT (okO σ6 (aR σ6 v0R 2) 4) <| bndT (M_Bk_age (aR σ6 v0R 2) σ6) fun r10 σ11 => gdT (okO σ11 (aR σ6 v0R 11) 101) <| gdT (inB v1I (aN σ11 (aR σ6 v0R 11))) <| letT (sI σ11 (aR σ6 v0R 11) v1I.toNatClampNeg r10) fun σ14 => gdT (okO σ14 v0R 6) <| gdT (okO σ14 (aR σ14 v0R 9) 101) <| gdT (inB v1I (aN σ14 (aR σ14 v0R 9))) <| letT (sI σ14 (aR σ14 v0R 9) v1I.toNatClampNeg (0 : Int32)) fun σ19 => gdT (okO σ19 (aR σ19 v0R 10) 101) <| gdT (inB v1I (aN σ19 (aR σ19 v0R 10))) <| letT (sI σ19 (aR σ19 v0R 10) v1I.toNatClampNeg (0 : Int32)) fun σ23 => bndT (M_Ch_copyOfRest v0R σ23) fun r25 σ26 => gdT (okO σ26 v0R 6) <| gdT (okO σ26 (aR σ26 v0R 3) 5) <| bndT (M_Rs_size (aR σ26 v0R 3) σ26) fun r29 σ30 => gdT (okO σ30 v0R 6) <| bndT (M_Ch_put v0R (0 : Int32) (0 : Int32) r29 (0 : Int32) σ30) fun r31 σ32 => .inl (1, v0R, v1I, r25, r31, (0 : Int32), 0, 0, 0, 0, σ32))
noncomputable def T_Ch_tryAll_1 (v0R : Nat) (v1I : Int32) (v2R : Nat) (v3I : Int32) (v4I : Int32) (σ : AM) : S_Ch_tryAll ⊕ Option (Unit × AM) :=
  if v4I < (40000 : Int32) then (if 0 < v3I then (gdT (okO σ v0R 6) <| gdT (okO σ (aR σ v0R 6) 101) <| gdT (inB (v3I + ((-1) : Int32)) (aN σ (aR σ v0R 6))) <| letT (aI σ (aR σ v0R 6) (v3I + ((-1) : Int32)).toNatClampNeg) fun x4 => gdT (okO σ (aR σ v0R 7) 101) <| gdT (inB (v3I + ((-1) : Int32)) (aN σ (aR σ v0R 7))) <| letT (aI σ (aR σ v0R 7) (v3I + ((-1) : Int32)).toNatClampNeg) fun x7 => gdT (okO σ (aR σ v0R 8) 101) <| gdT (inB (v3I + ((-1) : Int32)) (aN σ (aR σ v0R 8))) <| letT (aI σ (aR σ v0R 8) (v3I + ((-1) : Int32)).toNatClampNeg) fun x10 => if (1 : Int32) < (x7 - x4) then (if x10 < (60 : Int32) then (bndT (M_Ch_pick v0R v2R x4 x7 v1I σ) fun r11 σ12 => .inl (2, v0R, v1I, v2R, v3I + ((-1) : Int32), v4I, x4, x7, x10, r11, σ12)) else (.inl (2, v0R, v1I, v2R, v3I + ((-1) : Int32), v4I, x4, x7, x10, ((-1) : Int32), σ))) else (.inl (2, v0R, v1I, v2R, v3I + ((-1) : Int32), v4I, x4, x7, x10, ((-1) : Int32), σ))) else (.inl (4, 0, 0, 0, 0, 0, 0, 0, 0, 0, σ))) else (.inl (4, 0, 0, 0, 0, 0, 0, 0, 0, 0, σ))
noncomputable def T_Ch_tryAll_2 (v0R : Nat) (v1I : Int32) (v2R : Nat) (v3I : Int32) (v4I : Int32) (v5I : Int32) (v6I : Int32) (v7I : Int32) (v8I : Int32) (σ : AM) : S_Ch_tryAll ⊕ Option (Unit × AM) :=
  if v8I = ((-1) : Int32) then (gdT (okO σ v0R 6) <| bndT (M_Ch_endRuns v0R v2R v5I v6I v7I v1I σ) fun _ σ2 => .inl (3, v0R, v1I, v2R, v3I, v4I, 0, 0, 0, 0, σ2)) else (gdT (okO σ v0R 6) <| bndT (M_Ch_partRow v0R v2R v5I v6I v8I σ) fun r4 σ5 => gdT (okO σ5 v0R 6) <| bndT (M_Ch_put v0R v3I v5I r4 (v7I + (1 : Int32)) σ5) fun r7 σ8 => gdT (okO σ8 v0R 6) <| bndT (M_Ch_put v0R r7 r4 v6I (v7I + (1 : Int32)) σ8) fun r10 σ11 => .inl (3, v0R, v1I, v2R, r10, v4I, 0, 0, 0, 0, σ11))
noncomputable def T_Ch_tryAll_3 (v0R : Nat) (v1I : Int32) (v2R : Nat) (v3I : Int32) (v4I : Int32) (σ : AM) : S_Ch_tryAll ⊕ Option (Unit × AM) :=
  .inl (1, v0R, v1I, v2R, v3I, v4I + (1 : Int32), 0, 0, 0, 0, σ)
noncomputable def T_Ch_tryAll_4  (σ : AM) : S_Ch_tryAll ⊕ Option (Unit × AM) :=
  .inr (some ((), σ))
noncomputable def F_Ch_tryAll : S_Ch_tryAll → S_Ch_tryAll ⊕ Option (Unit × AM) := fun s => match s.1 with
  | 0 => T_Ch_tryAll_0 (s.2.1) (s.2.2.1) (s.2.2.2.2.2.2.2.2.2.2)
  | 1 => T_Ch_tryAll_1 (s.2.1) (s.2.2.1) (s.2.2.2.1) (s.2.2.2.2.1) (s.2.2.2.2.2.1) (s.2.2.2.2.2.2.2.2.2.2)
  | 2 => T_Ch_tryAll_2 (s.2.1) (s.2.2.1) (s.2.2.2.1) (s.2.2.2.2.1) (s.2.2.2.2.2.1) (s.2.2.2.2.2.2.1) (s.2.2.2.2.2.2.2.1) (s.2.2.2.2.2.2.2.2.1) (s.2.2.2.2.2.2.2.2.2.1) (s.2.2.2.2.2.2.2.2.2.2)
  | 3 => T_Ch_tryAll_3 (s.2.1) (s.2.2.1) (s.2.2.2.1) (s.2.2.2.2.1) (s.2.2.2.2.2.1) (s.2.2.2.2.2.2.2.2.2.2)
  | _ => T_Ch_tryAll_4  (s.2.2.2.2.2.2.2.2.2.2)
noncomputable def L_Ch_tryAll_0 (v0R : Nat) (v1I : Int32) (σ : AM) : Option (Unit × AM) := lp F_Ch_tryAll (0, v0R, v1I, 0, 0, 0, 0, 0, 0, 0, σ)
noncomputable def L_Ch_tryAll_1 (v0R : Nat) (v1I : Int32) (v2R : Nat) (v3I : Int32) (v4I : Int32) (σ : AM) : Option (Unit × AM) := lp F_Ch_tryAll (1, v0R, v1I, v2R, v3I, v4I, 0, 0, 0, 0, σ)
noncomputable def L_Ch_tryAll_2 (v0R : Nat) (v1I : Int32) (v2R : Nat) (v3I : Int32) (v4I : Int32) (v5I : Int32) (v6I : Int32) (v7I : Int32) (v8I : Int32) (σ : AM) : Option (Unit × AM) := lp F_Ch_tryAll (2, v0R, v1I, v2R, v3I, v4I, v5I, v6I, v7I, v8I, σ)
noncomputable def L_Ch_tryAll_3 (v0R : Nat) (v1I : Int32) (v2R : Nat) (v3I : Int32) (v4I : Int32) (σ : AM) : Option (Unit × AM) := lp F_Ch_tryAll (3, v0R, v1I, v2R, v3I, v4I, 0, 0, 0, 0, σ)
noncomputable def L_Ch_tryAll_4  (σ : AM) : Option (Unit × AM) := lp F_Ch_tryAll (4, 0, 0, 0, 0, 0, 0, 0, 0, 0, σ)
set_option maxRecDepth 20000 in
theorem E_Ch_tryAll_0 (v0R : Nat) (v1I : Int32) (σ : AM) : L_Ch_tryAll_0 v0R v1I σ = (gd (okO σ v0R 6) <| gd (okO σ (aR σ v0R 11) 101) <| gd (inB v1I (aN σ (aR σ v0R 11))) <| gd (okO σ (aR σ v0R 2) 4) <| bnd (M_Bk_age (aR σ v0R 2) σ) fun r5 σ6 => if (aI σ (aR σ v0R 11) v1I.toNatClampNeg) = r5 then ((some ((), σ6))) else (gd (okO σ6 v0R 6) <| gd (okO σ6 (aR σ6 v0R 11) 101) <| gd (okO σ6 (aR σ6 v0R 2) 4) <| bnd (M_Bk_age (aR σ6 v0R 2) σ6) fun r10 σ11 => gd (okO σ11 (aR σ6 v0R 11) 101) <| gd (inB v1I (aN σ11 (aR σ6 v0R 11))) <| letT (sI σ11 (aR σ6 v0R 11) v1I.toNatClampNeg r10) fun σ14 => gd (okO σ14 v0R 6) <| gd (okO σ14 (aR σ14 v0R 9) 101) <| gd (inB v1I (aN σ14 (aR σ14 v0R 9))) <| letT (sI σ14 (aR σ14 v0R 9) v1I.toNatClampNeg (0 : Int32)) fun σ19 => gd (okO σ19 (aR σ19 v0R 10) 101) <| gd (inB v1I (aN σ19 (aR σ19 v0R 10))) <| letT (sI σ19 (aR σ19 v0R 10) v1I.toNatClampNeg (0 : Int32)) fun σ23 => bnd (M_Ch_copyOfRest v0R σ23) fun r25 σ26 => gd (okO σ26 v0R 6) <| gd (okO σ26 (aR σ26 v0R 3) 5) <| bnd (M_Rs_size (aR σ26 v0R 3) σ26) fun r29 σ30 => gd (okO σ30 v0R 6) <| bnd (M_Ch_put v0R (0 : Int32) (0 : Int32) r29 (0 : Int32) σ30) fun r31 σ32 => L_Ch_tryAll_1 v0R v1I r25 r31 ((0 : Int32)) σ32)) := by
  unfold L_Ch_tryAll_0
  rw [lp_eq]
  show lpK (lp F_Ch_tryAll) (T_Ch_tryAll_0 v0R v1I σ) = _
  unfold T_Ch_tryAll_0
  simp only [lpK_ite, lq_inl, lq_inr, lpK_bnd, lpK_gd, lq_let]
  try rfl
set_option maxRecDepth 20000 in
theorem E_Ch_tryAll_1 (v0R : Nat) (v1I : Int32) (v2R : Nat) (v3I : Int32) (v4I : Int32) (σ : AM) : L_Ch_tryAll_1 v0R v1I v2R v3I v4I σ = (if v4I < (40000 : Int32) then (if 0 < v3I then (gd (okO σ v0R 6) <| gd (okO σ (aR σ v0R 6) 101) <| gd (inB (v3I + ((-1) : Int32)) (aN σ (aR σ v0R 6))) <| letT (aI σ (aR σ v0R 6) (v3I + ((-1) : Int32)).toNatClampNeg) fun x4 => gd (okO σ (aR σ v0R 7) 101) <| gd (inB (v3I + ((-1) : Int32)) (aN σ (aR σ v0R 7))) <| letT (aI σ (aR σ v0R 7) (v3I + ((-1) : Int32)).toNatClampNeg) fun x7 => gd (okO σ (aR σ v0R 8) 101) <| gd (inB (v3I + ((-1) : Int32)) (aN σ (aR σ v0R 8))) <| letT (aI σ (aR σ v0R 8) (v3I + ((-1) : Int32)).toNatClampNeg) fun x10 => if (1 : Int32) < (x7 - x4) then (if x10 < (60 : Int32) then (bnd (M_Ch_pick v0R v2R x4 x7 v1I σ) fun r11 σ12 => L_Ch_tryAll_2 v0R v1I v2R (v3I + ((-1) : Int32)) v4I x4 x7 x10 r11 σ12) else (L_Ch_tryAll_2 v0R v1I v2R (v3I + ((-1) : Int32)) v4I x4 x7 x10 (((-1) : Int32)) σ)) else (L_Ch_tryAll_2 v0R v1I v2R (v3I + ((-1) : Int32)) v4I x4 x7 x10 (((-1) : Int32)) σ)) else (L_Ch_tryAll_4 σ)) else (L_Ch_tryAll_4 σ)) := by
  unfold L_Ch_tryAll_1
  rw [lp_eq]
  show lpK (lp F_Ch_tryAll) (T_Ch_tryAll_1 v0R v1I v2R v3I v4I σ) = _
  unfold T_Ch_tryAll_1
  simp only [lpK_ite, lq_inl, lq_inr, lpK_bnd, lpK_gd, lq_let]
  try rfl
set_option maxRecDepth 20000 in
theorem E_Ch_tryAll_2 (v0R : Nat) (v1I : Int32) (v2R : Nat) (v3I : Int32) (v4I : Int32) (v5I : Int32) (v6I : Int32) (v7I : Int32) (v8I : Int32) (σ : AM) : L_Ch_tryAll_2 v0R v1I v2R v3I v4I v5I v6I v7I v8I σ = (if v8I = ((-1) : Int32) then (gd (okO σ v0R 6) <| bnd (M_Ch_endRuns v0R v2R v5I v6I v7I v1I σ) fun _ σ2 => L_Ch_tryAll_3 v0R v1I v2R v3I v4I σ2) else (gd (okO σ v0R 6) <| bnd (M_Ch_partRow v0R v2R v5I v6I v8I σ) fun r4 σ5 => gd (okO σ5 v0R 6) <| bnd (M_Ch_put v0R v3I v5I r4 (v7I + (1 : Int32)) σ5) fun r7 σ8 => gd (okO σ8 v0R 6) <| bnd (M_Ch_put v0R r7 r4 v6I (v7I + (1 : Int32)) σ8) fun r10 σ11 => L_Ch_tryAll_3 v0R v1I v2R r10 v4I σ11)) := by
  unfold L_Ch_tryAll_2
  rw [lp_eq]
  show lpK (lp F_Ch_tryAll) (T_Ch_tryAll_2 v0R v1I v2R v3I v4I v5I v6I v7I v8I σ) = _
  unfold T_Ch_tryAll_2
  simp only [lpK_ite, lq_inl, lq_inr, lpK_bnd, lpK_gd, lq_let]
  try rfl
set_option maxRecDepth 20000 in
theorem E_Ch_tryAll_3 (v0R : Nat) (v1I : Int32) (v2R : Nat) (v3I : Int32) (v4I : Int32) (σ : AM) : L_Ch_tryAll_3 v0R v1I v2R v3I v4I σ = (L_Ch_tryAll_1 v0R v1I v2R v3I (v4I + (1 : Int32)) σ) := by
  unfold L_Ch_tryAll_3
  rw [lp_eq]
  show lpK (lp F_Ch_tryAll) (T_Ch_tryAll_3 v0R v1I v2R v3I v4I σ) = _
  unfold T_Ch_tryAll_3
  simp only [lpK_ite, lq_inl, lq_inr, lpK_bnd, lpK_gd, lq_let]
  try rfl
set_option maxRecDepth 20000 in
theorem E_Ch_tryAll_4  (σ : AM) : L_Ch_tryAll_4  σ = ((some ((), σ))) := by
  unfold L_Ch_tryAll_4
  rw [lp_eq]
  show lpK (lp F_Ch_tryAll) (T_Ch_tryAll_4  σ) = _
  unfold T_Ch_tryAll_4
  simp only [lpK_ite, lq_inl, lq_inr, lpK_bnd, lpK_gd, lq_let]
  try rfl
noncomputable def M_Ch_tryAll (v0R : Nat) (v1I : Int32) (σ : AM) : Option (Unit × AM) := mw σ (L_Ch_tryAll_0 v0R v1I σ)
def I_Ch_tryAll (G : GX) (p : Program) (l : Launch) (e : Env) (s : State) (m : MethodId) (args : Array Value) (below : List Frame) (meth : Method) (c : Code) (z0 u0 n : Nat) : Prop :=
  (∀ (v0R : Nat) (v1I : Int32) (σ : AM), VX (QM eV G args s below z0 u0) G p l e s m args below meth c 5 z0 u0 10 (lpn F_Ch_tryAll n (0, v0R, v1I, 0, 0, 0, 0, 0, 0, 0, σ)) 0 [(0, .ref v0R), (1, .int v1I)] [] σ) ∧
  (∀ (v0R : Nat) (v1I : Int32) (v2R : Nat) (v3I : Int32) (v4I : Int32) (σ : AM), VX (QM eV G args s below z0 u0) G p l e s m args below meth c 5 z0 u0 10 (lpn F_Ch_tryAll n (1, v0R, v1I, v2R, v3I, v4I, 0, 0, 0, 0, σ)) 67 [(0, .ref v0R), (1, .int v1I), (2, .ref v2R), (3, .int v3I), (4, .int v4I)] [] σ) ∧
  (∀ (v0R : Nat) (v1I : Int32) (v2R : Nat) (v3I : Int32) (v4I : Int32) (v5I : Int32) (v6I : Int32) (v7I : Int32) (v8I : Int32) (σ : AM), VX (QM eV G args s below z0 u0) G p l e s m args below meth c 5 z0 u0 10 (lpn F_Ch_tryAll n (2, v0R, v1I, v2R, v3I, v4I, v5I, v6I, v7I, v8I, σ)) 136 [(0, .ref v0R), (1, .int v1I), (2, .ref v2R), (3, .int v3I), (4, .int v4I), (5, .int v5I), (6, .int v6I), (7, .int v7I), (8, .int v8I)] [] σ) ∧
  (∀ (v0R : Nat) (v1I : Int32) (v2R : Nat) (v3I : Int32) (v4I : Int32) (σ : AM), VX (QM eV G args s below z0 u0) G p l e s m args below meth c 5 z0 u0 10 (lpn F_Ch_tryAll n (3, v0R, v1I, v2R, v3I, v4I, 0, 0, 0, 0, σ)) 198 [(0, .ref v0R), (1, .int v1I), (2, .ref v2R), (3, .int v3I), (4, .int v4I)] [] σ) ∧
  (∀ (σ : AM), VX (QM eV G args s below z0 u0) G p l e s m args below meth c 5 z0 u0 10 (lpn F_Ch_tryAll n (4, 0, 0, 0, 0, 0, 0, 0, 0, 0, σ)) 204 [] [] σ)
set_option maxRecDepth 20000 in
theorem s_Ch_tryAll_0 {G : GX} {p : Program} {l : Launch} {e : Env} {s : State} {m : MethodId} {args : Array Value} {below : List Frame} {meth : Method} {c : Code} {z0 u0 n : Nat} (C : Cx G p s m args meth c prog_3_method_15_code 10 "BellPlate$Chooser" ((none))) (IH : I_Ch_tryAll G p l e s m args below meth c z0 u0 n) (v0R : Nat) (v1I : Int32) (σ : AM) : VX (QM eV G args s below z0 u0) G p l e s m args below meth c 5 z0 u0 10 (lpK (lpn F_Ch_tryAll n) (T_Ch_tryAll_0 v0R v1I σ)) 0 [(0, .ref v0R), (1, .int v1I)] [] σ := by
  unfold T_Ch_tryAll_0
  refine x_aload_n C d_Ch_tryAll_0 0 rfl ?_
  refine x_gd (fun h1 => ?_)
  refine x_gd (fun h2 => ?_)
  refine x_getR (k := 11) (kv := 101) C (okO_iff.mp h1) rfl j5_ok (by decide) rfl (okO_iff.mp h2) (by decide) w390 d_Ch_tryAll_1 ?_
  refine x_iload_n C d_Ch_tryAll_4 1 rfl ?_
  refine x_gd (fun h3 => ?_)
  refine x_aldI C (okO_iff.mp h2) (inB_iff.mp h3) d_Ch_tryAll_5 ?_
  refine x_aload_n C d_Ch_tryAll_6 0 rfl ?_
  refine x_gd (fun h4 => ?_)
  refine x_getR (k := 2) (kv := 4) C (okO_iff.mp h1) rfl j5_ok (by decide) rfl (okO_iff.mp h4) (by decide) w381 d_Ch_tryAll_7 ?_
  refine x_callVI (As := []) C (c_Bk_age G l (aR σ v0R 2)  σ) (okO_iff.mp h4) rfl w1039 w1040 w1263 w1041 w124 k_Bk_age rfl (by decide) (by decide) rfl (Nat.le_of_ble_eq_true rfl) d_Ch_tryAll_10 (fun r5 σ6 => ?_)
  refine x_icmp_ne (tgt := 17) C d_Ch_tryAll_13 (by decide) (fun _ => ?_) (fun _ => ?_)
  · exact x_vret C d_Ch_tryAll_16
  · refine x_aload_n C d_Ch_tryAll_17 0 rfl ?_
    refine x_gd (fun h7 => ?_)
    refine x_gd (fun h8 => ?_)
    refine x_getR (k := 11) (kv := 101) C (okO_iff.mp h7) rfl j5_ok (by decide) rfl (okO_iff.mp h8) (by decide) w390 d_Ch_tryAll_18 ?_
    refine x_iload_n C d_Ch_tryAll_21 1 rfl ?_
    refine x_aload_n C d_Ch_tryAll_22 0 rfl ?_
    refine x_gd (fun h9 => ?_)
    refine x_getR (k := 2) (kv := 4) C (okO_iff.mp h7) rfl j5_ok (by decide) rfl (okO_iff.mp h9) (by decide) w381 d_Ch_tryAll_23 ?_
    refine x_callVI (As := []) C (c_Bk_age G l (aR σ6 v0R 2)  σ6) (okO_iff.mp h9) rfl w1039 w1040 w1263 w1041 w124 k_Bk_age rfl (by decide) (by decide) rfl (Nat.le_of_ble_eq_true rfl) d_Ch_tryAll_26 (fun r10 σ11 => ?_)
    refine x_gd (fun h12 => ?_)
    refine x_gd (fun h13 => ?_)
    refine x_astI C (okO_iff.mp h12) (inB_iff.mp h13) d_Ch_tryAll_29 ?_
    refine x_letS (fun σ14 e15 => ?_)
    refine x_aload_n C d_Ch_tryAll_30 0 rfl ?_
    refine x_gd (fun h16 => ?_)
    refine x_gd (fun h17 => ?_)
    refine x_getR (k := 9) (kv := 101) C (okO_iff.mp h16) rfl j5_ok (by decide) rfl (okO_iff.mp h17) (by decide) w388 d_Ch_tryAll_31 ?_
    refine x_iload_n C d_Ch_tryAll_34 1 rfl ?_
    refine x_iconst (v := (0 : Int32)) C d_Ch_tryAll_35 (by decide) ?_
    refine x_gd (fun h18 => ?_)
    refine x_astI C (okO_iff.mp h17) (inB_iff.mp h18) d_Ch_tryAll_36 ?_
    refine x_letS (fun σ19 e20 => ?_)
    refine x_aload_n C d_Ch_tryAll_37 0 rfl ?_
    refine x_gd (fun h21 => ?_)
    refine x_getR (k := 10) (kv := 101) C (by first | exact (okO_iff.mp h16) | (rw [e20]; exact (okO_iff.mp h16))) rfl j5_ok (by decide) rfl (okO_iff.mp h21) (by decide) w389 d_Ch_tryAll_38 ?_
    refine x_iload_n C d_Ch_tryAll_41 1 rfl ?_
    refine x_iconst (v := (0 : Int32)) C d_Ch_tryAll_42 (by decide) ?_
    refine x_gd (fun h22 => ?_)
    refine x_astI C (okO_iff.mp h21) (inB_iff.mp h22) d_Ch_tryAll_43 ?_
    refine x_letS (fun σ23 e24 => ?_)
    refine x_aload_n C d_Ch_tryAll_44 0 rfl ?_
    refine x_callVR (As := []) C (c_Ch_copyOfRest G l v0R  σ23) (by first | exact (okO_iff.mp h16) | (rw [e24, e20]; exact (okO_iff.mp h16))) rfl w1267 w35 w1265 w1268 w126 k_Ch_copyOfRest rfl (by decide) (by decide) rfl (Nat.le_of_ble_eq_true rfl) d_Ch_tryAll_45 (fun r25 σ26 => ?_)
    refine x_astore_n (lv' := [(2, .ref r25), (0, .ref v0R), (1, .int v1I)]) C d_Ch_tryAll_48 (by decide) rfl rfl ?_
    refine x_aload_n C d_Ch_tryAll_49 1 rfl ?_
    refine x_iconst (v := (0 : Int32)) C d_Ch_tryAll_50 (by decide) ?_
    refine x_iconst (v := (0 : Int32)) C d_Ch_tryAll_51 (by decide) ?_
    refine x_aload_n C d_Ch_tryAll_52 1 rfl ?_
    refine x_gd (fun h27 => ?_)
    refine x_gd (fun h28 => ?_)
    refine x_getR (k := 3) (kv := 5) C (okO_iff.mp h27) rfl j5_ok (by decide) rfl (okO_iff.mp h28) (by decide) w382 d_Ch_tryAll_53 ?_
    refine x_callVI (As := []) C (c_Rs_size G l (aR σ26 v0R 3)  σ26) (okO_iff.mp h28) rfl w1084 w1085 w1274 w1086 w125 k_Rs_size rfl (by decide) (by decide) rfl (Nat.le_of_ble_eq_true rfl) d_Ch_tryAll_56 (fun r29 σ30 => ?_)
    refine x_iconst (v := (0 : Int32)) C d_Ch_tryAll_59 (by decide) ?_
    refine x_gd (fun h33 => ?_)
    refine x_callVI (As := [.int (0 : Int32), .int (0 : Int32), .int r29, .int (0 : Int32)]) C (c_Ch_put G l v0R (0 : Int32) (0 : Int32) r29 (0 : Int32) σ30) (okO_iff.mp h33) rfl w1295 w37 w1293 w1296 w126 k_Ch_put rfl (by decide) (by decide) rfl (Nat.le_of_ble_eq_true rfl) d_Ch_tryAll_60 (fun r31 σ32 => ?_)
    refine x_istore_n (lv' := [(3, .int r31), (2, .ref r25), (0, .ref v0R), (1, .int v1I)]) C d_Ch_tryAll_63 (by decide) rfl rfl ?_
    refine x_iconst (v := (0 : Int32)) C d_Ch_tryAll_64 (by decide) ?_
    refine x_istore (lv' := [(4, .int (0 : Int32)), (3, .int r31), (2, .ref r25), (0, .ref v0R), (1, .int v1I)]) C d_Ch_tryAll_65 (by decide) rfl ?_
    refine x_lv [3, 4, 2, 1, 0] rfl ?_
    exact IH.2.1 v0R v1I r25 r31 ((0 : Int32)) (σ32)
set_option maxRecDepth 20000 in
theorem s_Ch_tryAll_1 {G : GX} {p : Program} {l : Launch} {e : Env} {s : State} {m : MethodId} {args : Array Value} {below : List Frame} {meth : Method} {c : Code} {z0 u0 n : Nat} (C : Cx G p s m args meth c prog_3_method_15_code 10 "BellPlate$Chooser" ((none))) (IH : I_Ch_tryAll G p l e s m args below meth c z0 u0 n) (v0R : Nat) (v1I : Int32) (v2R : Nat) (v3I : Int32) (v4I : Int32) (σ : AM) : VX (QM eV G args s below z0 u0) G p l e s m args below meth c 5 z0 u0 10 (lpK (lpn F_Ch_tryAll n) (T_Ch_tryAll_1 v0R v1I v2R v3I v4I σ)) 67 [(0, .ref v0R), (1, .int v1I), (2, .ref v2R), (3, .int v3I), (4, .int v4I)] [] σ := by
  unfold T_Ch_tryAll_1
  refine x_iload C d_Ch_tryAll_67 4 rfl ?_
  refine x_ldc C d_Ch_tryAll_69 w1297 ?_
  refine x_icmp_ge (tgt := 204) C d_Ch_tryAll_71 (by decide) (fun _ => ?_) (fun _ => ?_)
  · refine x_iload_n C d_Ch_tryAll_74 3 rfl ?_
    refine x_if_le (tgt := 204) C d_Ch_tryAll_75 (by decide) (fun _ => ?_) (fun _ => ?_)
    · refine x_iinc (v := v3I + ((-1) : Int32)) (lv' := [(3, .int (v3I + ((-1) : Int32))), (0, .ref v0R), (1, .int v1I), (2, .ref v2R), (4, .int v4I)]) C d_Ch_tryAll_78 3 rfl rfl (by decide) rfl ?_
      refine x_aload_n C d_Ch_tryAll_81 1 rfl ?_
      refine x_gd (fun h1 => ?_)
      refine x_gd (fun h2 => ?_)
      refine x_getR (k := 6) (kv := 101) C (okO_iff.mp h1) rfl j5_ok (by decide) rfl (okO_iff.mp h2) (by decide) w385 d_Ch_tryAll_82 ?_
      refine x_iload_n C d_Ch_tryAll_85 0 rfl ?_
      refine x_gd (fun h3 => ?_)
      refine x_aldI C (okO_iff.mp h2) (inB_iff.mp h3) d_Ch_tryAll_86 ?_
      refine x_letI (fun x4 _ => ?_)
      refine x_istore (lv' := [(5, .int x4), (3, .int (v3I + ((-1) : Int32))), (0, .ref v0R), (1, .int v1I), (2, .ref v2R), (4, .int v4I)]) C d_Ch_tryAll_87 (by decide) rfl ?_
      refine x_aload_n C d_Ch_tryAll_89 2 rfl ?_
      refine x_gd (fun h5 => ?_)
      refine x_getR (k := 7) (kv := 101) C (okO_iff.mp h1) rfl j5_ok (by decide) rfl (okO_iff.mp h5) (by decide) w386 d_Ch_tryAll_90 ?_
      refine x_iload_n C d_Ch_tryAll_93 1 rfl ?_
      refine x_gd (fun h6 => ?_)
      refine x_aldI C (okO_iff.mp h5) (inB_iff.mp h6) d_Ch_tryAll_94 ?_
      refine x_letI (fun x7 _ => ?_)
      refine x_istore (lv' := [(6, .int x7), (5, .int x4), (3, .int (v3I + ((-1) : Int32))), (0, .ref v0R), (1, .int v1I), (2, .ref v2R), (4, .int v4I)]) C d_Ch_tryAll_95 (by decide) rfl ?_
      refine x_aload_n C d_Ch_tryAll_97 3 rfl ?_
      refine x_gd (fun h8 => ?_)
      refine x_getR (k := 8) (kv := 101) C (okO_iff.mp h1) rfl j5_ok (by decide) rfl (okO_iff.mp h8) (by decide) w387 d_Ch_tryAll_98 ?_
      refine x_iload_n C d_Ch_tryAll_101 2 rfl ?_
      refine x_gd (fun h9 => ?_)
      refine x_aldI C (okO_iff.mp h8) (inB_iff.mp h9) d_Ch_tryAll_102 ?_
      refine x_letI (fun x10 _ => ?_)
      refine x_istore (lv' := [(7, .int x10), (6, .int x7), (5, .int x4), (3, .int (v3I + ((-1) : Int32))), (0, .ref v0R), (1, .int v1I), (2, .ref v2R), (4, .int v4I)]) C d_Ch_tryAll_103 (by decide) rfl ?_
      refine x_iconst (v := ((-1) : Int32)) C d_Ch_tryAll_105 (by decide) ?_
      refine x_istore (lv' := [(8, .int ((-1) : Int32)), (7, .int x10), (6, .int x7), (5, .int x4), (3, .int (v3I + ((-1) : Int32))), (0, .ref v0R), (1, .int v1I), (2, .ref v2R), (4, .int v4I)]) C d_Ch_tryAll_106 (by decide) rfl ?_
      refine x_iload C d_Ch_tryAll_108 2 rfl ?_
      refine x_iload C d_Ch_tryAll_110 3 rfl ?_
      refine x_isub C d_Ch_tryAll_112 ?_
      refine x_iconst (v := (1 : Int32)) C d_Ch_tryAll_113 (by decide) ?_
      refine x_icmp_le (tgt := 136) C d_Ch_tryAll_114 (by decide) (fun _ => ?_) (fun _ => ?_)
      · refine x_iload C d_Ch_tryAll_117 1 rfl ?_
        refine x_bipush (v := (60 : Int32)) C d_Ch_tryAll_119 (by decide) ?_
        refine x_icmp_ge (tgt := 136) C d_Ch_tryAll_121 (by decide) (fun _ => ?_) (fun _ => ?_)
        · refine x_aload_n C d_Ch_tryAll_124 5 rfl ?_
          refine x_aload_n C d_Ch_tryAll_125 7 rfl ?_
          refine x_iload C d_Ch_tryAll_126 3 rfl ?_
          refine x_iload C d_Ch_tryAll_128 2 rfl ?_
          refine x_iload_n C d_Ch_tryAll_130 6 rfl ?_
          refine x_callVI (As := [.ref v2R, .int x4, .int x7, .int v1I]) C (c_Ch_pick G l v0R v2R x4 x7 v1I σ) (okO_iff.mp h1) rfl w1156 w1157 w1276 w1158 w126 k_Ch_pick rfl (by decide) (by decide) rfl (Nat.le_of_ble_eq_true rfl) d_Ch_tryAll_131 (fun r11 σ12 => ?_)
          refine x_istore (lv' := [(8, .int r11), (7, .int x10), (6, .int x7), (5, .int x4), (3, .int (v3I + ((-1) : Int32))), (0, .ref v0R), (1, .int v1I), (2, .ref v2R), (4, .int v4I)]) C d_Ch_tryAll_134 (by decide) rfl ?_
          refine x_lv [5, 6, 7, 4, 8, 3, 2, 1, 0] rfl ?_
          exact IH.2.2.1 v0R v1I v2R (v3I + ((-1) : Int32)) v4I x4 x7 x10 r11 (σ12)
        · refine x_lv [5, 6, 7, 4, 8, 3, 2, 1, 0] rfl ?_
          exact IH.2.2.1 v0R v1I v2R (v3I + ((-1) : Int32)) v4I x4 x7 x10 (((-1) : Int32)) (σ)
      · refine x_lv [5, 6, 7, 4, 8, 3, 2, 1, 0] rfl ?_
        exact IH.2.2.1 v0R v1I v2R (v3I + ((-1) : Int32)) v4I x4 x7 x10 (((-1) : Int32)) (σ)
    · refine x_lv [] rfl ?_
      exact IH.2.2.2.2  (σ)
  · refine x_lv [] rfl ?_
    exact IH.2.2.2.2  (σ)
set_option maxRecDepth 20000 in
theorem s_Ch_tryAll_2 {G : GX} {p : Program} {l : Launch} {e : Env} {s : State} {m : MethodId} {args : Array Value} {below : List Frame} {meth : Method} {c : Code} {z0 u0 n : Nat} (C : Cx G p s m args meth c prog_3_method_15_code 10 "BellPlate$Chooser" ((none))) (IH : I_Ch_tryAll G p l e s m args below meth c z0 u0 n) (v0R : Nat) (v1I : Int32) (v2R : Nat) (v3I : Int32) (v4I : Int32) (v5I : Int32) (v6I : Int32) (v7I : Int32) (v8I : Int32) (σ : AM) : VX (QM eV G args s below z0 u0) G p l e s m args below meth c 5 z0 u0 10 (lpK (lpn F_Ch_tryAll n) (T_Ch_tryAll_2 v0R v1I v2R v3I v4I v5I v6I v7I v8I σ)) 136 [(0, .ref v0R), (1, .int v1I), (2, .ref v2R), (3, .int v3I), (4, .int v4I), (5, .int v5I), (6, .int v6I), (7, .int v7I), (8, .int v8I)] [] σ := by
  unfold T_Ch_tryAll_2
  refine x_iload C d_Ch_tryAll_136 8 rfl ?_
  refine x_iconst (v := ((-1) : Int32)) C d_Ch_tryAll_138 (by decide) ?_
  refine x_icmp_ne (tgt := 157) C d_Ch_tryAll_139 (by decide) (fun _ => ?_) (fun _ => ?_)
  · refine x_aload_n C d_Ch_tryAll_142 0 rfl ?_
    refine x_aload_n C d_Ch_tryAll_143 2 rfl ?_
    refine x_iload C d_Ch_tryAll_144 5 rfl ?_
    refine x_iload C d_Ch_tryAll_146 6 rfl ?_
    refine x_iload C d_Ch_tryAll_148 7 rfl ?_
    refine x_iload_n C d_Ch_tryAll_150 1 rfl ?_
    refine x_gd (fun h3 => ?_)
    refine x_callVV (As := [.ref v2R, .int v5I, .int v6I, .int v7I, .int v1I]) C (c_Ch_endRuns G l v0R v2R v5I v6I v7I v1I σ) (okO_iff.mp h3) rfl w1300 w38 w1298 w1301 w126 k_Ch_endRuns rfl (by decide) (by decide) rfl (Nat.le_of_ble_eq_true rfl) d_Ch_tryAll_151 (fun r1 σ2 => ?_)
    refine x_goto (tgt := 198) C d_Ch_tryAll_154 (by decide) ?_
    refine x_lv [0, 1, 2, 3, 4] rfl ?_
    exact IH.2.2.2.1 v0R v1I v2R v3I v4I (σ2)
  · refine x_aload_n C d_Ch_tryAll_157 0 rfl ?_
    refine x_aload_n C d_Ch_tryAll_158 2 rfl ?_
    refine x_iload C d_Ch_tryAll_159 5 rfl ?_
    refine x_iload C d_Ch_tryAll_161 6 rfl ?_
    refine x_iload C d_Ch_tryAll_163 8 rfl ?_
    refine x_gd (fun h6 => ?_)
    refine x_callVI (As := [.ref v2R, .int v5I, .int v6I, .int v8I]) C (c_Ch_partRow G l v0R v2R v5I v6I v8I σ) (okO_iff.mp h6) rfl w1279 w36 w1277 w1280 w126 k_Ch_partRow rfl (by decide) (by decide) rfl (Nat.le_of_ble_eq_true rfl) d_Ch_tryAll_165 (fun r4 σ5 => ?_)
    refine x_istore (lv' := [(9, .int r4), (0, .ref v0R), (1, .int v1I), (2, .ref v2R), (3, .int v3I), (4, .int v4I), (5, .int v5I), (6, .int v6I), (7, .int v7I), (8, .int v8I)]) C d_Ch_tryAll_168 (by decide) rfl ?_
    refine x_aload_n C d_Ch_tryAll_170 1 rfl ?_
    refine x_iload_n C d_Ch_tryAll_171 4 rfl ?_
    refine x_iload C d_Ch_tryAll_172 6 rfl ?_
    refine x_iload C d_Ch_tryAll_174 0 rfl ?_
    refine x_iload C d_Ch_tryAll_176 8 rfl ?_
    refine x_iconst (v := (1 : Int32)) C d_Ch_tryAll_178 (by decide) ?_
    refine x_iadd C d_Ch_tryAll_179 ?_
    refine x_gd (fun h9 => ?_)
    refine x_callVI (As := [.int v3I, .int v5I, .int r4, .int (v7I + (1 : Int32))]) C (c_Ch_put G l v0R v3I v5I r4 (v7I + (1 : Int32)) σ5) (okO_iff.mp h9) rfl w1295 w37 w1293 w1296 w126 k_Ch_put rfl (by decide) (by decide) rfl (Nat.le_of_ble_eq_true rfl) d_Ch_tryAll_180 (fun r7 σ8 => ?_)
    refine x_istore_n (lv' := [(3, .int r7), (9, .int r4), (0, .ref v0R), (1, .int v1I), (2, .ref v2R), (4, .int v4I), (5, .int v5I), (6, .int v6I), (7, .int v7I), (8, .int v8I)]) C d_Ch_tryAll_183 (by decide) rfl rfl ?_
    refine x_aload_n C d_Ch_tryAll_184 2 rfl ?_
    refine x_iload_n C d_Ch_tryAll_185 0 rfl ?_
    refine x_iload C d_Ch_tryAll_186 1 rfl ?_
    refine x_iload C d_Ch_tryAll_188 7 rfl ?_
    refine x_iload C d_Ch_tryAll_190 8 rfl ?_
    refine x_iconst (v := (1 : Int32)) C d_Ch_tryAll_192 (by decide) ?_
    refine x_iadd C d_Ch_tryAll_193 ?_
    refine x_gd (fun h12 => ?_)
    refine x_callVI (As := [.int r7, .int r4, .int v6I, .int (v7I + (1 : Int32))]) C (c_Ch_put G l v0R r7 r4 v6I (v7I + (1 : Int32)) σ8) (okO_iff.mp h12) rfl w1295 w37 w1293 w1296 w126 k_Ch_put rfl (by decide) (by decide) rfl (Nat.le_of_ble_eq_true rfl) d_Ch_tryAll_194 (fun r10 σ11 => ?_)
    refine x_istore_n (lv' := [(3, .int r10), (9, .int r4), (0, .ref v0R), (1, .int v1I), (2, .ref v2R), (4, .int v4I), (5, .int v5I), (6, .int v6I), (7, .int v7I), (8, .int v8I)]) C d_Ch_tryAll_197 (by decide) rfl rfl ?_
    refine x_lv [2, 3, 4, 0, 5] rfl ?_
    exact IH.2.2.2.1 v0R v1I v2R r10 v4I (σ11)
set_option maxRecDepth 20000 in
theorem s_Ch_tryAll_3 {G : GX} {p : Program} {l : Launch} {e : Env} {s : State} {m : MethodId} {args : Array Value} {below : List Frame} {meth : Method} {c : Code} {z0 u0 n : Nat} (C : Cx G p s m args meth c prog_3_method_15_code 10 "BellPlate$Chooser" ((none))) (IH : I_Ch_tryAll G p l e s m args below meth c z0 u0 n) (v0R : Nat) (v1I : Int32) (v2R : Nat) (v3I : Int32) (v4I : Int32) (σ : AM) : VX (QM eV G args s below z0 u0) G p l e s m args below meth c 5 z0 u0 10 (lpK (lpn F_Ch_tryAll n) (T_Ch_tryAll_3 v0R v1I v2R v3I v4I σ)) 198 [(0, .ref v0R), (1, .int v1I), (2, .ref v2R), (3, .int v3I), (4, .int v4I)] [] σ := by
  unfold T_Ch_tryAll_3
  refine x_iinc (v := v4I + (1 : Int32)) (lv' := [(4, .int (v4I + (1 : Int32))), (0, .ref v0R), (1, .int v1I), (2, .ref v2R), (3, .int v3I)]) C d_Ch_tryAll_198 4 rfl rfl (by decide) rfl ?_
  refine x_goto (tgt := 67) C d_Ch_tryAll_201 (by decide) ?_
  refine x_lv [1, 2, 3, 4, 0] rfl ?_
  exact IH.2.1 v0R v1I v2R v3I (v4I + (1 : Int32)) (σ)
set_option maxRecDepth 20000 in
theorem s_Ch_tryAll_4 {G : GX} {p : Program} {l : Launch} {e : Env} {s : State} {m : MethodId} {args : Array Value} {below : List Frame} {meth : Method} {c : Code} {z0 u0 n : Nat} (C : Cx G p s m args meth c prog_3_method_15_code 10 "BellPlate$Chooser" ((none))) (IH : I_Ch_tryAll G p l e s m args below meth c z0 u0 n)  (σ : AM) : VX (QM eV G args s below z0 u0) G p l e s m args below meth c 5 z0 u0 10 (lpK (lpn F_Ch_tryAll n) (T_Ch_tryAll_4  σ)) 204 [] [] σ := by
  unfold T_Ch_tryAll_4
  exact x_vret C d_Ch_tryAll_204
theorem i_Ch_tryAll {G : GX} {p : Program} {l : Launch} {e : Env} {s : State} {m : MethodId} {args : Array Value} {below : List Frame} {meth : Method} {c : Code} {z0 u0 : Nat} (C : Cx G p s m args meth c prog_3_method_15_code 10 "BellPlate$Chooser" ((none))) (n : Nat) : I_Ch_tryAll G p l e s m args below meth c z0 u0 n := by
  induction n with
  | zero => exact ⟨fun _ _ _ => x_none, fun _ _ _ _ _ _ => x_none, fun _ _ _ _ _ _ _ _ _ _ => x_none, fun _ _ _ _ _ _ => x_none, fun _ => x_none⟩
  | succ n IH => exact ⟨fun v0R v1I σ => s_Ch_tryAll_0 C IH v0R v1I σ, fun v0R v1I v2R v3I v4I σ => s_Ch_tryAll_1 C IH v0R v1I v2R v3I v4I σ, fun v0R v1I v2R v3I v4I v5I v6I v7I v8I σ => s_Ch_tryAll_2 C IH v0R v1I v2R v3I v4I v5I v6I v7I v8I σ, fun v0R v1I v2R v3I v4I σ => s_Ch_tryAll_3 C IH v0R v1I v2R v3I v4I σ, fun σ => s_Ch_tryAll_4 C IH σ⟩
theorem c_Ch_tryAll (G : GX) (l : Launch) (v0R : Nat) (v1I : Int32) (σ : AM) : CT eV G l 5 y_Ch_tryAll prog_3_method_15_code 10 (none) [.ref v0R, .int v1I] σ (M_Ch_tryAll v0R v1I σ) := by
  refine ct_of (by decide +kernel) (Nat.le_of_ble_eq_true rfl) (fun p e s m args below meth c C hin => ?_)
  refine x_lve (lv' := [(0, .ref v0R), (1, .int v1I)]) rfl ?_
  intro r σ' h
  obtain ⟨n, hn⟩ := (lp_iff _ _ _).mp h
  exact (i_Ch_tryAll C n).1 v0R v1I σ r σ' hn
/-! BellPlate$Chooser.worstBy(I)I -/
abbrev y_Ch_worstBy : MethodName := ⟨"BellPlate$Chooser", "worstBy", "(I)I"⟩
theorem k_Ch_worstBy : y_Ch_worstBy.cls ≠ "java/lang/invoke/MethodHandle" ∧ y_Ch_worstBy.cls ≠ "java/lang/invoke/VarHandle" ∧ (parseMethodDescriptor y_Ch_worstBy.desc).map (fun d => d.parameters.length) = some 1 := by decide +kernel
theorem d_Ch_worstBy_0 : decode prog_3_method_18_code 0 = .ok (.aload_n 0, 1) := by decide +kernel
theorem d_Ch_worstBy_1 : decode prog_3_method_18_code 1 = .ok (.getfield 43, 3) := by decide +kernel
theorem d_Ch_worstBy_4 : decode prog_3_method_18_code 4 = .ok (.iload_n 1, 1) := by decide +kernel
theorem d_Ch_worstBy_5 : decode prog_3_method_18_code 5 = .ok (.iaload, 1) := by decide +kernel
theorem d_Ch_worstBy_6 : decode prog_3_method_18_code 6 = .ok (.ireturn, 1) := by decide +kernel
abbrev S_Ch_worstBy : Type := Nat × Nat × Int32 × AM
noncomputable def T_Ch_worstBy_0 (v0R : Nat) (v1I : Int32) (σ : AM) : S_Ch_worstBy ⊕ Option (Int32 × AM) :=
  gdT (okO σ v0R 6) <| gdT (okO σ (aR σ v0R 9) 101) <| gdT (inB v1I (aN σ (aR σ v0R 9))) <| .inr (some ((aI σ (aR σ v0R 9) v1I.toNatClampNeg), σ))
noncomputable def F_Ch_worstBy : S_Ch_worstBy → S_Ch_worstBy ⊕ Option (Int32 × AM) := fun s => match s.1 with
  | _ => T_Ch_worstBy_0 (s.2.1) (s.2.2.1) (s.2.2.2)
noncomputable def L_Ch_worstBy_0 (v0R : Nat) (v1I : Int32) (σ : AM) : Option (Int32 × AM) := lp F_Ch_worstBy (0, v0R, v1I, σ)
set_option maxRecDepth 20000 in
theorem E_Ch_worstBy_0 (v0R : Nat) (v1I : Int32) (σ : AM) : L_Ch_worstBy_0 v0R v1I σ = (gd (okO σ v0R 6) <| gd (okO σ (aR σ v0R 9) 101) <| gd (inB v1I (aN σ (aR σ v0R 9))) <| (some ((aI σ (aR σ v0R 9) v1I.toNatClampNeg), σ))) := by
  unfold L_Ch_worstBy_0
  rw [lp_eq]
  show lpK (lp F_Ch_worstBy) (T_Ch_worstBy_0 v0R v1I σ) = _
  unfold T_Ch_worstBy_0
  simp only [lpK_ite, lq_inl, lq_inr, lpK_bnd, lpK_gd, lq_let]
  try rfl
noncomputable def M_Ch_worstBy (v0R : Nat) (v1I : Int32) (σ : AM) : Option (Int32 × AM) := mw σ (L_Ch_worstBy_0 v0R v1I σ)
def I_Ch_worstBy (G : GX) (p : Program) (l : Launch) (e : Env) (s : State) (m : MethodId) (args : Array Value) (below : List Frame) (meth : Method) (c : Code) (z0 u0 n : Nat) : Prop :=
  (∀ (v0R : Nat) (v1I : Int32) (σ : AM), VX (QM eI G args s below z0 u0) G p l e s m args below meth c 0 z0 u0 2 (lpn F_Ch_worstBy n (0, v0R, v1I, σ)) 0 [(0, .ref v0R), (1, .int v1I)] [] σ)
set_option maxRecDepth 20000 in
theorem s_Ch_worstBy_0 {G : GX} {p : Program} {l : Launch} {e : Env} {s : State} {m : MethodId} {args : Array Value} {below : List Frame} {meth : Method} {c : Code} {z0 u0 n : Nat} (C : Cx G p s m args meth c prog_3_method_18_code 2 "BellPlate$Chooser" ((some FieldType.int))) (IH : I_Ch_worstBy G p l e s m args below meth c z0 u0 n) (v0R : Nat) (v1I : Int32) (σ : AM) : VX (QM eI G args s below z0 u0) G p l e s m args below meth c 0 z0 u0 2 (lpK (lpn F_Ch_worstBy n) (T_Ch_worstBy_0 v0R v1I σ)) 0 [(0, .ref v0R), (1, .int v1I)] [] σ := by
  unfold T_Ch_worstBy_0
  refine x_aload_n C d_Ch_worstBy_0 0 rfl ?_
  refine x_gd (fun h1 => ?_)
  refine x_gd (fun h2 => ?_)
  refine x_getR (k := 9) (kv := 101) C (okO_iff.mp h1) rfl j5_ok (by decide) rfl (okO_iff.mp h2) (by decide) w388 d_Ch_worstBy_1 ?_
  refine x_iload_n C d_Ch_worstBy_4 1 rfl ?_
  refine x_gd (fun h3 => ?_)
  refine x_aldI C (okO_iff.mp h2) (inB_iff.mp h3) d_Ch_worstBy_5 ?_
  exact x_iret C d_Ch_worstBy_6
theorem i_Ch_worstBy {G : GX} {p : Program} {l : Launch} {e : Env} {s : State} {m : MethodId} {args : Array Value} {below : List Frame} {meth : Method} {c : Code} {z0 u0 : Nat} (C : Cx G p s m args meth c prog_3_method_18_code 2 "BellPlate$Chooser" ((some FieldType.int))) (n : Nat) : I_Ch_worstBy G p l e s m args below meth c z0 u0 n := by
  induction n with
  | zero => exact fun _ _ _ => x_none
  | succ n IH => exact fun v0R v1I σ => s_Ch_worstBy_0 C IH v0R v1I σ
theorem c_Ch_worstBy (G : GX) (l : Launch) (v0R : Nat) (v1I : Int32) (σ : AM) : CT eI G l 0 y_Ch_worstBy prog_3_method_18_code 2 ((some FieldType.int)) [.ref v0R, .int v1I] σ (M_Ch_worstBy v0R v1I σ) := by
  refine ct_of (by decide +kernel) (Nat.le_of_ble_eq_true rfl) (fun p e s m args below meth c C hin => ?_)
  refine x_lve (lv' := [(0, .ref v0R), (1, .int v1I)]) rfl ?_
  intro r σ' h
  obtain ⟨n, hn⟩ := (lp_iff _ _ _).mp h
  exact (i_Ch_worstBy C n) v0R v1I σ r σ' hn
/-! BellPlate$Chooser.togetherBy(I)I -/
abbrev y_Ch_togetherBy : MethodName := ⟨"BellPlate$Chooser", "togetherBy", "(I)I"⟩
theorem k_Ch_togetherBy : y_Ch_togetherBy.cls ≠ "java/lang/invoke/MethodHandle" ∧ y_Ch_togetherBy.cls ≠ "java/lang/invoke/VarHandle" ∧ (parseMethodDescriptor y_Ch_togetherBy.desc).map (fun d => d.parameters.length) = some 1 := by decide +kernel
theorem d_Ch_togetherBy_0 : decode prog_3_method_19_code 0 = .ok (.aload_n 0, 1) := by decide +kernel
theorem d_Ch_togetherBy_1 : decode prog_3_method_19_code 1 = .ok (.getfield 46, 3) := by decide +kernel
theorem d_Ch_togetherBy_4 : decode prog_3_method_19_code 4 = .ok (.iload_n 1, 1) := by decide +kernel
theorem d_Ch_togetherBy_5 : decode prog_3_method_19_code 5 = .ok (.iaload, 1) := by decide +kernel
theorem d_Ch_togetherBy_6 : decode prog_3_method_19_code 6 = .ok (.ireturn, 1) := by decide +kernel
abbrev S_Ch_togetherBy : Type := Nat × Nat × Int32 × AM
noncomputable def T_Ch_togetherBy_0 (v0R : Nat) (v1I : Int32) (σ : AM) : S_Ch_togetherBy ⊕ Option (Int32 × AM) :=
  gdT (okO σ v0R 6) <| gdT (okO σ (aR σ v0R 10) 101) <| gdT (inB v1I (aN σ (aR σ v0R 10))) <| .inr (some ((aI σ (aR σ v0R 10) v1I.toNatClampNeg), σ))
noncomputable def F_Ch_togetherBy : S_Ch_togetherBy → S_Ch_togetherBy ⊕ Option (Int32 × AM) := fun s => match s.1 with
  | _ => T_Ch_togetherBy_0 (s.2.1) (s.2.2.1) (s.2.2.2)
noncomputable def L_Ch_togetherBy_0 (v0R : Nat) (v1I : Int32) (σ : AM) : Option (Int32 × AM) := lp F_Ch_togetherBy (0, v0R, v1I, σ)
set_option maxRecDepth 20000 in
theorem E_Ch_togetherBy_0 (v0R : Nat) (v1I : Int32) (σ : AM) : L_Ch_togetherBy_0 v0R v1I σ = (gd (okO σ v0R 6) <| gd (okO σ (aR σ v0R 10) 101) <| gd (inB v1I (aN σ (aR σ v0R 10))) <| (some ((aI σ (aR σ v0R 10) v1I.toNatClampNeg), σ))) := by
  unfold L_Ch_togetherBy_0
  rw [lp_eq]
  show lpK (lp F_Ch_togetherBy) (T_Ch_togetherBy_0 v0R v1I σ) = _
  unfold T_Ch_togetherBy_0
  simp only [lpK_ite, lq_inl, lq_inr, lpK_bnd, lpK_gd, lq_let]
  try rfl
noncomputable def M_Ch_togetherBy (v0R : Nat) (v1I : Int32) (σ : AM) : Option (Int32 × AM) := mw σ (L_Ch_togetherBy_0 v0R v1I σ)
def I_Ch_togetherBy (G : GX) (p : Program) (l : Launch) (e : Env) (s : State) (m : MethodId) (args : Array Value) (below : List Frame) (meth : Method) (c : Code) (z0 u0 n : Nat) : Prop :=
  (∀ (v0R : Nat) (v1I : Int32) (σ : AM), VX (QM eI G args s below z0 u0) G p l e s m args below meth c 0 z0 u0 2 (lpn F_Ch_togetherBy n (0, v0R, v1I, σ)) 0 [(0, .ref v0R), (1, .int v1I)] [] σ)
set_option maxRecDepth 20000 in
theorem s_Ch_togetherBy_0 {G : GX} {p : Program} {l : Launch} {e : Env} {s : State} {m : MethodId} {args : Array Value} {below : List Frame} {meth : Method} {c : Code} {z0 u0 n : Nat} (C : Cx G p s m args meth c prog_3_method_19_code 2 "BellPlate$Chooser" ((some FieldType.int))) (IH : I_Ch_togetherBy G p l e s m args below meth c z0 u0 n) (v0R : Nat) (v1I : Int32) (σ : AM) : VX (QM eI G args s below z0 u0) G p l e s m args below meth c 0 z0 u0 2 (lpK (lpn F_Ch_togetherBy n) (T_Ch_togetherBy_0 v0R v1I σ)) 0 [(0, .ref v0R), (1, .int v1I)] [] σ := by
  unfold T_Ch_togetherBy_0
  refine x_aload_n C d_Ch_togetherBy_0 0 rfl ?_
  refine x_gd (fun h1 => ?_)
  refine x_gd (fun h2 => ?_)
  refine x_getR (k := 10) (kv := 101) C (okO_iff.mp h1) rfl j5_ok (by decide) rfl (okO_iff.mp h2) (by decide) w389 d_Ch_togetherBy_1 ?_
  refine x_iload_n C d_Ch_togetherBy_4 1 rfl ?_
  refine x_gd (fun h3 => ?_)
  refine x_aldI C (okO_iff.mp h2) (inB_iff.mp h3) d_Ch_togetherBy_5 ?_
  exact x_iret C d_Ch_togetherBy_6
theorem i_Ch_togetherBy {G : GX} {p : Program} {l : Launch} {e : Env} {s : State} {m : MethodId} {args : Array Value} {below : List Frame} {meth : Method} {c : Code} {z0 u0 : Nat} (C : Cx G p s m args meth c prog_3_method_19_code 2 "BellPlate$Chooser" ((some FieldType.int))) (n : Nat) : I_Ch_togetherBy G p l e s m args below meth c z0 u0 n := by
  induction n with
  | zero => exact fun _ _ _ => x_none
  | succ n IH => exact fun v0R v1I σ => s_Ch_togetherBy_0 C IH v0R v1I σ
theorem c_Ch_togetherBy (G : GX) (l : Launch) (v0R : Nat) (v1I : Int32) (σ : AM) : CT eI G l 0 y_Ch_togetherBy prog_3_method_19_code 2 ((some FieldType.int)) [.ref v0R, .int v1I] σ (M_Ch_togetherBy v0R v1I σ) := by
  refine ct_of (by decide +kernel) (Nat.le_of_ble_eq_true rfl) (fun p e s m args below meth c C hin => ?_)
  refine x_lve (lv' := [(0, .ref v0R), (1, .int v1I)]) rfl ?_
  intro r σ' h
  obtain ⟨n, hn⟩ := (lp_iff _ _ _).mp h
  exact (i_Ch_togetherBy C n) v0R v1I σ r σ' hn
