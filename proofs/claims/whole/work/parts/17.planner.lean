/-! BellPlate$Planner.<init>(LBellPlate$Lists;LBellPlate$Rest;)V -/
abbrev y_Pl_init : MethodName := ⟨"BellPlate$Planner", "<init>", "(LBellPlate$Lists;LBellPlate$Rest;)V"⟩
theorem k_Pl_init : y_Pl_init.cls ≠ "java/lang/invoke/MethodHandle" ∧ y_Pl_init.cls ≠ "java/lang/invoke/VarHandle" ∧ (parseMethodDescriptor y_Pl_init.desc).map (fun d => d.parameters.length) = some 2 := by decide +kernel
theorem d_Pl_init_0 : decode prog_7_method_1_code 0 = .ok (.aload_n 0, 1) := by decide +kernel
theorem d_Pl_init_1 : decode prog_7_method_1_code 1 = .ok (.invokespecial 3, 3) := by decide +kernel
theorem d_Pl_init_4 : decode prog_7_method_1_code 4 = .ok (.aload_n 0, 1) := by decide +kernel
theorem d_Pl_init_5 : decode prog_7_method_1_code 5 = .ok (.aload_n 1, 1) := by decide +kernel
theorem d_Pl_init_6 : decode prog_7_method_1_code 6 = .ok (.putfield 9, 3) := by decide +kernel
theorem d_Pl_init_9 : decode prog_7_method_1_code 9 = .ok (.aload_n 0, 1) := by decide +kernel
theorem d_Pl_init_10 : decode prog_7_method_1_code 10 = .ok (.aload_n 2, 1) := by decide +kernel
theorem d_Pl_init_11 : decode prog_7_method_1_code 11 = .ok (.putfield 15, 3) := by decide +kernel
theorem d_Pl_init_14 : decode prog_7_method_1_code 14 = .ok (.aload_n 0, 1) := by decide +kernel
theorem d_Pl_init_15 : decode prog_7_method_1_code 15 = .ok (.bipush 12, 2) := by decide +kernel
theorem d_Pl_init_17 : decode prog_7_method_1_code 17 = .ok (.newarray .int, 2) := by decide +kernel
theorem d_Pl_init_19 : decode prog_7_method_1_code 19 = .ok (.putfield 19, 3) := by decide +kernel
theorem d_Pl_init_22 : decode prog_7_method_1_code 22 = .ok (.aload_n 0, 1) := by decide +kernel
theorem d_Pl_init_23 : decode prog_7_method_1_code 23 = .ok (.bipush 12, 2) := by decide +kernel
theorem d_Pl_init_25 : decode prog_7_method_1_code 25 = .ok (.newarray .int, 2) := by decide +kernel
theorem d_Pl_init_27 : decode prog_7_method_1_code 27 = .ok (.putfield 23, 3) := by decide +kernel
theorem d_Pl_init_30 : decode prog_7_method_1_code 30 = .ok (.aload_n 0, 1) := by decide +kernel
theorem d_Pl_init_31 : decode prog_7_method_1_code 31 = .ok (.bipush 64, 2) := by decide +kernel
theorem d_Pl_init_33 : decode prog_7_method_1_code 33 = .ok (.newarray .int, 2) := by decide +kernel
theorem d_Pl_init_35 : decode prog_7_method_1_code 35 = .ok (.putfield 28, 3) := by decide +kernel
theorem d_Pl_init_38 : decode prog_7_method_1_code 38 = .ok (.aload_n 0, 1) := by decide +kernel
theorem d_Pl_init_39 : decode prog_7_method_1_code 39 = .ok (.bipush 64, 2) := by decide +kernel
theorem d_Pl_init_41 : decode prog_7_method_1_code 41 = .ok (.newarray .int, 2) := by decide +kernel
theorem d_Pl_init_43 : decode prog_7_method_1_code 43 = .ok (.putfield 31, 3) := by decide +kernel
theorem d_Pl_init_46 : decode prog_7_method_1_code 46 = .ok (.aload_n 0, 1) := by decide +kernel
theorem d_Pl_init_47 : decode prog_7_method_1_code 47 = .ok (.sipush 4096, 3) := by decide +kernel
theorem d_Pl_init_50 : decode prog_7_method_1_code 50 = .ok (.newarray .byte, 2) := by decide +kernel
theorem d_Pl_init_52 : decode prog_7_method_1_code 52 = .ok (.putfield 34, 3) := by decide +kernel
theorem d_Pl_init_55 : decode prog_7_method_1_code 55 = .ok (.return_, 1) := by decide +kernel
abbrev S_Pl_init : Type := Nat × Nat × Nat × Nat × AM
noncomputable def T_Pl_init_0 (v0R : Nat) (v1R : Nat) (v2R : Nat) (σ : AM) : S_Pl_init ⊕ Option (Unit × AM) :=
  gdT (okO σ v0R 7) <| gdT (okO σ v1R 3) <| letT (sR σ v0R 0 v1R) fun σ3 => gdT (okO σ3 v2R 5) <| letT (sR σ3 v0R 1 v2R) fun σ6 => letT (nw σ6 101 (12 : Int32).toNatClampNeg) fun σ8 => gdT (okO σ8 v0R 7) <| letT (sR σ8 v0R 2 (aZ σ6)) fun σ11 => letT (nw σ11 101 (12 : Int32).toNatClampNeg) fun σ13 => gdT (okO σ13 v0R 7) <| letT (sR σ13 v0R 3 (aZ σ11)) fun σ16 => letT (nw σ16 101 (64 : Int32).toNatClampNeg) fun σ18 => gdT (okO σ18 v0R 7) <| letT (sR σ18 v0R 4 (aZ σ16)) fun σ21 => letT (nw σ21 101 (64 : Int32).toNatClampNeg) fun σ23 => gdT (okO σ23 v0R 7) <| letT (sR σ23 v0R 5 (aZ σ21)) fun σ26 => letT (nw σ26 105 (4096 : Int32).toNatClampNeg) fun σ28 => gdT (okO σ28 v0R 7) <| letT (sR σ28 v0R 6 (aZ σ26)) fun σ31 => .inr (some ((), σ31))
noncomputable def F_Pl_init : S_Pl_init → S_Pl_init ⊕ Option (Unit × AM) := fun s => match s.1 with
  | _ => T_Pl_init_0 (s.2.1) (s.2.2.1) (s.2.2.2.1) (s.2.2.2.2)
noncomputable def L_Pl_init_0 (v0R : Nat) (v1R : Nat) (v2R : Nat) (σ : AM) : Option (Unit × AM) := lp F_Pl_init (0, v0R, v1R, v2R, σ)
set_option maxRecDepth 20000 in
theorem E_Pl_init_0 (v0R : Nat) (v1R : Nat) (v2R : Nat) (σ : AM) : L_Pl_init_0 v0R v1R v2R σ = (gd (okO σ v0R 7) <| gd (okO σ v1R 3) <| letT (sR σ v0R 0 v1R) fun σ3 => gd (okO σ3 v2R 5) <| letT (sR σ3 v0R 1 v2R) fun σ6 => letT (nw σ6 101 (12 : Int32).toNatClampNeg) fun σ8 => gd (okO σ8 v0R 7) <| letT (sR σ8 v0R 2 (aZ σ6)) fun σ11 => letT (nw σ11 101 (12 : Int32).toNatClampNeg) fun σ13 => gd (okO σ13 v0R 7) <| letT (sR σ13 v0R 3 (aZ σ11)) fun σ16 => letT (nw σ16 101 (64 : Int32).toNatClampNeg) fun σ18 => gd (okO σ18 v0R 7) <| letT (sR σ18 v0R 4 (aZ σ16)) fun σ21 => letT (nw σ21 101 (64 : Int32).toNatClampNeg) fun σ23 => gd (okO σ23 v0R 7) <| letT (sR σ23 v0R 5 (aZ σ21)) fun σ26 => letT (nw σ26 105 (4096 : Int32).toNatClampNeg) fun σ28 => gd (okO σ28 v0R 7) <| letT (sR σ28 v0R 6 (aZ σ26)) fun σ31 => (some ((), σ31))) := by
  unfold L_Pl_init_0
  rw [lp_eq]
  show lpK (lp F_Pl_init) (T_Pl_init_0 v0R v1R v2R σ) = _
  unfold T_Pl_init_0
  simp only [lpK_ite, lq_inl, lq_inr, lpK_bnd, lpK_gd, lq_let]
  try rfl
noncomputable def M_Pl_init (v0R : Nat) (v1R : Nat) (v2R : Nat) (σ : AM) : Option (Unit × AM) := mw σ (L_Pl_init_0 v0R v1R v2R σ)
def I_Pl_init (G : GX) (p : Program) (l : Launch) (e : Env) (s : State) (m : MethodId) (args : Array Value) (below : List Frame) (meth : Method) (c : Code) (z0 u0 n : Nat) : Prop :=
  (∀ (v0R : Nat) (v1R : Nat) (v2R : Nat) (σ : AM), VX (QM eV G args s below z0 u0) G p l e s m args below meth c 1 z0 u0 3 (lpn F_Pl_init n (0, v0R, v1R, v2R, σ)) 0 [(0, .ref v0R), (1, .ref v1R), (2, .ref v2R)] [] σ)
set_option maxRecDepth 20000 in
theorem s_Pl_init_0 {G : GX} {p : Program} {l : Launch} {e : Env} {s : State} {m : MethodId} {args : Array Value} {below : List Frame} {meth : Method} {c : Code} {z0 u0 n : Nat} (C : Cx G p s m args meth c prog_7_method_1_code 3 "BellPlate$Planner" ((none))) (hin : meth.name = "<init>") (IH : I_Pl_init G p l e s m args below meth c z0 u0 n) (v0R : Nat) (v1R : Nat) (v2R : Nat) (σ : AM) : VX (QM eV G args s below z0 u0) G p l e s m args below meth c 1 z0 u0 3 (lpK (lpn F_Pl_init n) (T_Pl_init_0 v0R v1R v2R σ)) 0 [(0, .ref v0R), (1, .ref v1R), (2, .ref v2R)] [] σ := by
  unfold T_Pl_init_0
  refine x_aload_n C d_Pl_init_0 0 rfl ?_
  refine x_gd (fun h1 => ?_)
  refine x_obj C (okO_iff.mp h1) w442 w153 w154 (by decide) (Nat.le_of_ble_eq_true rfl) d_Pl_init_1 ?_
  refine x_aload_n C d_Pl_init_4 0 rfl ?_
  refine x_aload_n C d_Pl_init_5 1 rfl ?_
  refine x_gd (fun h2 => ?_)
  refine x_putRF (k := 0) (kv := 3) C (okO_iff.mp h1) rfl j6_ok y6_ok n6_ok (by decide) rfl (okO_iff.mp h2) (by decide) rfl hin rfl rfl rfl w443 d_Pl_init_6 ?_
  refine x_letS (fun σ3 e4 => ?_)
  refine x_aload_n C d_Pl_init_9 0 rfl ?_
  refine x_aload_n C d_Pl_init_10 2 rfl ?_
  refine x_gd (fun h5 => ?_)
  refine x_putRF (k := 1) (kv := 5) C (by first | exact (okO_iff.mp h1) | (rw [e4]; exact (okO_iff.mp h1))) rfl j6_ok y6_ok n6_ok (by decide) rfl (okO_iff.mp h5) (by decide) rfl hin rfl rfl rfl w444 d_Pl_init_11 ?_
  refine x_letS (fun σ6 e7 => ?_)
  refine x_aload_n C d_Pl_init_14 0 rfl ?_
  refine x_bipush (v := (12 : Int32)) C d_Pl_init_15 (by decide) ?_
  refine x_newaI C w203 (by decide) (by decide) d_Pl_init_17 ?_
  refine x_letS (fun σ8 e9 => ?_)
  refine x_gd (fun h10 => ?_)
  refine x_putRF (k := 2) (kv := 101) C (okO_iff.mp h10) rfl j6_ok y6_ok n6_ok (by decide) rfl (fr_K e9) (by decide) rfl hin rfl rfl rfl w445 d_Pl_init_19 ?_
  refine x_letS (fun σ11 e12 => ?_)
  refine x_aload_n C d_Pl_init_22 0 rfl ?_
  refine x_bipush (v := (12 : Int32)) C d_Pl_init_23 (by decide) ?_
  refine x_newaI C w203 (by decide) (by decide) d_Pl_init_25 ?_
  refine x_letS (fun σ13 e14 => ?_)
  refine x_gd (fun h15 => ?_)
  refine x_putRF (k := 3) (kv := 101) C (okO_iff.mp h15) rfl j6_ok y6_ok n6_ok (by decide) rfl (fr_K e14) (by decide) rfl hin rfl rfl rfl w446 d_Pl_init_27 ?_
  refine x_letS (fun σ16 e17 => ?_)
  refine x_aload_n C d_Pl_init_30 0 rfl ?_
  refine x_bipush (v := (64 : Int32)) C d_Pl_init_31 (by decide) ?_
  refine x_newaI C w203 (by decide) (by decide) d_Pl_init_33 ?_
  refine x_letS (fun σ18 e19 => ?_)
  refine x_gd (fun h20 => ?_)
  refine x_putRF (k := 4) (kv := 101) C (okO_iff.mp h20) rfl j6_ok y6_ok n6_ok (by decide) rfl (fr_K e19) (by decide) rfl hin rfl rfl rfl w447 d_Pl_init_35 ?_
  refine x_letS (fun σ21 e22 => ?_)
  refine x_aload_n C d_Pl_init_38 0 rfl ?_
  refine x_bipush (v := (64 : Int32)) C d_Pl_init_39 (by decide) ?_
  refine x_newaI C w203 (by decide) (by decide) d_Pl_init_41 ?_
  refine x_letS (fun σ23 e24 => ?_)
  refine x_gd (fun h25 => ?_)
  refine x_putRF (k := 5) (kv := 101) C (okO_iff.mp h25) rfl j6_ok y6_ok n6_ok (by decide) rfl (fr_K e24) (by decide) rfl hin rfl rfl rfl w448 d_Pl_init_43 ?_
  refine x_letS (fun σ26 e27 => ?_)
  refine x_aload_n C d_Pl_init_46 0 rfl ?_
  refine x_sipush (v := (4096 : Int32)) C d_Pl_init_47 (by decide) ?_
  refine x_newaB C w474 (by decide) (by decide) d_Pl_init_50 ?_
  refine x_letS (fun σ28 e29 => ?_)
  refine x_gd (fun h30 => ?_)
  refine x_putRF (k := 6) (kv := 105) C (okO_iff.mp h30) rfl j6_ok y6_ok n6_ok (by decide) rfl (fr_K e29) (by decide) rfl hin rfl rfl rfl w449 d_Pl_init_52 ?_
  refine x_letS (fun σ31 e32 => ?_)
  exact x_vret C d_Pl_init_55
theorem i_Pl_init {G : GX} {p : Program} {l : Launch} {e : Env} {s : State} {m : MethodId} {args : Array Value} {below : List Frame} {meth : Method} {c : Code} {z0 u0 : Nat} (C : Cx G p s m args meth c prog_7_method_1_code 3 "BellPlate$Planner" ((none))) (hin : meth.name = "<init>") (n : Nat) : I_Pl_init G p l e s m args below meth c z0 u0 n := by
  induction n with
  | zero => exact fun _ _ _ _ => x_none
  | succ n IH => exact fun v0R v1R v2R σ => s_Pl_init_0 C hin IH v0R v1R v2R σ
theorem c_Pl_init (G : GX) (l : Launch) (v0R : Nat) (v1R : Nat) (v2R : Nat) (σ : AM) : CT eV G l 1 y_Pl_init prog_7_method_1_code 3 (none) [.ref v0R, .ref v1R, .ref v2R] σ (M_Pl_init v0R v1R v2R σ) := by
  refine ct_of (by decide +kernel) (Nat.le_of_ble_eq_true rfl) (fun p e s m args below meth c C hin => ?_)
  refine x_lve (lv' := [(0, .ref v0R), (1, .ref v1R), (2, .ref v2R)]) rfl ?_
  intro r σ' h
  obtain ⟨n, hn⟩ := (lp_iff _ _ _).mp h
  exact (i_Pl_init C hin n) v0R v1R v2R σ r σ' hn
/-! BellPlate$Planner.answer(IIJI)I -/
abbrev y_Pl_answer : MethodName := ⟨"BellPlate$Planner", "answer", "(IIJI)I"⟩
theorem k_Pl_answer : y_Pl_answer.cls ≠ "java/lang/invoke/MethodHandle" ∧ y_Pl_answer.cls ≠ "java/lang/invoke/VarHandle" ∧ (parseMethodDescriptor y_Pl_answer.desc).map (fun d => d.parameters.length) = some 4 := by decide +kernel
theorem d_Pl_answer_0 : decode prog_7_method_2_code 0 = .ok (.iload_n 0, 1) := by decide +kernel
theorem d_Pl_answer_1 : decode prog_7_method_2_code 1 = .ok (.tableswitch 85 0 3 #[31, 34, 50, 71], 31) := by decide +kernel
theorem d_Pl_answer_32 : decode prog_7_method_2_code 32 = .ok (.iload 4, 2) := by decide +kernel
theorem d_Pl_answer_34 : decode prog_7_method_2_code 34 = .ok (.ireturn, 1) := by decide +kernel
theorem d_Pl_answer_35 : decode prog_7_method_2_code 35 = .ok (.lload_n 2, 1) := by decide +kernel
theorem d_Pl_answer_36 : decode prog_7_method_2_code 36 = .ok (.iload_n 1, 1) := by decide +kernel
theorem d_Pl_answer_37 : decode prog_7_method_2_code 37 = .ok (.invokestatic 38, 3) := by decide +kernel
theorem d_Pl_answer_40 : decode prog_7_method_2_code 40 = .ok (.lconst 0, 1) := by decide +kernel
theorem d_Pl_answer_41 : decode prog_7_method_2_code 41 = .ok (.lcmp, 1) := by decide +kernel
theorem d_Pl_answer_42 : decode prog_7_method_2_code 42 = .ok (.ifCond .eq 7, 3) := by decide +kernel
theorem d_Pl_answer_45 : decode prog_7_method_2_code 45 = .ok (.iconst 1, 1) := by decide +kernel
theorem d_Pl_answer_46 : decode prog_7_method_2_code 46 = .ok (.goto 4, 3) := by decide +kernel
theorem d_Pl_answer_49 : decode prog_7_method_2_code 49 = .ok (.iconst 0, 1) := by decide +kernel
theorem d_Pl_answer_50 : decode prog_7_method_2_code 50 = .ok (.ireturn, 1) := by decide +kernel
theorem d_Pl_answer_51 : decode prog_7_method_2_code 51 = .ok (.lload_n 2, 1) := by decide +kernel
theorem d_Pl_answer_52 : decode prog_7_method_2_code 52 = .ok (.iload_n 1, 1) := by decide +kernel
theorem d_Pl_answer_53 : decode prog_7_method_2_code 53 = .ok (.bipush 6, 2) := by decide +kernel
theorem d_Pl_answer_55 : decode prog_7_method_2_code 55 = .ok (.idiv, 1) := by decide +kernel
theorem d_Pl_answer_56 : decode prog_7_method_2_code 56 = .ok (.iload_n 1, 1) := by decide +kernel
theorem d_Pl_answer_57 : decode prog_7_method_2_code 57 = .ok (.bipush 6, 2) := by decide +kernel
theorem d_Pl_answer_59 : decode prog_7_method_2_code 59 = .ok (.irem, 1) := by decide +kernel
theorem d_Pl_answer_60 : decode prog_7_method_2_code 60 = .ok (.invokestatic 44, 3) := by decide +kernel
theorem d_Pl_answer_63 : decode prog_7_method_2_code 63 = .ok (.ifCond .eq 7, 3) := by decide +kernel
theorem d_Pl_answer_66 : decode prog_7_method_2_code 66 = .ok (.iconst 1, 1) := by decide +kernel
theorem d_Pl_answer_67 : decode prog_7_method_2_code 67 = .ok (.goto 4, 3) := by decide +kernel
theorem d_Pl_answer_70 : decode prog_7_method_2_code 70 = .ok (.iconst 0, 1) := by decide +kernel
theorem d_Pl_answer_71 : decode prog_7_method_2_code 71 = .ok (.ireturn, 1) := by decide +kernel
theorem d_Pl_answer_72 : decode prog_7_method_2_code 72 = .ok (.lload_n 2, 1) := by decide +kernel
theorem d_Pl_answer_73 : decode prog_7_method_2_code 73 = .ok (.iload_n 1, 1) := by decide +kernel
theorem d_Pl_answer_74 : decode prog_7_method_2_code 74 = .ok (.invokestatic 48, 3) := by decide +kernel
theorem d_Pl_answer_77 : decode prog_7_method_2_code 77 = .ok (.ifCond .eq 7, 3) := by decide +kernel
theorem d_Pl_answer_80 : decode prog_7_method_2_code 80 = .ok (.iconst 1, 1) := by decide +kernel
theorem d_Pl_answer_81 : decode prog_7_method_2_code 81 = .ok (.goto 4, 3) := by decide +kernel
theorem d_Pl_answer_84 : decode prog_7_method_2_code 84 = .ok (.iconst 0, 1) := by decide +kernel
theorem d_Pl_answer_85 : decode prog_7_method_2_code 85 = .ok (.ireturn, 1) := by decide +kernel
theorem d_Pl_answer_86 : decode prog_7_method_2_code 86 = .ok (.lload_n 2, 1) := by decide +kernel
theorem d_Pl_answer_87 : decode prog_7_method_2_code 87 = .ok (.invokestatic 52, 3) := by decide +kernel
theorem d_Pl_answer_90 : decode prog_7_method_2_code 90 = .ok (.ireturn, 1) := by decide +kernel
abbrev S_Pl_answer : Type := Nat × Int32 × Int32 × Int64 × Int32 × Int32 × AM
noncomputable def T_Pl_answer_0 (v0I : Int32) (v1I : Int32) (v2J : Int64) (v4I : Int32) (σ : AM) : S_Pl_answer ⊕ Option (Int32 × AM) :=
  if v0I = (0 : Int32) then (.inr (some (v4I, σ))) else (if v0I = (1 : Int32) then (bndT (M_St_swung v2J v1I σ) fun r3 σ4 => if (lg_cmp r3 (0 : Int64)) = 0 then (.inl (1, 0, 0, 0, 0, (0 : Int32), σ4)) else (.inl (1, 0, 0, 0, 0, (1 : Int32), σ4))) else (if v0I = (2 : Int32) then (bndT (M_St_swappable v2J (v1I / (6 : Int32)) (v1I - v1I / (6 : Int32) * (6 : Int32)) σ) fun r6 σ7 => if r6 = 0 then (.inl (2, 0, 0, 0, 0, (0 : Int32), σ7)) else (.inl (2, 0, 0, 0, 0, (1 : Int32), σ7))) else (if v0I = (3 : Int32) then (bndT (M_St_has v2J v1I σ) fun r9 σ10 => if r9 = 0 then (.inl (3, 0, 0, 0, 0, (0 : Int32), σ10)) else (.inl (3, 0, 0, 0, 0, (1 : Int32), σ10))) else (bndT (M_JLong_bitCount v2J σ) fun r11 σ12 => .inr (some (r11, σ12))))))
noncomputable def T_Pl_answer_1 (s0I : Int32) (σ : AM) : S_Pl_answer ⊕ Option (Int32 × AM) :=
  .inr (some (s0I, σ))
noncomputable def T_Pl_answer_2 (s0I : Int32) (σ : AM) : S_Pl_answer ⊕ Option (Int32 × AM) :=
  .inr (some (s0I, σ))
noncomputable def T_Pl_answer_3 (s0I : Int32) (σ : AM) : S_Pl_answer ⊕ Option (Int32 × AM) :=
  .inr (some (s0I, σ))
noncomputable def F_Pl_answer : S_Pl_answer → S_Pl_answer ⊕ Option (Int32 × AM) := fun s => match s.1 with
  | 0 => T_Pl_answer_0 (s.2.1) (s.2.2.1) (s.2.2.2.1) (s.2.2.2.2.1) (s.2.2.2.2.2.2)
  | 1 => T_Pl_answer_1 (s.2.2.2.2.2.1) (s.2.2.2.2.2.2)
  | 2 => T_Pl_answer_2 (s.2.2.2.2.2.1) (s.2.2.2.2.2.2)
  | _ => T_Pl_answer_3 (s.2.2.2.2.2.1) (s.2.2.2.2.2.2)
noncomputable def L_Pl_answer_0 (v0I : Int32) (v1I : Int32) (v2J : Int64) (v4I : Int32) (σ : AM) : Option (Int32 × AM) := lp F_Pl_answer (0, v0I, v1I, v2J, v4I, 0, σ)
noncomputable def L_Pl_answer_1 (s0I : Int32) (σ : AM) : Option (Int32 × AM) := lp F_Pl_answer (1, 0, 0, 0, 0, s0I, σ)
noncomputable def L_Pl_answer_2 (s0I : Int32) (σ : AM) : Option (Int32 × AM) := lp F_Pl_answer (2, 0, 0, 0, 0, s0I, σ)
noncomputable def L_Pl_answer_3 (s0I : Int32) (σ : AM) : Option (Int32 × AM) := lp F_Pl_answer (3, 0, 0, 0, 0, s0I, σ)
set_option maxRecDepth 20000 in
theorem E_Pl_answer_0 (v0I : Int32) (v1I : Int32) (v2J : Int64) (v4I : Int32) (σ : AM) : L_Pl_answer_0 v0I v1I v2J v4I σ = (if v0I = (0 : Int32) then ((some (v4I, σ))) else (if v0I = (1 : Int32) then (bnd (M_St_swung v2J v1I σ) fun r3 σ4 => if (lg_cmp r3 (0 : Int64)) = 0 then (L_Pl_answer_1 ((0 : Int32)) σ4) else (L_Pl_answer_1 ((1 : Int32)) σ4)) else (if v0I = (2 : Int32) then (bnd (M_St_swappable v2J (v1I / (6 : Int32)) (v1I - v1I / (6 : Int32) * (6 : Int32)) σ) fun r6 σ7 => if r6 = 0 then (L_Pl_answer_2 ((0 : Int32)) σ7) else (L_Pl_answer_2 ((1 : Int32)) σ7)) else (if v0I = (3 : Int32) then (bnd (M_St_has v2J v1I σ) fun r9 σ10 => if r9 = 0 then (L_Pl_answer_3 ((0 : Int32)) σ10) else (L_Pl_answer_3 ((1 : Int32)) σ10)) else (bnd (M_JLong_bitCount v2J σ) fun r11 σ12 => (some (r11, σ12))))))) := by
  unfold L_Pl_answer_0
  rw [lp_eq]
  show lpK (lp F_Pl_answer) (T_Pl_answer_0 v0I v1I v2J v4I σ) = _
  unfold T_Pl_answer_0
  simp only [lpK_ite, lq_inl, lq_inr, lpK_bnd, lpK_gd, lq_let]
  try rfl
set_option maxRecDepth 20000 in
theorem E_Pl_answer_1 (s0I : Int32) (σ : AM) : L_Pl_answer_1 s0I σ = ((some (s0I, σ))) := by
  unfold L_Pl_answer_1
  rw [lp_eq]
  show lpK (lp F_Pl_answer) (T_Pl_answer_1 s0I σ) = _
  unfold T_Pl_answer_1
  simp only [lpK_ite, lq_inl, lq_inr, lpK_bnd, lpK_gd, lq_let]
  try rfl
set_option maxRecDepth 20000 in
theorem E_Pl_answer_2 (s0I : Int32) (σ : AM) : L_Pl_answer_2 s0I σ = ((some (s0I, σ))) := by
  unfold L_Pl_answer_2
  rw [lp_eq]
  show lpK (lp F_Pl_answer) (T_Pl_answer_2 s0I σ) = _
  unfold T_Pl_answer_2
  simp only [lpK_ite, lq_inl, lq_inr, lpK_bnd, lpK_gd, lq_let]
  try rfl
set_option maxRecDepth 20000 in
theorem E_Pl_answer_3 (s0I : Int32) (σ : AM) : L_Pl_answer_3 s0I σ = ((some (s0I, σ))) := by
  unfold L_Pl_answer_3
  rw [lp_eq]
  show lpK (lp F_Pl_answer) (T_Pl_answer_3 s0I σ) = _
  unfold T_Pl_answer_3
  simp only [lpK_ite, lq_inl, lq_inr, lpK_bnd, lpK_gd, lq_let]
  try rfl
noncomputable def M_Pl_answer (v0I : Int32) (v1I : Int32) (v2J : Int64) (v4I : Int32) (σ : AM) : Option (Int32 × AM) := mw σ (L_Pl_answer_0 v0I v1I v2J v4I σ)
def I_Pl_answer (G : GX) (p : Program) (l : Launch) (e : Env) (s : State) (m : MethodId) (args : Array Value) (below : List Frame) (meth : Method) (c : Code) (z0 u0 n : Nat) : Prop :=
  (∀ (v0I : Int32) (v1I : Int32) (v2J : Int64) (v4I : Int32) (σ : AM), VX (QM eI G args s below z0 u0) G p l e s m args below meth c 2 z0 u0 5 (lpn F_Pl_answer n (0, v0I, v1I, v2J, v4I, 0, σ)) 0 [(0, .int v0I), (1, .int v1I), (2, .long v2J), (4, .int v4I)] [] σ) ∧
  (∀ (s0I : Int32) (σ : AM), VX (QM eI G args s below z0 u0) G p l e s m args below meth c 2 z0 u0 5 (lpn F_Pl_answer n (1, 0, 0, 0, 0, s0I, σ)) 50 [] [.int s0I] σ) ∧
  (∀ (s0I : Int32) (σ : AM), VX (QM eI G args s below z0 u0) G p l e s m args below meth c 2 z0 u0 5 (lpn F_Pl_answer n (2, 0, 0, 0, 0, s0I, σ)) 71 [] [.int s0I] σ) ∧
  (∀ (s0I : Int32) (σ : AM), VX (QM eI G args s below z0 u0) G p l e s m args below meth c 2 z0 u0 5 (lpn F_Pl_answer n (3, 0, 0, 0, 0, s0I, σ)) 85 [] [.int s0I] σ)
set_option maxRecDepth 20000 in
theorem s_Pl_answer_0 {G : GX} {p : Program} {l : Launch} {e : Env} {s : State} {m : MethodId} {args : Array Value} {below : List Frame} {meth : Method} {c : Code} {z0 u0 n : Nat} (C : Cx G p s m args meth c prog_7_method_2_code 5 "BellPlate$Planner" ((some FieldType.int))) (IH : I_Pl_answer G p l e s m args below meth c z0 u0 n) (v0I : Int32) (v1I : Int32) (v2J : Int64) (v4I : Int32) (σ : AM) : VX (QM eI G args s below z0 u0) G p l e s m args below meth c 2 z0 u0 5 (lpK (lpn F_Pl_answer n) (T_Pl_answer_0 v0I v1I v2J v4I σ)) 0 [(0, .int v0I), (1, .int v1I), (2, .long v2J), (4, .int v4I)] [] σ := by
  unfold T_Pl_answer_0
  refine x_iload_n C d_Pl_answer_0 0 rfl ?_
  refine x_split (fun h1 => ?_) (fun h1 => ?_)
  · refine x_tabI (tgt := 32) C h1 d_Pl_answer_1 (by decide) (by decide) rfl (by decide) ?_
    refine x_iload C d_Pl_answer_32 3 rfl ?_
    exact x_iret C d_Pl_answer_34
  · refine x_split (fun h2 => ?_) (fun h2 => ?_)
    · refine x_tabI (tgt := 35) C h2 d_Pl_answer_1 (by decide) (by decide) rfl (by decide) ?_
      refine x_lload_n C d_Pl_answer_35 2 rfl ?_
      refine x_iload_n C d_Pl_answer_36 1 rfl ?_
      refine x_callSJ (As := [.long v2J, .int v1I]) C (c_St_swung G l v2J v1I σ) w1128 w1127 w1129 w141 k_St_swung rfl (by decide) (by decide) rfl (Nat.le_of_ble_eq_true rfl) d_Pl_answer_37 (fun r3 σ4 => ?_)
      refine x_lconst (v := (0 : Int64)) C d_Pl_answer_40 (by decide) ?_
      refine x_lcmp C d_Pl_answer_41 ?_
      refine x_if_eq (tgt := 49) C d_Pl_answer_42 (by decide) (fun _ => ?_) (fun _ => ?_)
      · refine x_iconst (v := (0 : Int32)) C d_Pl_answer_49 (by decide) ?_
        refine x_lv [] rfl ?_
        exact IH.2.1 ((0 : Int32)) (σ4)
      · refine x_iconst (v := (1 : Int32)) C d_Pl_answer_45 (by decide) ?_
        refine x_goto (tgt := 50) C d_Pl_answer_46 (by decide) ?_
        refine x_lv [] rfl ?_
        exact IH.2.1 ((1 : Int32)) (σ4)
    · refine x_split (fun h5 => ?_) (fun h5 => ?_)
      · refine x_tabI (tgt := 51) C h5 d_Pl_answer_1 (by decide) (by decide) rfl (by decide) ?_
        refine x_lload_n C d_Pl_answer_51 2 rfl ?_
        refine x_iload_n C d_Pl_answer_52 1 rfl ?_
        refine x_bipush (v := (6 : Int32)) C d_Pl_answer_53 (by decide) ?_
        refine x_idiv C d_Pl_answer_55 (by decide) ?_
        refine x_iload_n C d_Pl_answer_56 1 rfl ?_
        refine x_bipush (v := (6 : Int32)) C d_Pl_answer_57 (by decide) ?_
        refine x_irem C d_Pl_answer_59 (by decide) ?_
        refine x_callSI (As := [.long v2J, .int (v1I / (6 : Int32)), .int (v1I - v1I / (6 : Int32) * (6 : Int32))]) C (c_St_swappable G l v2J (v1I / (6 : Int32)) (v1I - v1I / (6 : Int32) * (6 : Int32)) σ) w1134 w1133 w1135 w141 k_St_swappable rfl (by decide) (by decide) rfl (Nat.le_of_ble_eq_true rfl) d_Pl_answer_60 (fun r6 σ7 => ?_)
        refine x_if_eq (tgt := 70) C d_Pl_answer_63 (by decide) (fun _ => ?_) (fun _ => ?_)
        · refine x_iconst (v := (0 : Int32)) C d_Pl_answer_70 (by decide) ?_
          refine x_lv [] rfl ?_
          exact IH.2.2.1 ((0 : Int32)) (σ7)
        · refine x_iconst (v := (1 : Int32)) C d_Pl_answer_66 (by decide) ?_
          refine x_goto (tgt := 71) C d_Pl_answer_67 (by decide) ?_
          refine x_lv [] rfl ?_
          exact IH.2.2.1 ((1 : Int32)) (σ7)
      · refine x_split (fun h8 => ?_) (fun h8 => ?_)
        · refine x_tabI (tgt := 72) C h8 d_Pl_answer_1 (by decide) (by decide) rfl (by decide) ?_
          refine x_lload_n C d_Pl_answer_72 2 rfl ?_
          refine x_iload_n C d_Pl_answer_73 1 rfl ?_
          refine x_callSI (As := [.long v2J, .int v1I]) C (c_St_has G l v2J v1I σ) w1101 w1138 w1102 w141 k_St_has rfl (by decide) (by decide) rfl (Nat.le_of_ble_eq_true rfl) d_Pl_answer_74 (fun r9 σ10 => ?_)
          refine x_if_eq (tgt := 84) C d_Pl_answer_77 (by decide) (fun _ => ?_) (fun _ => ?_)
          · refine x_iconst (v := (0 : Int32)) C d_Pl_answer_84 (by decide) ?_
            refine x_lv [] rfl ?_
            exact IH.2.2.2 ((0 : Int32)) (σ10)
          · refine x_iconst (v := (1 : Int32)) C d_Pl_answer_80 (by decide) ?_
            refine x_goto (tgt := 85) C d_Pl_answer_81 (by decide) ?_
            refine x_lv [] rfl ?_
            exact IH.2.2.2 ((1 : Int32)) (σ10)
        · refine x_tabO (tgt := 86) C d_Pl_answer_1 (by have e0 := lv_neT h1 (a := 0) (by decide); have e1 := lv_neT h2 (a := 1) (by decide); have e2 := lv_neT h5 (a := 2) (by decide); have e3 := lv_neT h8 (a := 3) (by decide); omega) (by decide) ?_
          refine x_lload_n C d_Pl_answer_86 2 rfl ?_
          refine x_callSI (As := [.long v2J]) C (c_JLong_bitCount G l v2J σ) w1066 w1139 w1067 w142 k_JLong_bitCount rfl (by decide) (by decide) rfl (Nat.le_of_ble_eq_true rfl) d_Pl_answer_87 (fun r11 σ12 => ?_)
          exact x_iret C d_Pl_answer_90
set_option maxRecDepth 20000 in
theorem s_Pl_answer_1 {G : GX} {p : Program} {l : Launch} {e : Env} {s : State} {m : MethodId} {args : Array Value} {below : List Frame} {meth : Method} {c : Code} {z0 u0 n : Nat} (C : Cx G p s m args meth c prog_7_method_2_code 5 "BellPlate$Planner" ((some FieldType.int))) (IH : I_Pl_answer G p l e s m args below meth c z0 u0 n) (s0I : Int32) (σ : AM) : VX (QM eI G args s below z0 u0) G p l e s m args below meth c 2 z0 u0 5 (lpK (lpn F_Pl_answer n) (T_Pl_answer_1 s0I σ)) 50 [] [.int s0I] σ := by
  unfold T_Pl_answer_1
  exact x_iret C d_Pl_answer_50
set_option maxRecDepth 20000 in
theorem s_Pl_answer_2 {G : GX} {p : Program} {l : Launch} {e : Env} {s : State} {m : MethodId} {args : Array Value} {below : List Frame} {meth : Method} {c : Code} {z0 u0 n : Nat} (C : Cx G p s m args meth c prog_7_method_2_code 5 "BellPlate$Planner" ((some FieldType.int))) (IH : I_Pl_answer G p l e s m args below meth c z0 u0 n) (s0I : Int32) (σ : AM) : VX (QM eI G args s below z0 u0) G p l e s m args below meth c 2 z0 u0 5 (lpK (lpn F_Pl_answer n) (T_Pl_answer_2 s0I σ)) 71 [] [.int s0I] σ := by
  unfold T_Pl_answer_2
  exact x_iret C d_Pl_answer_71
set_option maxRecDepth 20000 in
theorem s_Pl_answer_3 {G : GX} {p : Program} {l : Launch} {e : Env} {s : State} {m : MethodId} {args : Array Value} {below : List Frame} {meth : Method} {c : Code} {z0 u0 n : Nat} (C : Cx G p s m args meth c prog_7_method_2_code 5 "BellPlate$Planner" ((some FieldType.int))) (IH : I_Pl_answer G p l e s m args below meth c z0 u0 n) (s0I : Int32) (σ : AM) : VX (QM eI G args s below z0 u0) G p l e s m args below meth c 2 z0 u0 5 (lpK (lpn F_Pl_answer n) (T_Pl_answer_3 s0I σ)) 85 [] [.int s0I] σ := by
  unfold T_Pl_answer_3
  exact x_iret C d_Pl_answer_85
theorem i_Pl_answer {G : GX} {p : Program} {l : Launch} {e : Env} {s : State} {m : MethodId} {args : Array Value} {below : List Frame} {meth : Method} {c : Code} {z0 u0 : Nat} (C : Cx G p s m args meth c prog_7_method_2_code 5 "BellPlate$Planner" ((some FieldType.int))) (n : Nat) : I_Pl_answer G p l e s m args below meth c z0 u0 n := by
  induction n with
  | zero => exact ⟨fun _ _ _ _ _ => x_none, fun _ _ => x_none, fun _ _ => x_none, fun _ _ => x_none⟩
  | succ n IH => exact ⟨fun v0I v1I v2J v4I σ => s_Pl_answer_0 C IH v0I v1I v2J v4I σ, fun s0I σ => s_Pl_answer_1 C IH s0I σ, fun s0I σ => s_Pl_answer_2 C IH s0I σ, fun s0I σ => s_Pl_answer_3 C IH s0I σ⟩
theorem c_Pl_answer (G : GX) (l : Launch) (v0I : Int32) (v1I : Int32) (v2J : Int64) (v4I : Int32) (σ : AM) : CT eI G l 2 y_Pl_answer prog_7_method_2_code 5 ((some FieldType.int)) [.int v0I, .int v1I, .long v2J, .int v4I] σ (M_Pl_answer v0I v1I v2J v4I σ) := by
  refine ct_of (by decide +kernel) (Nat.le_of_ble_eq_true rfl) (fun p e s m args below meth c C hin => ?_)
  refine x_lve (lv' := [(0, .int v0I), (1, .int v1I), (2, .long v2J), (4, .int v4I)]) rfl ?_
  intro r σ' h
  obtain ⟨n, hn⟩ := (lp_iff _ _ _).mp h
  exact (i_Pl_answer C n).1 v0I v1I v2J v4I σ r σ' hn
/-! BellPlate$Planner.allOrNone(II)I -/
abbrev y_Pl_allOrNone : MethodName := ⟨"BellPlate$Planner", "allOrNone", "(II)I"⟩
theorem k_Pl_allOrNone : y_Pl_allOrNone.cls ≠ "java/lang/invoke/MethodHandle" ∧ y_Pl_allOrNone.cls ≠ "java/lang/invoke/VarHandle" ∧ (parseMethodDescriptor y_Pl_allOrNone.desc).map (fun d => d.parameters.length) = some 2 := by decide +kernel
theorem d_Pl_allOrNone_0 : decode prog_7_method_3_code 0 = .ok (.iconst 0, 1) := by decide +kernel
theorem d_Pl_allOrNone_1 : decode prog_7_method_3_code 1 = .ok (.istore_n 3, 1) := by decide +kernel
theorem d_Pl_allOrNone_2 : decode prog_7_method_3_code 2 = .ok (.iconst 0, 1) := by decide +kernel
theorem d_Pl_allOrNone_3 : decode prog_7_method_3_code 3 = .ok (.istore 4, 2) := by decide +kernel
theorem d_Pl_allOrNone_5 : decode prog_7_method_3_code 5 = .ok (.iload 4, 2) := by decide +kernel
theorem d_Pl_allOrNone_7 : decode prog_7_method_3_code 7 = .ok (.aload_n 0, 1) := by decide +kernel
theorem d_Pl_allOrNone_8 : decode prog_7_method_3_code 8 = .ok (.getfield 15, 3) := by decide +kernel
theorem d_Pl_allOrNone_11 : decode prog_7_method_3_code 11 = .ok (.invokevirtual 58, 3) := by decide +kernel
theorem d_Pl_allOrNone_14 : decode prog_7_method_3_code 14 = .ok (.if_icmp .ge 28, 3) := by decide +kernel
theorem d_Pl_allOrNone_17 : decode prog_7_method_3_code 17 = .ok (.iload_n 3, 1) := by decide +kernel
theorem d_Pl_allOrNone_18 : decode prog_7_method_3_code 18 = .ok (.iload_n 1, 1) := by decide +kernel
theorem d_Pl_allOrNone_19 : decode prog_7_method_3_code 19 = .ok (.iload_n 2, 1) := by decide +kernel
theorem d_Pl_allOrNone_20 : decode prog_7_method_3_code 20 = .ok (.aload_n 0, 1) := by decide +kernel
theorem d_Pl_allOrNone_21 : decode prog_7_method_3_code 21 = .ok (.getfield 15, 3) := by decide +kernel
theorem d_Pl_allOrNone_24 : decode prog_7_method_3_code 24 = .ok (.iload 4, 2) := by decide +kernel
theorem d_Pl_allOrNone_26 : decode prog_7_method_3_code 26 = .ok (.invokevirtual 64, 3) := by decide +kernel
theorem d_Pl_allOrNone_29 : decode prog_7_method_3_code 29 = .ok (.iload 4, 2) := by decide +kernel
theorem d_Pl_allOrNone_31 : decode prog_7_method_3_code 31 = .ok (.invokestatic 68, 3) := by decide +kernel
theorem d_Pl_allOrNone_34 : decode prog_7_method_3_code 34 = .ok (.iadd, 1) := by decide +kernel
theorem d_Pl_allOrNone_35 : decode prog_7_method_3_code 35 = .ok (.istore_n 3, 1) := by decide +kernel
theorem d_Pl_allOrNone_36 : decode prog_7_method_3_code 36 = .ok (.iinc 4 1, 3) := by decide +kernel
theorem d_Pl_allOrNone_39 : decode prog_7_method_3_code 39 = .ok (.goto (-34), 3) := by decide +kernel
theorem d_Pl_allOrNone_42 : decode prog_7_method_3_code 42 = .ok (.iload_n 3, 1) := by decide +kernel
theorem d_Pl_allOrNone_43 : decode prog_7_method_3_code 43 = .ok (.aload_n 0, 1) := by decide +kernel
theorem d_Pl_allOrNone_44 : decode prog_7_method_3_code 44 = .ok (.getfield 15, 3) := by decide +kernel
theorem d_Pl_allOrNone_47 : decode prog_7_method_3_code 47 = .ok (.invokevirtual 58, 3) := by decide +kernel
theorem d_Pl_allOrNone_50 : decode prog_7_method_3_code 50 = .ok (.if_icmp .ne 5, 3) := by decide +kernel
theorem d_Pl_allOrNone_53 : decode prog_7_method_3_code 53 = .ok (.iconst 1, 1) := by decide +kernel
theorem d_Pl_allOrNone_54 : decode prog_7_method_3_code 54 = .ok (.ireturn, 1) := by decide +kernel
theorem d_Pl_allOrNone_55 : decode prog_7_method_3_code 55 = .ok (.iload_n 3, 1) := by decide +kernel
theorem d_Pl_allOrNone_56 : decode prog_7_method_3_code 56 = .ok (.ifCond .ne 7, 3) := by decide +kernel
theorem d_Pl_allOrNone_59 : decode prog_7_method_3_code 59 = .ok (.iconst 0, 1) := by decide +kernel
theorem d_Pl_allOrNone_60 : decode prog_7_method_3_code 60 = .ok (.goto 4, 3) := by decide +kernel
theorem d_Pl_allOrNone_63 : decode prog_7_method_3_code 63 = .ok (.iconst 2, 1) := by decide +kernel
theorem d_Pl_allOrNone_64 : decode prog_7_method_3_code 64 = .ok (.ireturn, 1) := by decide +kernel
abbrev S_Pl_allOrNone : Type := Nat × Nat × Int32 × Int32 × Int32 × Int32 × Int32 × AM
noncomputable def T_Pl_allOrNone_0 (v0R : Nat) (v1I : Int32) (v2I : Int32) (σ : AM) : S_Pl_allOrNone ⊕ Option (Int32 × AM) :=
  .inl (1, v0R, v1I, v2I, (0 : Int32), (0 : Int32), 0, σ)
noncomputable def T_Pl_allOrNone_1 (v0R : Nat) (v1I : Int32) (v2I : Int32) (v3I : Int32) (v4I : Int32) (σ : AM) : S_Pl_allOrNone ⊕ Option (Int32 × AM) :=
  gdT (okO σ v0R 7) <| gdT (okO σ (aR σ v0R 1) 5) <| bndT (M_Rs_size (aR σ v0R 1) σ) fun r3 σ4 => if v4I < r3 then (gdT (okO σ4 v0R 7) <| gdT (okO σ4 (aR σ4 v0R 1) 5) <| bndT (M_Rs_listAt (aR σ4 v0R 1) v4I σ4) fun r7 σ8 => bndT (M_Pl_answer v1I v2I r7 v4I σ8) fun r9 σ10 => letT (v3I + r9) fun x11 => .inl (1, v0R, v1I, v2I, x11, v4I + (1 : Int32), 0, σ10)) else (gdT (okO σ4 v0R 7) <| gdT (okO σ4 (aR σ4 v0R 1) 5) <| bndT (M_Rs_size (aR σ4 v0R 1) σ4) fun r14 σ15 => if v3I = r14 then (.inr (some ((1 : Int32), σ15))) else (if v3I = 0 then (.inl (2, 0, 0, 0, 0, 0, (0 : Int32), σ15)) else (.inl (2, 0, 0, 0, 0, 0, (2 : Int32), σ15))))
noncomputable def T_Pl_allOrNone_2 (s0I : Int32) (σ : AM) : S_Pl_allOrNone ⊕ Option (Int32 × AM) :=
  .inr (some (s0I, σ))
noncomputable def F_Pl_allOrNone : S_Pl_allOrNone → S_Pl_allOrNone ⊕ Option (Int32 × AM) := fun s => match s.1 with
  | 0 => T_Pl_allOrNone_0 (s.2.1) (s.2.2.1) (s.2.2.2.1) (s.2.2.2.2.2.2.2)
  | 1 => T_Pl_allOrNone_1 (s.2.1) (s.2.2.1) (s.2.2.2.1) (s.2.2.2.2.1) (s.2.2.2.2.2.1) (s.2.2.2.2.2.2.2)
  | _ => T_Pl_allOrNone_2 (s.2.2.2.2.2.2.1) (s.2.2.2.2.2.2.2)
noncomputable def L_Pl_allOrNone_0 (v0R : Nat) (v1I : Int32) (v2I : Int32) (σ : AM) : Option (Int32 × AM) := lp F_Pl_allOrNone (0, v0R, v1I, v2I, 0, 0, 0, σ)
noncomputable def L_Pl_allOrNone_1 (v0R : Nat) (v1I : Int32) (v2I : Int32) (v3I : Int32) (v4I : Int32) (σ : AM) : Option (Int32 × AM) := lp F_Pl_allOrNone (1, v0R, v1I, v2I, v3I, v4I, 0, σ)
noncomputable def L_Pl_allOrNone_2 (s0I : Int32) (σ : AM) : Option (Int32 × AM) := lp F_Pl_allOrNone (2, 0, 0, 0, 0, 0, s0I, σ)
set_option maxRecDepth 20000 in
theorem E_Pl_allOrNone_0 (v0R : Nat) (v1I : Int32) (v2I : Int32) (σ : AM) : L_Pl_allOrNone_0 v0R v1I v2I σ = (L_Pl_allOrNone_1 v0R v1I v2I ((0 : Int32)) ((0 : Int32)) σ) := by
  unfold L_Pl_allOrNone_0
  rw [lp_eq]
  show lpK (lp F_Pl_allOrNone) (T_Pl_allOrNone_0 v0R v1I v2I σ) = _
  unfold T_Pl_allOrNone_0
  simp only [lpK_ite, lq_inl, lq_inr, lpK_bnd, lpK_gd, lq_let]
  try rfl
set_option maxRecDepth 20000 in
theorem E_Pl_allOrNone_1 (v0R : Nat) (v1I : Int32) (v2I : Int32) (v3I : Int32) (v4I : Int32) (σ : AM) : L_Pl_allOrNone_1 v0R v1I v2I v3I v4I σ = (gd (okO σ v0R 7) <| gd (okO σ (aR σ v0R 1) 5) <| bnd (M_Rs_size (aR σ v0R 1) σ) fun r3 σ4 => if v4I < r3 then (gd (okO σ4 v0R 7) <| gd (okO σ4 (aR σ4 v0R 1) 5) <| bnd (M_Rs_listAt (aR σ4 v0R 1) v4I σ4) fun r7 σ8 => bnd (M_Pl_answer v1I v2I r7 v4I σ8) fun r9 σ10 => letT (v3I + r9) fun x11 => L_Pl_allOrNone_1 v0R v1I v2I x11 (v4I + (1 : Int32)) σ10) else (gd (okO σ4 v0R 7) <| gd (okO σ4 (aR σ4 v0R 1) 5) <| bnd (M_Rs_size (aR σ4 v0R 1) σ4) fun r14 σ15 => if v3I = r14 then ((some ((1 : Int32), σ15))) else (if v3I = 0 then (L_Pl_allOrNone_2 ((0 : Int32)) σ15) else (L_Pl_allOrNone_2 ((2 : Int32)) σ15)))) := by
  unfold L_Pl_allOrNone_1
  rw [lp_eq]
  show lpK (lp F_Pl_allOrNone) (T_Pl_allOrNone_1 v0R v1I v2I v3I v4I σ) = _
  unfold T_Pl_allOrNone_1
  simp only [lpK_ite, lq_inl, lq_inr, lpK_bnd, lpK_gd, lq_let]
  try rfl
set_option maxRecDepth 20000 in
theorem E_Pl_allOrNone_2 (s0I : Int32) (σ : AM) : L_Pl_allOrNone_2 s0I σ = ((some (s0I, σ))) := by
  unfold L_Pl_allOrNone_2
  rw [lp_eq]
  show lpK (lp F_Pl_allOrNone) (T_Pl_allOrNone_2 s0I σ) = _
  unfold T_Pl_allOrNone_2
  simp only [lpK_ite, lq_inl, lq_inr, lpK_bnd, lpK_gd, lq_let]
  try rfl
noncomputable def M_Pl_allOrNone (v0R : Nat) (v1I : Int32) (v2I : Int32) (σ : AM) : Option (Int32 × AM) := mw σ (L_Pl_allOrNone_0 v0R v1I v2I σ)
def I_Pl_allOrNone (G : GX) (p : Program) (l : Launch) (e : Env) (s : State) (m : MethodId) (args : Array Value) (below : List Frame) (meth : Method) (c : Code) (z0 u0 n : Nat) : Prop :=
  (∀ (v0R : Nat) (v1I : Int32) (v2I : Int32) (σ : AM), VX (QM eI G args s below z0 u0) G p l e s m args below meth c 3 z0 u0 5 (lpn F_Pl_allOrNone n (0, v0R, v1I, v2I, 0, 0, 0, σ)) 0 [(0, .ref v0R), (1, .int v1I), (2, .int v2I)] [] σ) ∧
  (∀ (v0R : Nat) (v1I : Int32) (v2I : Int32) (v3I : Int32) (v4I : Int32) (σ : AM), VX (QM eI G args s below z0 u0) G p l e s m args below meth c 3 z0 u0 5 (lpn F_Pl_allOrNone n (1, v0R, v1I, v2I, v3I, v4I, 0, σ)) 5 [(0, .ref v0R), (1, .int v1I), (2, .int v2I), (3, .int v3I), (4, .int v4I)] [] σ) ∧
  (∀ (s0I : Int32) (σ : AM), VX (QM eI G args s below z0 u0) G p l e s m args below meth c 3 z0 u0 5 (lpn F_Pl_allOrNone n (2, 0, 0, 0, 0, 0, s0I, σ)) 64 [] [.int s0I] σ)
set_option maxRecDepth 20000 in
theorem s_Pl_allOrNone_0 {G : GX} {p : Program} {l : Launch} {e : Env} {s : State} {m : MethodId} {args : Array Value} {below : List Frame} {meth : Method} {c : Code} {z0 u0 n : Nat} (C : Cx G p s m args meth c prog_7_method_3_code 5 "BellPlate$Planner" ((some FieldType.int))) (IH : I_Pl_allOrNone G p l e s m args below meth c z0 u0 n) (v0R : Nat) (v1I : Int32) (v2I : Int32) (σ : AM) : VX (QM eI G args s below z0 u0) G p l e s m args below meth c 3 z0 u0 5 (lpK (lpn F_Pl_allOrNone n) (T_Pl_allOrNone_0 v0R v1I v2I σ)) 0 [(0, .ref v0R), (1, .int v1I), (2, .int v2I)] [] σ := by
  unfold T_Pl_allOrNone_0
  refine x_iconst (v := (0 : Int32)) C d_Pl_allOrNone_0 (by decide) ?_
  refine x_istore_n (lv' := [(3, .int (0 : Int32)), (0, .ref v0R), (1, .int v1I), (2, .int v2I)]) C d_Pl_allOrNone_1 (by decide) rfl rfl ?_
  refine x_iconst (v := (0 : Int32)) C d_Pl_allOrNone_2 (by decide) ?_
  refine x_istore (lv' := [(4, .int (0 : Int32)), (3, .int (0 : Int32)), (0, .ref v0R), (1, .int v1I), (2, .int v2I)]) C d_Pl_allOrNone_3 (by decide) rfl ?_
  refine x_lv [2, 3, 4, 1, 0] rfl ?_
  exact IH.2.1 v0R v1I v2I ((0 : Int32)) ((0 : Int32)) (σ)
set_option maxRecDepth 20000 in
theorem s_Pl_allOrNone_1 {G : GX} {p : Program} {l : Launch} {e : Env} {s : State} {m : MethodId} {args : Array Value} {below : List Frame} {meth : Method} {c : Code} {z0 u0 n : Nat} (C : Cx G p s m args meth c prog_7_method_3_code 5 "BellPlate$Planner" ((some FieldType.int))) (IH : I_Pl_allOrNone G p l e s m args below meth c z0 u0 n) (v0R : Nat) (v1I : Int32) (v2I : Int32) (v3I : Int32) (v4I : Int32) (σ : AM) : VX (QM eI G args s below z0 u0) G p l e s m args below meth c 3 z0 u0 5 (lpK (lpn F_Pl_allOrNone n) (T_Pl_allOrNone_1 v0R v1I v2I v3I v4I σ)) 5 [(0, .ref v0R), (1, .int v1I), (2, .int v2I), (3, .int v3I), (4, .int v4I)] [] σ := by
  unfold T_Pl_allOrNone_1
  refine x_iload C d_Pl_allOrNone_5 4 rfl ?_
  refine x_aload_n C d_Pl_allOrNone_7 0 rfl ?_
  refine x_gd (fun h1 => ?_)
  refine x_gd (fun h2 => ?_)
  refine x_getR (k := 1) (kv := 5) C (okO_iff.mp h1) rfl j6_ok (by decide) rfl (okO_iff.mp h2) (by decide) w444 d_Pl_allOrNone_8 ?_
  refine x_callVI (As := []) C (c_Rs_size G l (aR σ v0R 1)  σ) (okO_iff.mp h2) rfl w1084 w1085 w1119 w1086 w125 k_Rs_size rfl (by decide) (by decide) rfl (Nat.le_of_ble_eq_true rfl) d_Pl_allOrNone_11 (fun r3 σ4 => ?_)
  refine x_icmp_ge (tgt := 42) C d_Pl_allOrNone_14 (by decide) (fun _ => ?_) (fun _ => ?_)
  · refine x_iload_n C d_Pl_allOrNone_17 3 rfl ?_
    refine x_iload_n C d_Pl_allOrNone_18 1 rfl ?_
    refine x_iload_n C d_Pl_allOrNone_19 2 rfl ?_
    refine x_aload_n C d_Pl_allOrNone_20 0 rfl ?_
    refine x_gd (fun h5 => ?_)
    refine x_gd (fun h6 => ?_)
    refine x_getR (k := 1) (kv := 5) C (okO_iff.mp h5) rfl j6_ok (by decide) rfl (okO_iff.mp h6) (by decide) w444 d_Pl_allOrNone_21 ?_
    refine x_iload C d_Pl_allOrNone_24 4 rfl ?_
    refine x_callVJ (As := [.int v4I]) C (c_Rs_listAt G l (aR σ4 v0R 1) v4I σ4) (okO_iff.mp h6) rfl w1121 w1122 w1120 w1123 w125 k_Rs_listAt rfl (by decide) (by decide) rfl (Nat.le_of_ble_eq_true rfl) d_Pl_allOrNone_26 (fun r7 σ8 => ?_)
    refine x_iload C d_Pl_allOrNone_29 4 rfl ?_
    refine x_callSI (As := [.int v1I, .int v2I, .long r7, .int v4I]) C (c_Pl_answer G l v1I v2I r7 v4I σ8) w1125 w1124 w1126 w128 k_Pl_answer rfl (by decide) (by decide) rfl (Nat.le_of_ble_eq_true rfl) d_Pl_allOrNone_31 (fun r9 σ10 => ?_)
    refine x_iadd C d_Pl_allOrNone_34 ?_
    refine x_letI (fun x11 _ => ?_)
    refine x_istore_n (lv' := [(3, .int x11), (0, .ref v0R), (1, .int v1I), (2, .int v2I), (4, .int v4I)]) C d_Pl_allOrNone_35 (by decide) rfl rfl ?_
    refine x_iinc (v := v4I + (1 : Int32)) (lv' := [(4, .int (v4I + (1 : Int32))), (3, .int x11), (0, .ref v0R), (1, .int v1I), (2, .int v2I)]) C d_Pl_allOrNone_36 4 rfl rfl (by decide) rfl ?_
    refine x_goto (tgt := 5) C d_Pl_allOrNone_39 (by decide) ?_
    refine x_lv [2, 3, 4, 1, 0] rfl ?_
    exact IH.2.1 v0R v1I v2I x11 (v4I + (1 : Int32)) (σ10)
  · refine x_iload_n C d_Pl_allOrNone_42 3 rfl ?_
    refine x_aload_n C d_Pl_allOrNone_43 0 rfl ?_
    refine x_gd (fun h12 => ?_)
    refine x_gd (fun h13 => ?_)
    refine x_getR (k := 1) (kv := 5) C (okO_iff.mp h12) rfl j6_ok (by decide) rfl (okO_iff.mp h13) (by decide) w444 d_Pl_allOrNone_44 ?_
    refine x_callVI (As := []) C (c_Rs_size G l (aR σ4 v0R 1)  σ4) (okO_iff.mp h13) rfl w1084 w1085 w1119 w1086 w125 k_Rs_size rfl (by decide) (by decide) rfl (Nat.le_of_ble_eq_true rfl) d_Pl_allOrNone_47 (fun r14 σ15 => ?_)
    refine x_icmp_ne (tgt := 55) C d_Pl_allOrNone_50 (by decide) (fun _ => ?_) (fun _ => ?_)
    · refine x_iconst (v := (1 : Int32)) C d_Pl_allOrNone_53 (by decide) ?_
      exact x_iret C d_Pl_allOrNone_54
    · refine x_iload_n C d_Pl_allOrNone_55 3 rfl ?_
      refine x_if_ne (tgt := 63) C d_Pl_allOrNone_56 (by decide) (fun _ => ?_) (fun _ => ?_)
      · refine x_iconst (v := (0 : Int32)) C d_Pl_allOrNone_59 (by decide) ?_
        refine x_goto (tgt := 64) C d_Pl_allOrNone_60 (by decide) ?_
        refine x_lv [] rfl ?_
        exact IH.2.2 ((0 : Int32)) (σ15)
      · refine x_iconst (v := (2 : Int32)) C d_Pl_allOrNone_63 (by decide) ?_
        refine x_lv [] rfl ?_
        exact IH.2.2 ((2 : Int32)) (σ15)
set_option maxRecDepth 20000 in
theorem s_Pl_allOrNone_2 {G : GX} {p : Program} {l : Launch} {e : Env} {s : State} {m : MethodId} {args : Array Value} {below : List Frame} {meth : Method} {c : Code} {z0 u0 n : Nat} (C : Cx G p s m args meth c prog_7_method_3_code 5 "BellPlate$Planner" ((some FieldType.int))) (IH : I_Pl_allOrNone G p l e s m args below meth c z0 u0 n) (s0I : Int32) (σ : AM) : VX (QM eI G args s below z0 u0) G p l e s m args below meth c 3 z0 u0 5 (lpK (lpn F_Pl_allOrNone n) (T_Pl_allOrNone_2 s0I σ)) 64 [] [.int s0I] σ := by
  unfold T_Pl_allOrNone_2
  exact x_iret C d_Pl_allOrNone_64
theorem i_Pl_allOrNone {G : GX} {p : Program} {l : Launch} {e : Env} {s : State} {m : MethodId} {args : Array Value} {below : List Frame} {meth : Method} {c : Code} {z0 u0 : Nat} (C : Cx G p s m args meth c prog_7_method_3_code 5 "BellPlate$Planner" ((some FieldType.int))) (n : Nat) : I_Pl_allOrNone G p l e s m args below meth c z0 u0 n := by
  induction n with
  | zero => exact ⟨fun _ _ _ _ => x_none, fun _ _ _ _ _ _ => x_none, fun _ _ => x_none⟩
  | succ n IH => exact ⟨fun v0R v1I v2I σ => s_Pl_allOrNone_0 C IH v0R v1I v2I σ, fun v0R v1I v2I v3I v4I σ => s_Pl_allOrNone_1 C IH v0R v1I v2I v3I v4I σ, fun s0I σ => s_Pl_allOrNone_2 C IH s0I σ⟩
theorem c_Pl_allOrNone (G : GX) (l : Launch) (v0R : Nat) (v1I : Int32) (v2I : Int32) (σ : AM) : CT eI G l 3 y_Pl_allOrNone prog_7_method_3_code 5 ((some FieldType.int)) [.ref v0R, .int v1I, .int v2I] σ (M_Pl_allOrNone v0R v1I v2I σ) := by
  refine ct_of (by decide +kernel) (Nat.le_of_ble_eq_true rfl) (fun p e s m args below meth c C hin => ?_)
  refine x_lve (lv' := [(0, .ref v0R), (1, .int v1I), (2, .int v2I)]) rfl ?_
  intro r σ' h
  obtain ⟨n, hn⟩ := (lp_iff _ _ _).mp h
  exact (i_Pl_allOrNone C n).1 v0R v1I v2I σ r σ' hn
/-! BellPlate$Planner.trials()I -/
abbrev y_Pl_trials : MethodName := ⟨"BellPlate$Planner", "trials", "()I"⟩
theorem k_Pl_trials : y_Pl_trials.cls ≠ "java/lang/invoke/MethodHandle" ∧ y_Pl_trials.cls ≠ "java/lang/invoke/VarHandle" ∧ (parseMethodDescriptor y_Pl_trials.desc).map (fun d => d.parameters.length) = some 0 := by decide +kernel
theorem d_Pl_trials_0 : decode prog_7_method_4_code 0 = .ok (.aload_n 0, 1) := by decide +kernel
theorem d_Pl_trials_1 : decode prog_7_method_4_code 1 = .ok (.getfield 72, 3) := by decide +kernel
theorem d_Pl_trials_4 : decode prog_7_method_4_code 4 = .ok (.ireturn, 1) := by decide +kernel
abbrev S_Pl_trials : Type := Nat × Nat × AM
noncomputable def T_Pl_trials_0 (v0R : Nat) (σ : AM) : S_Pl_trials ⊕ Option (Int32 × AM) :=
  gdT (okO σ v0R 7) <| .inr (some ((aI σ v0R 8), σ))
noncomputable def F_Pl_trials : S_Pl_trials → S_Pl_trials ⊕ Option (Int32 × AM) := fun s => match s.1 with
  | _ => T_Pl_trials_0 (s.2.1) (s.2.2)
noncomputable def L_Pl_trials_0 (v0R : Nat) (σ : AM) : Option (Int32 × AM) := lp F_Pl_trials (0, v0R, σ)
set_option maxRecDepth 20000 in
theorem E_Pl_trials_0 (v0R : Nat) (σ : AM) : L_Pl_trials_0 v0R σ = (gd (okO σ v0R 7) <| (some ((aI σ v0R 8), σ))) := by
  unfold L_Pl_trials_0
  rw [lp_eq]
  show lpK (lp F_Pl_trials) (T_Pl_trials_0 v0R σ) = _
  unfold T_Pl_trials_0
  simp only [lpK_ite, lq_inl, lq_inr, lpK_bnd, lpK_gd, lq_let]
  try rfl
noncomputable def M_Pl_trials (v0R : Nat) (σ : AM) : Option (Int32 × AM) := mw σ (L_Pl_trials_0 v0R σ)
def I_Pl_trials (G : GX) (p : Program) (l : Launch) (e : Env) (s : State) (m : MethodId) (args : Array Value) (below : List Frame) (meth : Method) (c : Code) (z0 u0 n : Nat) : Prop :=
  (∀ (v0R : Nat) (σ : AM), VX (QM eI G args s below z0 u0) G p l e s m args below meth c 0 z0 u0 1 (lpn F_Pl_trials n (0, v0R, σ)) 0 [(0, .ref v0R)] [] σ)
set_option maxRecDepth 20000 in
theorem s_Pl_trials_0 {G : GX} {p : Program} {l : Launch} {e : Env} {s : State} {m : MethodId} {args : Array Value} {below : List Frame} {meth : Method} {c : Code} {z0 u0 n : Nat} (C : Cx G p s m args meth c prog_7_method_4_code 1 "BellPlate$Planner" ((some FieldType.int))) (IH : I_Pl_trials G p l e s m args below meth c z0 u0 n) (v0R : Nat) (σ : AM) : VX (QM eI G args s below z0 u0) G p l e s m args below meth c 0 z0 u0 1 (lpK (lpn F_Pl_trials n) (T_Pl_trials_0 v0R σ)) 0 [(0, .ref v0R)] [] σ := by
  unfold T_Pl_trials_0
  refine x_aload_n C d_Pl_trials_0 0 rfl ?_
  refine x_gd (fun h1 => ?_)
  refine x_getI (k := 8) C (okO_iff.mp h1) rfl j6_ok (by decide) rfl w451 d_Pl_trials_1 ?_
  exact x_iret C d_Pl_trials_4
theorem i_Pl_trials {G : GX} {p : Program} {l : Launch} {e : Env} {s : State} {m : MethodId} {args : Array Value} {below : List Frame} {meth : Method} {c : Code} {z0 u0 : Nat} (C : Cx G p s m args meth c prog_7_method_4_code 1 "BellPlate$Planner" ((some FieldType.int))) (n : Nat) : I_Pl_trials G p l e s m args below meth c z0 u0 n := by
  induction n with
  | zero => exact fun _ _ => x_none
  | succ n IH => exact fun v0R σ => s_Pl_trials_0 C IH v0R σ
theorem c_Pl_trials (G : GX) (l : Launch) (v0R : Nat) (σ : AM) : CT eI G l 0 y_Pl_trials prog_7_method_4_code 1 ((some FieldType.int)) [.ref v0R] σ (M_Pl_trials v0R σ) := by
  refine ct_of (by decide +kernel) (Nat.le_of_ble_eq_true rfl) (fun p e s m args below meth c C hin => ?_)
  refine x_lve (lv' := [(0, .ref v0R)]) rfl ?_
  intro r σ' h
  obtain ⟨n, hn⟩ := (lp_iff _ _ _).mp h
  exact (i_Pl_trials C n) v0R σ r σ' hn
/-! BellPlate$Planner.firstSet()I -/
abbrev y_Pl_firstSet : MethodName := ⟨"BellPlate$Planner", "firstSet", "()I"⟩
theorem k_Pl_firstSet : y_Pl_firstSet.cls ≠ "java/lang/invoke/MethodHandle" ∧ y_Pl_firstSet.cls ≠ "java/lang/invoke/VarHandle" ∧ (parseMethodDescriptor y_Pl_firstSet.desc).map (fun d => d.parameters.length) = some 0 := by decide +kernel
theorem d_Pl_firstSet_0 : decode prog_7_method_5_code 0 = .ok (.aload_n 0, 1) := by decide +kernel
theorem d_Pl_firstSet_1 : decode prog_7_method_5_code 1 = .ok (.getfield 76, 3) := by decide +kernel
theorem d_Pl_firstSet_4 : decode prog_7_method_5_code 4 = .ok (.ireturn, 1) := by decide +kernel
abbrev S_Pl_firstSet : Type := Nat × Nat × AM
noncomputable def T_Pl_firstSet_0 (v0R : Nat) (σ : AM) : S_Pl_firstSet ⊕ Option (Int32 × AM) :=
  gdT (okO σ v0R 7) <| .inr (some ((aI σ v0R 9), σ))
noncomputable def F_Pl_firstSet : S_Pl_firstSet → S_Pl_firstSet ⊕ Option (Int32 × AM) := fun s => match s.1 with
  | _ => T_Pl_firstSet_0 (s.2.1) (s.2.2)
noncomputable def L_Pl_firstSet_0 (v0R : Nat) (σ : AM) : Option (Int32 × AM) := lp F_Pl_firstSet (0, v0R, σ)
set_option maxRecDepth 20000 in
theorem E_Pl_firstSet_0 (v0R : Nat) (σ : AM) : L_Pl_firstSet_0 v0R σ = (gd (okO σ v0R 7) <| (some ((aI σ v0R 9), σ))) := by
  unfold L_Pl_firstSet_0
  rw [lp_eq]
  show lpK (lp F_Pl_firstSet) (T_Pl_firstSet_0 v0R σ) = _
  unfold T_Pl_firstSet_0
  simp only [lpK_ite, lq_inl, lq_inr, lpK_bnd, lpK_gd, lq_let]
  try rfl
noncomputable def M_Pl_firstSet (v0R : Nat) (σ : AM) : Option (Int32 × AM) := mw σ (L_Pl_firstSet_0 v0R σ)
def I_Pl_firstSet (G : GX) (p : Program) (l : Launch) (e : Env) (s : State) (m : MethodId) (args : Array Value) (below : List Frame) (meth : Method) (c : Code) (z0 u0 n : Nat) : Prop :=
  (∀ (v0R : Nat) (σ : AM), VX (QM eI G args s below z0 u0) G p l e s m args below meth c 0 z0 u0 1 (lpn F_Pl_firstSet n (0, v0R, σ)) 0 [(0, .ref v0R)] [] σ)
set_option maxRecDepth 20000 in
theorem s_Pl_firstSet_0 {G : GX} {p : Program} {l : Launch} {e : Env} {s : State} {m : MethodId} {args : Array Value} {below : List Frame} {meth : Method} {c : Code} {z0 u0 n : Nat} (C : Cx G p s m args meth c prog_7_method_5_code 1 "BellPlate$Planner" ((some FieldType.int))) (IH : I_Pl_firstSet G p l e s m args below meth c z0 u0 n) (v0R : Nat) (σ : AM) : VX (QM eI G args s below z0 u0) G p l e s m args below meth c 0 z0 u0 1 (lpK (lpn F_Pl_firstSet n) (T_Pl_firstSet_0 v0R σ)) 0 [(0, .ref v0R)] [] σ := by
  unfold T_Pl_firstSet_0
  refine x_aload_n C d_Pl_firstSet_0 0 rfl ?_
  refine x_gd (fun h1 => ?_)
  refine x_getI (k := 9) C (okO_iff.mp h1) rfl j6_ok (by decide) rfl w452 d_Pl_firstSet_1 ?_
  exact x_iret C d_Pl_firstSet_4
theorem i_Pl_firstSet {G : GX} {p : Program} {l : Launch} {e : Env} {s : State} {m : MethodId} {args : Array Value} {below : List Frame} {meth : Method} {c : Code} {z0 u0 : Nat} (C : Cx G p s m args meth c prog_7_method_5_code 1 "BellPlate$Planner" ((some FieldType.int))) (n : Nat) : I_Pl_firstSet G p l e s m args below meth c z0 u0 n := by
  induction n with
  | zero => exact fun _ _ => x_none
  | succ n IH => exact fun v0R σ => s_Pl_firstSet_0 C IH v0R σ
theorem c_Pl_firstSet (G : GX) (l : Launch) (v0R : Nat) (σ : AM) : CT eI G l 0 y_Pl_firstSet prog_7_method_5_code 1 ((some FieldType.int)) [.ref v0R] σ (M_Pl_firstSet v0R σ) := by
  refine ct_of (by decide +kernel) (Nat.le_of_ble_eq_true rfl) (fun p e s m args below meth c C hin => ?_)
  refine x_lve (lv' := [(0, .ref v0R)]) rfl ?_
  intro r σ' h
  obtain ⟨n, hn⟩ := (lp_iff _ _ _).mp h
  exact (i_Pl_firstSet C n) v0R σ r σ' hn
/-! BellPlate$Planner.groupAnswers(III)V -/
abbrev y_Pl_groupAnswers : MethodName := ⟨"BellPlate$Planner", "groupAnswers", "(III)V"⟩
theorem k_Pl_groupAnswers : y_Pl_groupAnswers.cls ≠ "java/lang/invoke/MethodHandle" ∧ y_Pl_groupAnswers.cls ≠ "java/lang/invoke/VarHandle" ∧ (parseMethodDescriptor y_Pl_groupAnswers.desc).map (fun d => d.parameters.length) = some 3 := by decide +kernel
theorem d_Pl_groupAnswers_0 : decode prog_7_method_7_code 0 = .ok (.iconst 0, 1) := by decide +kernel
theorem d_Pl_groupAnswers_1 : decode prog_7_method_7_code 1 = .ok (.istore 4, 2) := by decide +kernel
theorem d_Pl_groupAnswers_3 : decode prog_7_method_7_code 3 = .ok (.iload 4, 2) := by decide +kernel
theorem d_Pl_groupAnswers_5 : decode prog_7_method_7_code 5 = .ok (.iload_n 3, 1) := by decide +kernel
theorem d_Pl_groupAnswers_6 : decode prog_7_method_7_code 6 = .ok (.if_icmp .ge 32, 3) := by decide +kernel
theorem d_Pl_groupAnswers_9 : decode prog_7_method_7_code 9 = .ok (.aload_n 0, 1) := by decide +kernel
theorem d_Pl_groupAnswers_10 : decode prog_7_method_7_code 10 = .ok (.getfield 19, 3) := by decide +kernel
theorem d_Pl_groupAnswers_13 : decode prog_7_method_7_code 13 = .ok (.iload 4, 2) := by decide +kernel
theorem d_Pl_groupAnswers_15 : decode prog_7_method_7_code 15 = .ok (.iload_n 1, 1) := by decide +kernel
theorem d_Pl_groupAnswers_16 : decode prog_7_method_7_code 16 = .ok (.iload_n 2, 1) := by decide +kernel
theorem d_Pl_groupAnswers_17 : decode prog_7_method_7_code 17 = .ok (.aload_n 0, 1) := by decide +kernel
theorem d_Pl_groupAnswers_18 : decode prog_7_method_7_code 18 = .ok (.getfield 15, 3) := by decide +kernel
theorem d_Pl_groupAnswers_21 : decode prog_7_method_7_code 21 = .ok (.iload 4, 2) := by decide +kernel
theorem d_Pl_groupAnswers_23 : decode prog_7_method_7_code 23 = .ok (.invokevirtual 64, 3) := by decide +kernel
theorem d_Pl_groupAnswers_26 : decode prog_7_method_7_code 26 = .ok (.iload 4, 2) := by decide +kernel
theorem d_Pl_groupAnswers_28 : decode prog_7_method_7_code 28 = .ok (.invokestatic 68, 3) := by decide +kernel
theorem d_Pl_groupAnswers_31 : decode prog_7_method_7_code 31 = .ok (.iastore, 1) := by decide +kernel
theorem d_Pl_groupAnswers_32 : decode prog_7_method_7_code 32 = .ok (.iinc 4 1, 3) := by decide +kernel
theorem d_Pl_groupAnswers_35 : decode prog_7_method_7_code 35 = .ok (.goto (-32), 3) := by decide +kernel
theorem d_Pl_groupAnswers_38 : decode prog_7_method_7_code 38 = .ok (.iconst 0, 1) := by decide +kernel
theorem d_Pl_groupAnswers_39 : decode prog_7_method_7_code 39 = .ok (.istore 4, 2) := by decide +kernel
theorem d_Pl_groupAnswers_41 : decode prog_7_method_7_code 41 = .ok (.iload 4, 2) := by decide +kernel
theorem d_Pl_groupAnswers_43 : decode prog_7_method_7_code 43 = .ok (.iload_n 3, 1) := by decide +kernel
theorem d_Pl_groupAnswers_44 : decode prog_7_method_7_code 44 = .ok (.if_icmp .ge 63, 3) := by decide +kernel
theorem d_Pl_groupAnswers_47 : decode prog_7_method_7_code 47 = .ok (.aload_n 0, 1) := by decide +kernel
theorem d_Pl_groupAnswers_48 : decode prog_7_method_7_code 48 = .ok (.getfield 23, 3) := by decide +kernel
theorem d_Pl_groupAnswers_51 : decode prog_7_method_7_code 51 = .ok (.iload 4, 2) := by decide +kernel
theorem d_Pl_groupAnswers_53 : decode prog_7_method_7_code 53 = .ok (.iconst 0, 1) := by decide +kernel
theorem d_Pl_groupAnswers_54 : decode prog_7_method_7_code 54 = .ok (.iastore, 1) := by decide +kernel
theorem d_Pl_groupAnswers_55 : decode prog_7_method_7_code 55 = .ok (.iconst 0, 1) := by decide +kernel
theorem d_Pl_groupAnswers_56 : decode prog_7_method_7_code 56 = .ok (.istore 5, 2) := by decide +kernel
theorem d_Pl_groupAnswers_58 : decode prog_7_method_7_code 58 = .ok (.iload 5, 2) := by decide +kernel
theorem d_Pl_groupAnswers_60 : decode prog_7_method_7_code 60 = .ok (.iload_n 3, 1) := by decide +kernel
theorem d_Pl_groupAnswers_61 : decode prog_7_method_7_code 61 = .ok (.if_icmp .ge 40, 3) := by decide +kernel
theorem d_Pl_groupAnswers_64 : decode prog_7_method_7_code 64 = .ok (.aload_n 0, 1) := by decide +kernel
theorem d_Pl_groupAnswers_65 : decode prog_7_method_7_code 65 = .ok (.getfield 19, 3) := by decide +kernel
theorem d_Pl_groupAnswers_68 : decode prog_7_method_7_code 68 = .ok (.iload 5, 2) := by decide +kernel
theorem d_Pl_groupAnswers_70 : decode prog_7_method_7_code 70 = .ok (.iaload, 1) := by decide +kernel
theorem d_Pl_groupAnswers_71 : decode prog_7_method_7_code 71 = .ok (.aload_n 0, 1) := by decide +kernel
theorem d_Pl_groupAnswers_72 : decode prog_7_method_7_code 72 = .ok (.getfield 19, 3) := by decide +kernel
theorem d_Pl_groupAnswers_75 : decode prog_7_method_7_code 75 = .ok (.iload 4, 2) := by decide +kernel
theorem d_Pl_groupAnswers_77 : decode prog_7_method_7_code 77 = .ok (.iaload, 1) := by decide +kernel
theorem d_Pl_groupAnswers_78 : decode prog_7_method_7_code 78 = .ok (.if_icmp .ne 17, 3) := by decide +kernel
theorem d_Pl_groupAnswers_81 : decode prog_7_method_7_code 81 = .ok (.aload_n 0, 1) := by decide +kernel
theorem d_Pl_groupAnswers_82 : decode prog_7_method_7_code 82 = .ok (.getfield 23, 3) := by decide +kernel
theorem d_Pl_groupAnswers_85 : decode prog_7_method_7_code 85 = .ok (.iload 4, 2) := by decide +kernel
theorem d_Pl_groupAnswers_87 : decode prog_7_method_7_code 87 = .ok (.dup2, 1) := by decide +kernel
theorem d_Pl_groupAnswers_88 : decode prog_7_method_7_code 88 = .ok (.iaload, 1) := by decide +kernel
theorem d_Pl_groupAnswers_89 : decode prog_7_method_7_code 89 = .ok (.iconst 1, 1) := by decide +kernel
theorem d_Pl_groupAnswers_90 : decode prog_7_method_7_code 90 = .ok (.iload 5, 2) := by decide +kernel
theorem d_Pl_groupAnswers_92 : decode prog_7_method_7_code 92 = .ok (.ishl, 1) := by decide +kernel
theorem d_Pl_groupAnswers_93 : decode prog_7_method_7_code 93 = .ok (.ior, 1) := by decide +kernel
theorem d_Pl_groupAnswers_94 : decode prog_7_method_7_code 94 = .ok (.iastore, 1) := by decide +kernel
theorem d_Pl_groupAnswers_95 : decode prog_7_method_7_code 95 = .ok (.iinc 5 1, 3) := by decide +kernel
theorem d_Pl_groupAnswers_98 : decode prog_7_method_7_code 98 = .ok (.goto (-40), 3) := by decide +kernel
theorem d_Pl_groupAnswers_101 : decode prog_7_method_7_code 101 = .ok (.iinc 4 1, 3) := by decide +kernel
theorem d_Pl_groupAnswers_104 : decode prog_7_method_7_code 104 = .ok (.goto (-63), 3) := by decide +kernel
theorem d_Pl_groupAnswers_107 : decode prog_7_method_7_code 107 = .ok (.return_, 1) := by decide +kernel
abbrev S_Pl_groupAnswers : Type := Nat × Nat × Int32 × Int32 × Int32 × Int32 × Int32 × AM
noncomputable def T_Pl_groupAnswers_0 (v0R : Nat) (v1I : Int32) (v2I : Int32) (v3I : Int32) (σ : AM) : S_Pl_groupAnswers ⊕ Option (Unit × AM) :=
  .inl (1, v0R, v1I, v2I, v3I, (0 : Int32), 0, σ)
noncomputable def T_Pl_groupAnswers_1 (v0R : Nat) (v1I : Int32) (v2I : Int32) (v3I : Int32) (v4I : Int32) (σ : AM) : S_Pl_groupAnswers ⊕ Option (Unit × AM) :=
  if v4I < v3I then (gdT (okO σ v0R 7) <| gdT (okO σ (aR σ v0R 2) 101) <| gdT (okO σ (aR σ v0R 1) 5) <| bndT (M_Rs_listAt (aR σ v0R 1) v4I σ) fun r4 σ5 => bndT (M_Pl_answer v1I v2I r4 v4I σ5) fun r6 σ7 => gdT (okO σ7 (aR σ v0R 2) 101) <| gdT (inB v4I (aN σ7 (aR σ v0R 2))) <| letT (sI σ7 (aR σ v0R 2) v4I.toNatClampNeg r6) fun σ10 => .inl (1, v0R, v1I, v2I, v3I, v4I + (1 : Int32), 0, σ10)) else (.inl (2, v0R, 0, 0, v3I, (0 : Int32), 0, σ))
noncomputable def T_Pl_groupAnswers_2 (v0R : Nat) (v3I : Int32) (v4I : Int32) (σ : AM) : S_Pl_groupAnswers ⊕ Option (Unit × AM) :=
  if v4I < v3I then (gdT (okO σ v0R 7) <| gdT (okO σ (aR σ v0R 3) 101) <| gdT (inB v4I (aN σ (aR σ v0R 3))) <| letT (sI σ (aR σ v0R 3) v4I.toNatClampNeg (0 : Int32)) fun σ4 => .inl (3, v0R, 0, 0, v3I, v4I, (0 : Int32), σ4)) else (.inr (some ((), σ)))
noncomputable def T_Pl_groupAnswers_3 (v0R : Nat) (v3I : Int32) (v4I : Int32) (v5I : Int32) (σ : AM) : S_Pl_groupAnswers ⊕ Option (Unit × AM) :=
  if v5I < v3I then (gdT (okO σ v0R 7) <| gdT (okO σ (aR σ v0R 2) 101) <| gdT (inB v5I (aN σ (aR σ v0R 2))) <| gdT (inB v4I (aN σ (aR σ v0R 2))) <| if (aI σ (aR σ v0R 2) v5I.toNatClampNeg) = (aI σ (aR σ v0R 2) v4I.toNatClampNeg) then (gdT (okO σ (aR σ v0R 3) 101) <| gdT (inB v4I (aN σ (aR σ v0R 3))) <| letT (sI σ (aR σ v0R 3) v4I.toNatClampNeg ((aI σ (aR σ v0R 3) v4I.toNatClampNeg) ||| ((1 : Int32) <<< (v5I &&& 31)))) fun σ7 => .inl (4, v0R, 0, 0, v3I, v4I, v5I, σ7)) else (.inl (4, v0R, 0, 0, v3I, v4I, v5I, σ))) else (.inl (2, v0R, 0, 0, v3I, v4I + (1 : Int32), 0, σ))
noncomputable def T_Pl_groupAnswers_4 (v0R : Nat) (v3I : Int32) (v4I : Int32) (v5I : Int32) (σ : AM) : S_Pl_groupAnswers ⊕ Option (Unit × AM) :=
  .inl (3, v0R, 0, 0, v3I, v4I, v5I + (1 : Int32), σ)
noncomputable def F_Pl_groupAnswers : S_Pl_groupAnswers → S_Pl_groupAnswers ⊕ Option (Unit × AM) := fun s => match s.1 with
  | 0 => T_Pl_groupAnswers_0 (s.2.1) (s.2.2.1) (s.2.2.2.1) (s.2.2.2.2.1) (s.2.2.2.2.2.2.2)
  | 1 => T_Pl_groupAnswers_1 (s.2.1) (s.2.2.1) (s.2.2.2.1) (s.2.2.2.2.1) (s.2.2.2.2.2.1) (s.2.2.2.2.2.2.2)
  | 2 => T_Pl_groupAnswers_2 (s.2.1) (s.2.2.2.2.1) (s.2.2.2.2.2.1) (s.2.2.2.2.2.2.2)
  | 3 => T_Pl_groupAnswers_3 (s.2.1) (s.2.2.2.2.1) (s.2.2.2.2.2.1) (s.2.2.2.2.2.2.1) (s.2.2.2.2.2.2.2)
  | _ => T_Pl_groupAnswers_4 (s.2.1) (s.2.2.2.2.1) (s.2.2.2.2.2.1) (s.2.2.2.2.2.2.1) (s.2.2.2.2.2.2.2)
noncomputable def L_Pl_groupAnswers_0 (v0R : Nat) (v1I : Int32) (v2I : Int32) (v3I : Int32) (σ : AM) : Option (Unit × AM) := lp F_Pl_groupAnswers (0, v0R, v1I, v2I, v3I, 0, 0, σ)
noncomputable def L_Pl_groupAnswers_1 (v0R : Nat) (v1I : Int32) (v2I : Int32) (v3I : Int32) (v4I : Int32) (σ : AM) : Option (Unit × AM) := lp F_Pl_groupAnswers (1, v0R, v1I, v2I, v3I, v4I, 0, σ)
noncomputable def L_Pl_groupAnswers_2 (v0R : Nat) (v3I : Int32) (v4I : Int32) (σ : AM) : Option (Unit × AM) := lp F_Pl_groupAnswers (2, v0R, 0, 0, v3I, v4I, 0, σ)
noncomputable def L_Pl_groupAnswers_3 (v0R : Nat) (v3I : Int32) (v4I : Int32) (v5I : Int32) (σ : AM) : Option (Unit × AM) := lp F_Pl_groupAnswers (3, v0R, 0, 0, v3I, v4I, v5I, σ)
noncomputable def L_Pl_groupAnswers_4 (v0R : Nat) (v3I : Int32) (v4I : Int32) (v5I : Int32) (σ : AM) : Option (Unit × AM) := lp F_Pl_groupAnswers (4, v0R, 0, 0, v3I, v4I, v5I, σ)
set_option maxRecDepth 20000 in
theorem E_Pl_groupAnswers_0 (v0R : Nat) (v1I : Int32) (v2I : Int32) (v3I : Int32) (σ : AM) : L_Pl_groupAnswers_0 v0R v1I v2I v3I σ = (L_Pl_groupAnswers_1 v0R v1I v2I v3I ((0 : Int32)) σ) := by
  unfold L_Pl_groupAnswers_0
  rw [lp_eq]
  show lpK (lp F_Pl_groupAnswers) (T_Pl_groupAnswers_0 v0R v1I v2I v3I σ) = _
  unfold T_Pl_groupAnswers_0
  simp only [lpK_ite, lq_inl, lq_inr, lpK_bnd, lpK_gd, lq_let]
  try rfl
set_option maxRecDepth 20000 in
theorem E_Pl_groupAnswers_1 (v0R : Nat) (v1I : Int32) (v2I : Int32) (v3I : Int32) (v4I : Int32) (σ : AM) : L_Pl_groupAnswers_1 v0R v1I v2I v3I v4I σ = (if v4I < v3I then (gd (okO σ v0R 7) <| gd (okO σ (aR σ v0R 2) 101) <| gd (okO σ (aR σ v0R 1) 5) <| bnd (M_Rs_listAt (aR σ v0R 1) v4I σ) fun r4 σ5 => bnd (M_Pl_answer v1I v2I r4 v4I σ5) fun r6 σ7 => gd (okO σ7 (aR σ v0R 2) 101) <| gd (inB v4I (aN σ7 (aR σ v0R 2))) <| letT (sI σ7 (aR σ v0R 2) v4I.toNatClampNeg r6) fun σ10 => L_Pl_groupAnswers_1 v0R v1I v2I v3I (v4I + (1 : Int32)) σ10) else (L_Pl_groupAnswers_2 v0R v3I ((0 : Int32)) σ)) := by
  unfold L_Pl_groupAnswers_1
  rw [lp_eq]
  show lpK (lp F_Pl_groupAnswers) (T_Pl_groupAnswers_1 v0R v1I v2I v3I v4I σ) = _
  unfold T_Pl_groupAnswers_1
  simp only [lpK_ite, lq_inl, lq_inr, lpK_bnd, lpK_gd, lq_let]
  try rfl
set_option maxRecDepth 20000 in
theorem E_Pl_groupAnswers_2 (v0R : Nat) (v3I : Int32) (v4I : Int32) (σ : AM) : L_Pl_groupAnswers_2 v0R v3I v4I σ = (if v4I < v3I then (gd (okO σ v0R 7) <| gd (okO σ (aR σ v0R 3) 101) <| gd (inB v4I (aN σ (aR σ v0R 3))) <| letT (sI σ (aR σ v0R 3) v4I.toNatClampNeg (0 : Int32)) fun σ4 => L_Pl_groupAnswers_3 v0R v3I v4I ((0 : Int32)) σ4) else ((some ((), σ)))) := by
  unfold L_Pl_groupAnswers_2
  rw [lp_eq]
  show lpK (lp F_Pl_groupAnswers) (T_Pl_groupAnswers_2 v0R v3I v4I σ) = _
  unfold T_Pl_groupAnswers_2
  simp only [lpK_ite, lq_inl, lq_inr, lpK_bnd, lpK_gd, lq_let]
  try rfl
set_option maxRecDepth 20000 in
theorem E_Pl_groupAnswers_3 (v0R : Nat) (v3I : Int32) (v4I : Int32) (v5I : Int32) (σ : AM) : L_Pl_groupAnswers_3 v0R v3I v4I v5I σ = (if v5I < v3I then (gd (okO σ v0R 7) <| gd (okO σ (aR σ v0R 2) 101) <| gd (inB v5I (aN σ (aR σ v0R 2))) <| gd (inB v4I (aN σ (aR σ v0R 2))) <| if (aI σ (aR σ v0R 2) v5I.toNatClampNeg) = (aI σ (aR σ v0R 2) v4I.toNatClampNeg) then (gd (okO σ (aR σ v0R 3) 101) <| gd (inB v4I (aN σ (aR σ v0R 3))) <| letT (sI σ (aR σ v0R 3) v4I.toNatClampNeg ((aI σ (aR σ v0R 3) v4I.toNatClampNeg) ||| ((1 : Int32) <<< (v5I &&& 31)))) fun σ7 => L_Pl_groupAnswers_4 v0R v3I v4I v5I σ7) else (L_Pl_groupAnswers_4 v0R v3I v4I v5I σ)) else (L_Pl_groupAnswers_2 v0R v3I (v4I + (1 : Int32)) σ)) := by
  unfold L_Pl_groupAnswers_3
  rw [lp_eq]
  show lpK (lp F_Pl_groupAnswers) (T_Pl_groupAnswers_3 v0R v3I v4I v5I σ) = _
  unfold T_Pl_groupAnswers_3
  simp only [lpK_ite, lq_inl, lq_inr, lpK_bnd, lpK_gd, lq_let]
  try rfl
set_option maxRecDepth 20000 in
theorem E_Pl_groupAnswers_4 (v0R : Nat) (v3I : Int32) (v4I : Int32) (v5I : Int32) (σ : AM) : L_Pl_groupAnswers_4 v0R v3I v4I v5I σ = (L_Pl_groupAnswers_3 v0R v3I v4I (v5I + (1 : Int32)) σ) := by
  unfold L_Pl_groupAnswers_4
  rw [lp_eq]
  show lpK (lp F_Pl_groupAnswers) (T_Pl_groupAnswers_4 v0R v3I v4I v5I σ) = _
  unfold T_Pl_groupAnswers_4
  simp only [lpK_ite, lq_inl, lq_inr, lpK_bnd, lpK_gd, lq_let]
  try rfl
noncomputable def M_Pl_groupAnswers (v0R : Nat) (v1I : Int32) (v2I : Int32) (v3I : Int32) (σ : AM) : Option (Unit × AM) := mw σ (L_Pl_groupAnswers_0 v0R v1I v2I v3I σ)
def I_Pl_groupAnswers (G : GX) (p : Program) (l : Launch) (e : Env) (s : State) (m : MethodId) (args : Array Value) (below : List Frame) (meth : Method) (c : Code) (z0 u0 n : Nat) : Prop :=
  (∀ (v0R : Nat) (v1I : Int32) (v2I : Int32) (v3I : Int32) (σ : AM), VX (QM eV G args s below z0 u0) G p l e s m args below meth c 3 z0 u0 6 (lpn F_Pl_groupAnswers n (0, v0R, v1I, v2I, v3I, 0, 0, σ)) 0 [(0, .ref v0R), (1, .int v1I), (2, .int v2I), (3, .int v3I)] [] σ) ∧
  (∀ (v0R : Nat) (v1I : Int32) (v2I : Int32) (v3I : Int32) (v4I : Int32) (σ : AM), VX (QM eV G args s below z0 u0) G p l e s m args below meth c 3 z0 u0 6 (lpn F_Pl_groupAnswers n (1, v0R, v1I, v2I, v3I, v4I, 0, σ)) 3 [(0, .ref v0R), (1, .int v1I), (2, .int v2I), (3, .int v3I), (4, .int v4I)] [] σ) ∧
  (∀ (v0R : Nat) (v3I : Int32) (v4I : Int32) (σ : AM), VX (QM eV G args s below z0 u0) G p l e s m args below meth c 3 z0 u0 6 (lpn F_Pl_groupAnswers n (2, v0R, 0, 0, v3I, v4I, 0, σ)) 41 [(0, .ref v0R), (3, .int v3I), (4, .int v4I)] [] σ) ∧
  (∀ (v0R : Nat) (v3I : Int32) (v4I : Int32) (v5I : Int32) (σ : AM), VX (QM eV G args s below z0 u0) G p l e s m args below meth c 3 z0 u0 6 (lpn F_Pl_groupAnswers n (3, v0R, 0, 0, v3I, v4I, v5I, σ)) 58 [(0, .ref v0R), (3, .int v3I), (4, .int v4I), (5, .int v5I)] [] σ) ∧
  (∀ (v0R : Nat) (v3I : Int32) (v4I : Int32) (v5I : Int32) (σ : AM), VX (QM eV G args s below z0 u0) G p l e s m args below meth c 3 z0 u0 6 (lpn F_Pl_groupAnswers n (4, v0R, 0, 0, v3I, v4I, v5I, σ)) 95 [(0, .ref v0R), (3, .int v3I), (4, .int v4I), (5, .int v5I)] [] σ)
set_option maxRecDepth 20000 in
theorem s_Pl_groupAnswers_0 {G : GX} {p : Program} {l : Launch} {e : Env} {s : State} {m : MethodId} {args : Array Value} {below : List Frame} {meth : Method} {c : Code} {z0 u0 n : Nat} (C : Cx G p s m args meth c prog_7_method_7_code 6 "BellPlate$Planner" ((none))) (IH : I_Pl_groupAnswers G p l e s m args below meth c z0 u0 n) (v0R : Nat) (v1I : Int32) (v2I : Int32) (v3I : Int32) (σ : AM) : VX (QM eV G args s below z0 u0) G p l e s m args below meth c 3 z0 u0 6 (lpK (lpn F_Pl_groupAnswers n) (T_Pl_groupAnswers_0 v0R v1I v2I v3I σ)) 0 [(0, .ref v0R), (1, .int v1I), (2, .int v2I), (3, .int v3I)] [] σ := by
  unfold T_Pl_groupAnswers_0
  refine x_iconst (v := (0 : Int32)) C d_Pl_groupAnswers_0 (by decide) ?_
  refine x_istore (lv' := [(4, .int (0 : Int32)), (0, .ref v0R), (1, .int v1I), (2, .int v2I), (3, .int v3I)]) C d_Pl_groupAnswers_1 (by decide) rfl ?_
  refine x_lv [1, 2, 3, 4, 0] rfl ?_
  exact IH.2.1 v0R v1I v2I v3I ((0 : Int32)) (σ)
set_option maxRecDepth 20000 in
theorem s_Pl_groupAnswers_1 {G : GX} {p : Program} {l : Launch} {e : Env} {s : State} {m : MethodId} {args : Array Value} {below : List Frame} {meth : Method} {c : Code} {z0 u0 n : Nat} (C : Cx G p s m args meth c prog_7_method_7_code 6 "BellPlate$Planner" ((none))) (IH : I_Pl_groupAnswers G p l e s m args below meth c z0 u0 n) (v0R : Nat) (v1I : Int32) (v2I : Int32) (v3I : Int32) (v4I : Int32) (σ : AM) : VX (QM eV G args s below z0 u0) G p l e s m args below meth c 3 z0 u0 6 (lpK (lpn F_Pl_groupAnswers n) (T_Pl_groupAnswers_1 v0R v1I v2I v3I v4I σ)) 3 [(0, .ref v0R), (1, .int v1I), (2, .int v2I), (3, .int v3I), (4, .int v4I)] [] σ := by
  unfold T_Pl_groupAnswers_1
  refine x_iload C d_Pl_groupAnswers_3 4 rfl ?_
  refine x_iload_n C d_Pl_groupAnswers_5 3 rfl ?_
  refine x_icmp_ge (tgt := 38) C d_Pl_groupAnswers_6 (by decide) (fun _ => ?_) (fun _ => ?_)
  · refine x_aload_n C d_Pl_groupAnswers_9 0 rfl ?_
    refine x_gd (fun h1 => ?_)
    refine x_gd (fun h2 => ?_)
    refine x_getR (k := 2) (kv := 101) C (okO_iff.mp h1) rfl j6_ok (by decide) rfl (okO_iff.mp h2) (by decide) w445 d_Pl_groupAnswers_10 ?_
    refine x_iload C d_Pl_groupAnswers_13 4 rfl ?_
    refine x_iload_n C d_Pl_groupAnswers_15 1 rfl ?_
    refine x_iload_n C d_Pl_groupAnswers_16 2 rfl ?_
    refine x_aload_n C d_Pl_groupAnswers_17 0 rfl ?_
    refine x_gd (fun h3 => ?_)
    refine x_getR (k := 1) (kv := 5) C (okO_iff.mp h1) rfl j6_ok (by decide) rfl (okO_iff.mp h3) (by decide) w444 d_Pl_groupAnswers_18 ?_
    refine x_iload C d_Pl_groupAnswers_21 4 rfl ?_
    refine x_callVJ (As := [.int v4I]) C (c_Rs_listAt G l (aR σ v0R 1) v4I σ) (okO_iff.mp h3) rfl w1121 w1122 w1120 w1123 w125 k_Rs_listAt rfl (by decide) (by decide) rfl (Nat.le_of_ble_eq_true rfl) d_Pl_groupAnswers_23 (fun r4 σ5 => ?_)
    refine x_iload C d_Pl_groupAnswers_26 4 rfl ?_
    refine x_callSI (As := [.int v1I, .int v2I, .long r4, .int v4I]) C (c_Pl_answer G l v1I v2I r4 v4I σ5) w1125 w1124 w1126 w128 k_Pl_answer rfl (by decide) (by decide) rfl (Nat.le_of_ble_eq_true rfl) d_Pl_groupAnswers_28 (fun r6 σ7 => ?_)
    refine x_gd (fun h8 => ?_)
    refine x_gd (fun h9 => ?_)
    refine x_astI C (okO_iff.mp h8) (inB_iff.mp h9) d_Pl_groupAnswers_31 ?_
    refine x_letS (fun σ10 e11 => ?_)
    refine x_iinc (v := v4I + (1 : Int32)) (lv' := [(4, .int (v4I + (1 : Int32))), (0, .ref v0R), (1, .int v1I), (2, .int v2I), (3, .int v3I)]) C d_Pl_groupAnswers_32 4 rfl rfl (by decide) rfl ?_
    refine x_goto (tgt := 3) C d_Pl_groupAnswers_35 (by decide) ?_
    refine x_lv [1, 2, 3, 4, 0] rfl ?_
    exact IH.2.1 v0R v1I v2I v3I (v4I + (1 : Int32)) (σ10)
  · refine x_iconst (v := (0 : Int32)) C d_Pl_groupAnswers_38 (by decide) ?_
    refine x_istore (lv' := [(4, .int (0 : Int32)), (0, .ref v0R), (1, .int v1I), (2, .int v2I), (3, .int v3I)]) C d_Pl_groupAnswers_39 (by decide) rfl ?_
    refine x_lv [1, 4, 0] rfl ?_
    exact IH.2.2.1 v0R v3I ((0 : Int32)) (σ)
set_option maxRecDepth 20000 in
theorem s_Pl_groupAnswers_2 {G : GX} {p : Program} {l : Launch} {e : Env} {s : State} {m : MethodId} {args : Array Value} {below : List Frame} {meth : Method} {c : Code} {z0 u0 n : Nat} (C : Cx G p s m args meth c prog_7_method_7_code 6 "BellPlate$Planner" ((none))) (IH : I_Pl_groupAnswers G p l e s m args below meth c z0 u0 n) (v0R : Nat) (v3I : Int32) (v4I : Int32) (σ : AM) : VX (QM eV G args s below z0 u0) G p l e s m args below meth c 3 z0 u0 6 (lpK (lpn F_Pl_groupAnswers n) (T_Pl_groupAnswers_2 v0R v3I v4I σ)) 41 [(0, .ref v0R), (3, .int v3I), (4, .int v4I)] [] σ := by
  unfold T_Pl_groupAnswers_2
  refine x_iload C d_Pl_groupAnswers_41 2 rfl ?_
  refine x_iload_n C d_Pl_groupAnswers_43 1 rfl ?_
  refine x_icmp_ge (tgt := 107) C d_Pl_groupAnswers_44 (by decide) (fun _ => ?_) (fun _ => ?_)
  · refine x_aload_n C d_Pl_groupAnswers_47 0 rfl ?_
    refine x_gd (fun h1 => ?_)
    refine x_gd (fun h2 => ?_)
    refine x_getR (k := 3) (kv := 101) C (okO_iff.mp h1) rfl j6_ok (by decide) rfl (okO_iff.mp h2) (by decide) w446 d_Pl_groupAnswers_48 ?_
    refine x_iload C d_Pl_groupAnswers_51 2 rfl ?_
    refine x_iconst (v := (0 : Int32)) C d_Pl_groupAnswers_53 (by decide) ?_
    refine x_gd (fun h3 => ?_)
    refine x_astI C (okO_iff.mp h2) (inB_iff.mp h3) d_Pl_groupAnswers_54 ?_
    refine x_letS (fun σ4 e5 => ?_)
    refine x_iconst (v := (0 : Int32)) C d_Pl_groupAnswers_55 (by decide) ?_
    refine x_istore (lv' := [(5, .int (0 : Int32)), (0, .ref v0R), (3, .int v3I), (4, .int v4I)]) C d_Pl_groupAnswers_56 (by decide) rfl ?_
    refine x_lv [1, 2, 3, 0] rfl ?_
    exact IH.2.2.2.1 v0R v3I v4I ((0 : Int32)) (σ4)
  · exact x_vret C d_Pl_groupAnswers_107
set_option maxRecDepth 20000 in
theorem s_Pl_groupAnswers_3 {G : GX} {p : Program} {l : Launch} {e : Env} {s : State} {m : MethodId} {args : Array Value} {below : List Frame} {meth : Method} {c : Code} {z0 u0 n : Nat} (C : Cx G p s m args meth c prog_7_method_7_code 6 "BellPlate$Planner" ((none))) (IH : I_Pl_groupAnswers G p l e s m args below meth c z0 u0 n) (v0R : Nat) (v3I : Int32) (v4I : Int32) (v5I : Int32) (σ : AM) : VX (QM eV G args s below z0 u0) G p l e s m args below meth c 3 z0 u0 6 (lpK (lpn F_Pl_groupAnswers n) (T_Pl_groupAnswers_3 v0R v3I v4I v5I σ)) 58 [(0, .ref v0R), (3, .int v3I), (4, .int v4I), (5, .int v5I)] [] σ := by
  unfold T_Pl_groupAnswers_3
  refine x_iload C d_Pl_groupAnswers_58 3 rfl ?_
  refine x_iload_n C d_Pl_groupAnswers_60 1 rfl ?_
  refine x_icmp_ge (tgt := 101) C d_Pl_groupAnswers_61 (by decide) (fun _ => ?_) (fun _ => ?_)
  · refine x_aload_n C d_Pl_groupAnswers_64 0 rfl ?_
    refine x_gd (fun h1 => ?_)
    refine x_gd (fun h2 => ?_)
    refine x_getR (k := 2) (kv := 101) C (okO_iff.mp h1) rfl j6_ok (by decide) rfl (okO_iff.mp h2) (by decide) w445 d_Pl_groupAnswers_65 ?_
    refine x_iload C d_Pl_groupAnswers_68 3 rfl ?_
    refine x_gd (fun h3 => ?_)
    refine x_aldI C (okO_iff.mp h2) (inB_iff.mp h3) d_Pl_groupAnswers_70 ?_
    refine x_aload_n C d_Pl_groupAnswers_71 0 rfl ?_
    refine x_getR (k := 2) (kv := 101) C (okO_iff.mp h1) rfl j6_ok (by decide) rfl (okO_iff.mp h2) (by decide) w445 d_Pl_groupAnswers_72 ?_
    refine x_iload C d_Pl_groupAnswers_75 2 rfl ?_
    refine x_gd (fun h4 => ?_)
    refine x_aldI C (okO_iff.mp h2) (inB_iff.mp h4) d_Pl_groupAnswers_77 ?_
    refine x_icmp_ne (tgt := 95) C d_Pl_groupAnswers_78 (by decide) (fun _ => ?_) (fun _ => ?_)
    · refine x_aload_n C d_Pl_groupAnswers_81 0 rfl ?_
      refine x_gd (fun h5 => ?_)
      refine x_getR (k := 3) (kv := 101) C (okO_iff.mp h1) rfl j6_ok (by decide) rfl (okO_iff.mp h5) (by decide) w446 d_Pl_groupAnswers_82 ?_
      refine x_iload C d_Pl_groupAnswers_85 2 rfl ?_
      refine x_dup2 C d_Pl_groupAnswers_87 rfl rfl ?_
      refine x_gd (fun h6 => ?_)
      refine x_aldI C (okO_iff.mp h5) (inB_iff.mp h6) d_Pl_groupAnswers_88 ?_
      refine x_iconst (v := (1 : Int32)) C d_Pl_groupAnswers_89 (by decide) ?_
      refine x_iload C d_Pl_groupAnswers_90 3 rfl ?_
      refine x_ishl C d_Pl_groupAnswers_92 ?_
      refine x_ior C d_Pl_groupAnswers_93 ?_
      refine x_astI C (okO_iff.mp h5) (inB_iff.mp h6) d_Pl_groupAnswers_94 ?_
      refine x_letS (fun σ7 e8 => ?_)
      exact IH.2.2.2.2 v0R v3I v4I v5I (σ7)
    · exact IH.2.2.2.2 v0R v3I v4I v5I (σ)
  · refine x_iinc (v := v4I + (1 : Int32)) (lv' := [(4, .int (v4I + (1 : Int32))), (0, .ref v0R), (3, .int v3I), (5, .int v5I)]) C d_Pl_groupAnswers_101 2 rfl rfl (by decide) rfl ?_
    refine x_goto (tgt := 41) C d_Pl_groupAnswers_104 (by decide) ?_
    refine x_lv [1, 2, 0] rfl ?_
    exact IH.2.2.1 v0R v3I (v4I + (1 : Int32)) (σ)
set_option maxRecDepth 20000 in
theorem s_Pl_groupAnswers_4 {G : GX} {p : Program} {l : Launch} {e : Env} {s : State} {m : MethodId} {args : Array Value} {below : List Frame} {meth : Method} {c : Code} {z0 u0 n : Nat} (C : Cx G p s m args meth c prog_7_method_7_code 6 "BellPlate$Planner" ((none))) (IH : I_Pl_groupAnswers G p l e s m args below meth c z0 u0 n) (v0R : Nat) (v3I : Int32) (v4I : Int32) (v5I : Int32) (σ : AM) : VX (QM eV G args s below z0 u0) G p l e s m args below meth c 3 z0 u0 6 (lpK (lpn F_Pl_groupAnswers n) (T_Pl_groupAnswers_4 v0R v3I v4I v5I σ)) 95 [(0, .ref v0R), (3, .int v3I), (4, .int v4I), (5, .int v5I)] [] σ := by
  unfold T_Pl_groupAnswers_4
  refine x_iinc (v := v5I + (1 : Int32)) (lv' := [(5, .int (v5I + (1 : Int32))), (0, .ref v0R), (3, .int v3I), (4, .int v4I)]) C d_Pl_groupAnswers_95 3 rfl rfl (by decide) rfl ?_
  refine x_goto (tgt := 58) C d_Pl_groupAnswers_98 (by decide) ?_
  refine x_lv [1, 2, 3, 0] rfl ?_
  exact IH.2.2.2.1 v0R v3I v4I (v5I + (1 : Int32)) (σ)
theorem i_Pl_groupAnswers {G : GX} {p : Program} {l : Launch} {e : Env} {s : State} {m : MethodId} {args : Array Value} {below : List Frame} {meth : Method} {c : Code} {z0 u0 : Nat} (C : Cx G p s m args meth c prog_7_method_7_code 6 "BellPlate$Planner" ((none))) (n : Nat) : I_Pl_groupAnswers G p l e s m args below meth c z0 u0 n := by
  induction n with
  | zero => exact ⟨fun _ _ _ _ _ => x_none, fun _ _ _ _ _ _ => x_none, fun _ _ _ _ => x_none, fun _ _ _ _ _ => x_none, fun _ _ _ _ _ => x_none⟩
  | succ n IH => exact ⟨fun v0R v1I v2I v3I σ => s_Pl_groupAnswers_0 C IH v0R v1I v2I v3I σ, fun v0R v1I v2I v3I v4I σ => s_Pl_groupAnswers_1 C IH v0R v1I v2I v3I v4I σ, fun v0R v3I v4I σ => s_Pl_groupAnswers_2 C IH v0R v3I v4I σ, fun v0R v3I v4I v5I σ => s_Pl_groupAnswers_3 C IH v0R v3I v4I v5I σ, fun v0R v3I v4I v5I σ => s_Pl_groupAnswers_4 C IH v0R v3I v4I v5I σ⟩
theorem c_Pl_groupAnswers (G : GX) (l : Launch) (v0R : Nat) (v1I : Int32) (v2I : Int32) (v3I : Int32) (σ : AM) : CT eV G l 3 y_Pl_groupAnswers prog_7_method_7_code 6 (none) [.ref v0R, .int v1I, .int v2I, .int v3I] σ (M_Pl_groupAnswers v0R v1I v2I v3I σ) := by
  refine ct_of (by decide +kernel) (Nat.le_of_ble_eq_true rfl) (fun p e s m args below meth c C hin => ?_)
  refine x_lve (lv' := [(0, .ref v0R), (1, .int v1I), (2, .int v2I), (3, .int v3I)]) rfl ?_
  intro r σ' h
  obtain ⟨n, hn⟩ := (lp_iff _ _ _).mp h
  exact (i_Pl_groupAnswers C n).1 v0R v1I v2I v3I σ r σ' hn
/-! BellPlate$Planner.isNewSplit(II)Z -/
abbrev y_Pl_isNewSplit : MethodName := ⟨"BellPlate$Planner", "isNewSplit", "(II)Z"⟩
theorem k_Pl_isNewSplit : y_Pl_isNewSplit.cls ≠ "java/lang/invoke/MethodHandle" ∧ y_Pl_isNewSplit.cls ≠ "java/lang/invoke/VarHandle" ∧ (parseMethodDescriptor y_Pl_isNewSplit.desc).map (fun d => d.parameters.length) = some 2 := by decide +kernel
theorem d_Pl_isNewSplit_0 : decode prog_7_method_9_code 0 = .ok (.iconst 0, 1) := by decide +kernel
theorem d_Pl_isNewSplit_1 : decode prog_7_method_9_code 1 = .ok (.istore_n 3, 1) := by decide +kernel
theorem d_Pl_isNewSplit_2 : decode prog_7_method_9_code 2 = .ok (.iload_n 3, 1) := by decide +kernel
theorem d_Pl_isNewSplit_3 : decode prog_7_method_9_code 3 = .ok (.aload_n 0, 1) := by decide +kernel
theorem d_Pl_isNewSplit_4 : decode prog_7_method_9_code 4 = .ok (.getfield 102, 3) := by decide +kernel
theorem d_Pl_isNewSplit_7 : decode prog_7_method_9_code 7 = .ok (.if_icmp .ge 35, 3) := by decide +kernel
theorem d_Pl_isNewSplit_10 : decode prog_7_method_9_code 10 = .ok (.aload_n 0, 1) := by decide +kernel
theorem d_Pl_isNewSplit_11 : decode prog_7_method_9_code 11 = .ok (.getfield 28, 3) := by decide +kernel
theorem d_Pl_isNewSplit_14 : decode prog_7_method_9_code 14 = .ok (.iload_n 3, 1) := by decide +kernel
theorem d_Pl_isNewSplit_15 : decode prog_7_method_9_code 15 = .ok (.iaload, 1) := by decide +kernel
theorem d_Pl_isNewSplit_16 : decode prog_7_method_9_code 16 = .ok (.iload_n 1, 1) := by decide +kernel
theorem d_Pl_isNewSplit_17 : decode prog_7_method_9_code 17 = .ok (.if_icmp .eq 17, 3) := by decide +kernel
theorem d_Pl_isNewSplit_20 : decode prog_7_method_9_code 20 = .ok (.aload_n 0, 1) := by decide +kernel
theorem d_Pl_isNewSplit_21 : decode prog_7_method_9_code 21 = .ok (.getfield 28, 3) := by decide +kernel
theorem d_Pl_isNewSplit_24 : decode prog_7_method_9_code 24 = .ok (.iload_n 3, 1) := by decide +kernel
theorem d_Pl_isNewSplit_25 : decode prog_7_method_9_code 25 = .ok (.iaload, 1) := by decide +kernel
theorem d_Pl_isNewSplit_26 : decode prog_7_method_9_code 26 = .ok (.iload_n 2, 1) := by decide +kernel
theorem d_Pl_isNewSplit_27 : decode prog_7_method_9_code 27 = .ok (.iload_n 1, 1) := by decide +kernel
theorem d_Pl_isNewSplit_28 : decode prog_7_method_9_code 28 = .ok (.iconst (-1), 1) := by decide +kernel
theorem d_Pl_isNewSplit_29 : decode prog_7_method_9_code 29 = .ok (.ixor, 1) := by decide +kernel
theorem d_Pl_isNewSplit_30 : decode prog_7_method_9_code 30 = .ok (.iand, 1) := by decide +kernel
theorem d_Pl_isNewSplit_31 : decode prog_7_method_9_code 31 = .ok (.if_icmp .ne 5, 3) := by decide +kernel
theorem d_Pl_isNewSplit_34 : decode prog_7_method_9_code 34 = .ok (.iconst 0, 1) := by decide +kernel
theorem d_Pl_isNewSplit_35 : decode prog_7_method_9_code 35 = .ok (.ireturn, 1) := by decide +kernel
theorem d_Pl_isNewSplit_36 : decode prog_7_method_9_code 36 = .ok (.iinc 3 1, 3) := by decide +kernel
theorem d_Pl_isNewSplit_39 : decode prog_7_method_9_code 39 = .ok (.goto (-37), 3) := by decide +kernel
theorem d_Pl_isNewSplit_42 : decode prog_7_method_9_code 42 = .ok (.iconst 1, 1) := by decide +kernel
theorem d_Pl_isNewSplit_43 : decode prog_7_method_9_code 43 = .ok (.ireturn, 1) := by decide +kernel
abbrev S_Pl_isNewSplit : Type := Nat × Nat × Int32 × Int32 × Int32 × AM
noncomputable def T_Pl_isNewSplit_0 (v0R : Nat) (v1I : Int32) (v2I : Int32) (σ : AM) : S_Pl_isNewSplit ⊕ Option (Int32 × AM) :=
  .inl (1, v0R, v1I, v2I, (0 : Int32), σ)
noncomputable def T_Pl_isNewSplit_1 (v0R : Nat) (v1I : Int32) (v2I : Int32) (v3I : Int32) (σ : AM) : S_Pl_isNewSplit ⊕ Option (Int32 × AM) :=
  gdT (okO σ v0R 7) <| if v3I < (aI σ v0R 7) then (gdT (okO σ (aR σ v0R 4) 101) <| gdT (inB v3I (aN σ (aR σ v0R 4))) <| if (aI σ (aR σ v0R 4) v3I.toNatClampNeg) = v1I then (.inl (2, 0, 0, 0, 0, σ)) else (if (aI σ (aR σ v0R 4) v3I.toNatClampNeg) = (v2I &&& (v1I ^^^ ((-1) : Int32))) then (.inl (2, 0, 0, 0, 0, σ)) else (.inl (1, v0R, v1I, v2I, v3I + (1 : Int32), σ)))) else (.inr (some ((1 : Int32), σ)))
noncomputable def T_Pl_isNewSplit_2  (σ : AM) : S_Pl_isNewSplit ⊕ Option (Int32 × AM) :=
  .inr (some ((0 : Int32), σ))
noncomputable def F_Pl_isNewSplit : S_Pl_isNewSplit → S_Pl_isNewSplit ⊕ Option (Int32 × AM) := fun s => match s.1 with
  | 0 => T_Pl_isNewSplit_0 (s.2.1) (s.2.2.1) (s.2.2.2.1) (s.2.2.2.2.2)
  | 1 => T_Pl_isNewSplit_1 (s.2.1) (s.2.2.1) (s.2.2.2.1) (s.2.2.2.2.1) (s.2.2.2.2.2)
  | _ => T_Pl_isNewSplit_2  (s.2.2.2.2.2)
noncomputable def L_Pl_isNewSplit_0 (v0R : Nat) (v1I : Int32) (v2I : Int32) (σ : AM) : Option (Int32 × AM) := lp F_Pl_isNewSplit (0, v0R, v1I, v2I, 0, σ)
noncomputable def L_Pl_isNewSplit_1 (v0R : Nat) (v1I : Int32) (v2I : Int32) (v3I : Int32) (σ : AM) : Option (Int32 × AM) := lp F_Pl_isNewSplit (1, v0R, v1I, v2I, v3I, σ)
noncomputable def L_Pl_isNewSplit_2  (σ : AM) : Option (Int32 × AM) := lp F_Pl_isNewSplit (2, 0, 0, 0, 0, σ)
set_option maxRecDepth 20000 in
theorem E_Pl_isNewSplit_0 (v0R : Nat) (v1I : Int32) (v2I : Int32) (σ : AM) : L_Pl_isNewSplit_0 v0R v1I v2I σ = (L_Pl_isNewSplit_1 v0R v1I v2I ((0 : Int32)) σ) := by
  unfold L_Pl_isNewSplit_0
  rw [lp_eq]
  show lpK (lp F_Pl_isNewSplit) (T_Pl_isNewSplit_0 v0R v1I v2I σ) = _
  unfold T_Pl_isNewSplit_0
  simp only [lpK_ite, lq_inl, lq_inr, lpK_bnd, lpK_gd, lq_let]
  try rfl
set_option maxRecDepth 20000 in
theorem E_Pl_isNewSplit_1 (v0R : Nat) (v1I : Int32) (v2I : Int32) (v3I : Int32) (σ : AM) : L_Pl_isNewSplit_1 v0R v1I v2I v3I σ = (gd (okO σ v0R 7) <| if v3I < (aI σ v0R 7) then (gd (okO σ (aR σ v0R 4) 101) <| gd (inB v3I (aN σ (aR σ v0R 4))) <| if (aI σ (aR σ v0R 4) v3I.toNatClampNeg) = v1I then (L_Pl_isNewSplit_2 σ) else (if (aI σ (aR σ v0R 4) v3I.toNatClampNeg) = (v2I &&& (v1I ^^^ ((-1) : Int32))) then (L_Pl_isNewSplit_2 σ) else (L_Pl_isNewSplit_1 v0R v1I v2I (v3I + (1 : Int32)) σ))) else ((some ((1 : Int32), σ)))) := by
  unfold L_Pl_isNewSplit_1
  rw [lp_eq]
  show lpK (lp F_Pl_isNewSplit) (T_Pl_isNewSplit_1 v0R v1I v2I v3I σ) = _
  unfold T_Pl_isNewSplit_1
  simp only [lpK_ite, lq_inl, lq_inr, lpK_bnd, lpK_gd, lq_let]
  try rfl
set_option maxRecDepth 20000 in
theorem E_Pl_isNewSplit_2  (σ : AM) : L_Pl_isNewSplit_2  σ = ((some ((0 : Int32), σ))) := by
  unfold L_Pl_isNewSplit_2
  rw [lp_eq]
  show lpK (lp F_Pl_isNewSplit) (T_Pl_isNewSplit_2  σ) = _
  unfold T_Pl_isNewSplit_2
  simp only [lpK_ite, lq_inl, lq_inr, lpK_bnd, lpK_gd, lq_let]
  try rfl
noncomputable def M_Pl_isNewSplit (v0R : Nat) (v1I : Int32) (v2I : Int32) (σ : AM) : Option (Int32 × AM) := mw σ (L_Pl_isNewSplit_0 v0R v1I v2I σ)
def I_Pl_isNewSplit (G : GX) (p : Program) (l : Launch) (e : Env) (s : State) (m : MethodId) (args : Array Value) (below : List Frame) (meth : Method) (c : Code) (z0 u0 n : Nat) : Prop :=
  (∀ (v0R : Nat) (v1I : Int32) (v2I : Int32) (σ : AM), VX (QM eI G args s below z0 u0) G p l e s m args below meth c 0 z0 u0 4 (lpn F_Pl_isNewSplit n (0, v0R, v1I, v2I, 0, σ)) 0 [(0, .ref v0R), (1, .int v1I), (2, .int v2I)] [] σ) ∧
  (∀ (v0R : Nat) (v1I : Int32) (v2I : Int32) (v3I : Int32) (σ : AM), VX (QM eI G args s below z0 u0) G p l e s m args below meth c 0 z0 u0 4 (lpn F_Pl_isNewSplit n (1, v0R, v1I, v2I, v3I, σ)) 2 [(0, .ref v0R), (1, .int v1I), (2, .int v2I), (3, .int v3I)] [] σ) ∧
  (∀ (σ : AM), VX (QM eI G args s below z0 u0) G p l e s m args below meth c 0 z0 u0 4 (lpn F_Pl_isNewSplit n (2, 0, 0, 0, 0, σ)) 34 [] [] σ)
set_option maxRecDepth 20000 in
theorem s_Pl_isNewSplit_0 {G : GX} {p : Program} {l : Launch} {e : Env} {s : State} {m : MethodId} {args : Array Value} {below : List Frame} {meth : Method} {c : Code} {z0 u0 n : Nat} (C : Cx G p s m args meth c prog_7_method_9_code 4 "BellPlate$Planner" ((some FieldType.boolean))) (IH : I_Pl_isNewSplit G p l e s m args below meth c z0 u0 n) (v0R : Nat) (v1I : Int32) (v2I : Int32) (σ : AM) : VX (QM eI G args s below z0 u0) G p l e s m args below meth c 0 z0 u0 4 (lpK (lpn F_Pl_isNewSplit n) (T_Pl_isNewSplit_0 v0R v1I v2I σ)) 0 [(0, .ref v0R), (1, .int v1I), (2, .int v2I)] [] σ := by
  unfold T_Pl_isNewSplit_0
  refine x_iconst (v := (0 : Int32)) C d_Pl_isNewSplit_0 (by decide) ?_
  refine x_istore_n (lv' := [(3, .int (0 : Int32)), (0, .ref v0R), (1, .int v1I), (2, .int v2I)]) C d_Pl_isNewSplit_1 (by decide) rfl rfl ?_
  refine x_lv [1, 2, 3, 0] rfl ?_
  exact IH.2.1 v0R v1I v2I ((0 : Int32)) (σ)
set_option maxRecDepth 20000 in
theorem s_Pl_isNewSplit_1 {G : GX} {p : Program} {l : Launch} {e : Env} {s : State} {m : MethodId} {args : Array Value} {below : List Frame} {meth : Method} {c : Code} {z0 u0 n : Nat} (C : Cx G p s m args meth c prog_7_method_9_code 4 "BellPlate$Planner" ((some FieldType.boolean))) (IH : I_Pl_isNewSplit G p l e s m args below meth c z0 u0 n) (v0R : Nat) (v1I : Int32) (v2I : Int32) (v3I : Int32) (σ : AM) : VX (QM eI G args s below z0 u0) G p l e s m args below meth c 0 z0 u0 4 (lpK (lpn F_Pl_isNewSplit n) (T_Pl_isNewSplit_1 v0R v1I v2I v3I σ)) 2 [(0, .ref v0R), (1, .int v1I), (2, .int v2I), (3, .int v3I)] [] σ := by
  unfold T_Pl_isNewSplit_1
  refine x_iload_n C d_Pl_isNewSplit_2 3 rfl ?_
  refine x_aload_n C d_Pl_isNewSplit_3 0 rfl ?_
  refine x_gd (fun h1 => ?_)
  refine x_getI (k := 7) C (okO_iff.mp h1) rfl j6_ok (by decide) rfl w450 d_Pl_isNewSplit_4 ?_
  refine x_icmp_ge (tgt := 42) C d_Pl_isNewSplit_7 (by decide) (fun _ => ?_) (fun _ => ?_)
  · refine x_aload_n C d_Pl_isNewSplit_10 0 rfl ?_
    refine x_gd (fun h2 => ?_)
    refine x_getR (k := 4) (kv := 101) C (okO_iff.mp h1) rfl j6_ok (by decide) rfl (okO_iff.mp h2) (by decide) w447 d_Pl_isNewSplit_11 ?_
    refine x_iload_n C d_Pl_isNewSplit_14 3 rfl ?_
    refine x_gd (fun h3 => ?_)
    refine x_aldI C (okO_iff.mp h2) (inB_iff.mp h3) d_Pl_isNewSplit_15 ?_
    refine x_iload_n C d_Pl_isNewSplit_16 1 rfl ?_
    refine x_icmp_eq (tgt := 34) C d_Pl_isNewSplit_17 (by decide) (fun _ => ?_) (fun _ => ?_)
    · refine x_lv [] rfl ?_
      exact IH.2.2  (σ)
    · refine x_aload_n C d_Pl_isNewSplit_20 0 rfl ?_
      refine x_getR (k := 4) (kv := 101) C (okO_iff.mp h1) rfl j6_ok (by decide) rfl (okO_iff.mp h2) (by decide) w447 d_Pl_isNewSplit_21 ?_
      refine x_iload_n C d_Pl_isNewSplit_24 3 rfl ?_
      refine x_aldI C (okO_iff.mp h2) (inB_iff.mp h3) d_Pl_isNewSplit_25 ?_
      refine x_iload_n C d_Pl_isNewSplit_26 2 rfl ?_
      refine x_iload_n C d_Pl_isNewSplit_27 1 rfl ?_
      refine x_iconst (v := ((-1) : Int32)) C d_Pl_isNewSplit_28 (by decide) ?_
      refine x_ixor C d_Pl_isNewSplit_29 ?_
      refine x_iand C d_Pl_isNewSplit_30 ?_
      refine x_icmp_ne (tgt := 36) C d_Pl_isNewSplit_31 (by decide) (fun _ => ?_) (fun _ => ?_)
      · refine x_lv [] rfl ?_
        exact IH.2.2  (σ)
      · refine x_iinc (v := v3I + (1 : Int32)) (lv' := [(3, .int (v3I + (1 : Int32))), (0, .ref v0R), (1, .int v1I), (2, .int v2I)]) C d_Pl_isNewSplit_36 3 rfl rfl (by decide) rfl ?_
        refine x_goto (tgt := 2) C d_Pl_isNewSplit_39 (by decide) ?_
        refine x_lv [1, 2, 3, 0] rfl ?_
        exact IH.2.1 v0R v1I v2I (v3I + (1 : Int32)) (σ)
  · refine x_iconst (v := (1 : Int32)) C d_Pl_isNewSplit_42 (by decide) ?_
    exact x_zret C (by decide) d_Pl_isNewSplit_43
set_option maxRecDepth 20000 in
theorem s_Pl_isNewSplit_2 {G : GX} {p : Program} {l : Launch} {e : Env} {s : State} {m : MethodId} {args : Array Value} {below : List Frame} {meth : Method} {c : Code} {z0 u0 n : Nat} (C : Cx G p s m args meth c prog_7_method_9_code 4 "BellPlate$Planner" ((some FieldType.boolean))) (IH : I_Pl_isNewSplit G p l e s m args below meth c z0 u0 n)  (σ : AM) : VX (QM eI G args s below z0 u0) G p l e s m args below meth c 0 z0 u0 4 (lpK (lpn F_Pl_isNewSplit n) (T_Pl_isNewSplit_2  σ)) 34 [] [] σ := by
  unfold T_Pl_isNewSplit_2
  refine x_iconst (v := (0 : Int32)) C d_Pl_isNewSplit_34 (by decide) ?_
  exact x_zret C (by decide) d_Pl_isNewSplit_35
theorem i_Pl_isNewSplit {G : GX} {p : Program} {l : Launch} {e : Env} {s : State} {m : MethodId} {args : Array Value} {below : List Frame} {meth : Method} {c : Code} {z0 u0 : Nat} (C : Cx G p s m args meth c prog_7_method_9_code 4 "BellPlate$Planner" ((some FieldType.boolean))) (n : Nat) : I_Pl_isNewSplit G p l e s m args below meth c z0 u0 n := by
  induction n with
  | zero => exact ⟨fun _ _ _ _ => x_none, fun _ _ _ _ _ => x_none, fun _ => x_none⟩
  | succ n IH => exact ⟨fun v0R v1I v2I σ => s_Pl_isNewSplit_0 C IH v0R v1I v2I σ, fun v0R v1I v2I v3I σ => s_Pl_isNewSplit_1 C IH v0R v1I v2I v3I σ, fun σ => s_Pl_isNewSplit_2 C IH σ⟩
theorem c_Pl_isNewSplit (G : GX) (l : Launch) (v0R : Nat) (v1I : Int32) (v2I : Int32) (σ : AM) : CT eI G l 0 y_Pl_isNewSplit prog_7_method_9_code 4 ((some FieldType.boolean)) [.ref v0R, .int v1I, .int v2I] σ (M_Pl_isNewSplit v0R v1I v2I σ) := by
  refine ct_of (by decide +kernel) (Nat.le_of_ble_eq_true rfl) (fun p e s m args below meth c C hin => ?_)
  refine x_lve (lv' := [(0, .ref v0R), (1, .int v1I), (2, .int v2I)]) rfl ?_
  intro r σ' h
  obtain ⟨n, hn⟩ := (lp_iff _ _ _).mp h
  exact (i_Pl_isNewSplit C n).1 v0R v1I v2I σ r σ' hn
/-! BellPlate$Planner.findSplits(I)V -/
abbrev y_Pl_findSplits : MethodName := ⟨"BellPlate$Planner", "findSplits", "(I)V"⟩
theorem k_Pl_findSplits : y_Pl_findSplits.cls ≠ "java/lang/invoke/MethodHandle" ∧ y_Pl_findSplits.cls ≠ "java/lang/invoke/VarHandle" ∧ (parseMethodDescriptor y_Pl_findSplits.desc).map (fun d => d.parameters.length) = some 1 := by decide +kernel
theorem d_Pl_findSplits_0 : decode prog_7_method_8_code 0 = .ok (.iconst 1, 1) := by decide +kernel
theorem d_Pl_findSplits_1 : decode prog_7_method_8_code 1 = .ok (.iload_n 1, 1) := by decide +kernel
theorem d_Pl_findSplits_2 : decode prog_7_method_8_code 2 = .ok (.ishl, 1) := by decide +kernel
theorem d_Pl_findSplits_3 : decode prog_7_method_8_code 3 = .ok (.iconst 1, 1) := by decide +kernel
theorem d_Pl_findSplits_4 : decode prog_7_method_8_code 4 = .ok (.isub, 1) := by decide +kernel
theorem d_Pl_findSplits_5 : decode prog_7_method_8_code 5 = .ok (.istore_n 2, 1) := by decide +kernel
theorem d_Pl_findSplits_6 : decode prog_7_method_8_code 6 = .ok (.aload_n 0, 1) := by decide +kernel
theorem d_Pl_findSplits_7 : decode prog_7_method_8_code 7 = .ok (.iconst 0, 1) := by decide +kernel
theorem d_Pl_findSplits_8 : decode prog_7_method_8_code 8 = .ok (.putfield 102, 3) := by decide +kernel
theorem d_Pl_findSplits_11 : decode prog_7_method_8_code 11 = .ok (.iconst 0, 1) := by decide +kernel
theorem d_Pl_findSplits_12 : decode prog_7_method_8_code 12 = .ok (.istore_n 3, 1) := by decide +kernel
theorem d_Pl_findSplits_13 : decode prog_7_method_8_code 13 = .ok (.iload_n 3, 1) := by decide +kernel
theorem d_Pl_findSplits_14 : decode prog_7_method_8_code 14 = .ok (.bipush 64, 2) := by decide +kernel
theorem d_Pl_findSplits_16 : decode prog_7_method_8_code 16 = .ok (.if_icmp .ge 104, 3) := by decide +kernel
theorem d_Pl_findSplits_19 : decode prog_7_method_8_code 19 = .ok (.iconst 0, 1) := by decide +kernel
theorem d_Pl_findSplits_20 : decode prog_7_method_8_code 20 = .ok (.istore 4, 2) := by decide +kernel
theorem d_Pl_findSplits_22 : decode prog_7_method_8_code 22 = .ok (.iconst 0, 1) := by decide +kernel
theorem d_Pl_findSplits_23 : decode prog_7_method_8_code 23 = .ok (.istore 5, 2) := by decide +kernel
theorem d_Pl_findSplits_25 : decode prog_7_method_8_code 25 = .ok (.iload 5, 2) := by decide +kernel
theorem d_Pl_findSplits_27 : decode prog_7_method_8_code 27 = .ok (.iload_n 1, 1) := by decide +kernel
theorem d_Pl_findSplits_28 : decode prog_7_method_8_code 28 = .ok (.if_icmp .ge 34, 3) := by decide +kernel
theorem d_Pl_findSplits_31 : decode prog_7_method_8_code 31 = .ok (.aload_n 0, 1) := by decide +kernel
theorem d_Pl_findSplits_32 : decode prog_7_method_8_code 32 = .ok (.getfield 15, 3) := by decide +kernel
theorem d_Pl_findSplits_35 : decode prog_7_method_8_code 35 = .ok (.iload 5, 2) := by decide +kernel
theorem d_Pl_findSplits_37 : decode prog_7_method_8_code 37 = .ok (.invokevirtual 64, 3) := by decide +kernel
theorem d_Pl_findSplits_40 : decode prog_7_method_8_code 40 = .ok (.iload_n 3, 1) := by decide +kernel
theorem d_Pl_findSplits_41 : decode prog_7_method_8_code 41 = .ok (.invokestatic 48, 3) := by decide +kernel
theorem d_Pl_findSplits_44 : decode prog_7_method_8_code 44 = .ok (.ifCond .eq 12, 3) := by decide +kernel
theorem d_Pl_findSplits_47 : decode prog_7_method_8_code 47 = .ok (.iload 4, 2) := by decide +kernel
theorem d_Pl_findSplits_49 : decode prog_7_method_8_code 49 = .ok (.iconst 1, 1) := by decide +kernel
theorem d_Pl_findSplits_50 : decode prog_7_method_8_code 50 = .ok (.iload 5, 2) := by decide +kernel
theorem d_Pl_findSplits_52 : decode prog_7_method_8_code 52 = .ok (.ishl, 1) := by decide +kernel
theorem d_Pl_findSplits_53 : decode prog_7_method_8_code 53 = .ok (.ior, 1) := by decide +kernel
theorem d_Pl_findSplits_54 : decode prog_7_method_8_code 54 = .ok (.istore 4, 2) := by decide +kernel
theorem d_Pl_findSplits_56 : decode prog_7_method_8_code 56 = .ok (.iinc 5 1, 3) := by decide +kernel
theorem d_Pl_findSplits_59 : decode prog_7_method_8_code 59 = .ok (.goto (-34), 3) := by decide +kernel
theorem d_Pl_findSplits_62 : decode prog_7_method_8_code 62 = .ok (.iload 4, 2) := by decide +kernel
theorem d_Pl_findSplits_64 : decode prog_7_method_8_code 64 = .ok (.ifCond .eq 50, 3) := by decide +kernel
theorem d_Pl_findSplits_67 : decode prog_7_method_8_code 67 = .ok (.iload 4, 2) := by decide +kernel
theorem d_Pl_findSplits_69 : decode prog_7_method_8_code 69 = .ok (.iload_n 2, 1) := by decide +kernel
theorem d_Pl_findSplits_70 : decode prog_7_method_8_code 70 = .ok (.if_icmp .eq 44, 3) := by decide +kernel
theorem d_Pl_findSplits_73 : decode prog_7_method_8_code 73 = .ok (.aload_n 0, 1) := by decide +kernel
theorem d_Pl_findSplits_74 : decode prog_7_method_8_code 74 = .ok (.iload 4, 2) := by decide +kernel
theorem d_Pl_findSplits_76 : decode prog_7_method_8_code 76 = .ok (.iload_n 2, 1) := by decide +kernel
theorem d_Pl_findSplits_77 : decode prog_7_method_8_code 77 = .ok (.invokevirtual 109, 3) := by decide +kernel
theorem d_Pl_findSplits_80 : decode prog_7_method_8_code 80 = .ok (.ifCond .eq 34, 3) := by decide +kernel
theorem d_Pl_findSplits_83 : decode prog_7_method_8_code 83 = .ok (.aload_n 0, 1) := by decide +kernel
theorem d_Pl_findSplits_84 : decode prog_7_method_8_code 84 = .ok (.getfield 28, 3) := by decide +kernel
theorem d_Pl_findSplits_87 : decode prog_7_method_8_code 87 = .ok (.aload_n 0, 1) := by decide +kernel
theorem d_Pl_findSplits_88 : decode prog_7_method_8_code 88 = .ok (.getfield 102, 3) := by decide +kernel
theorem d_Pl_findSplits_91 : decode prog_7_method_8_code 91 = .ok (.iload 4, 2) := by decide +kernel
theorem d_Pl_findSplits_93 : decode prog_7_method_8_code 93 = .ok (.iastore, 1) := by decide +kernel
theorem d_Pl_findSplits_94 : decode prog_7_method_8_code 94 = .ok (.aload_n 0, 1) := by decide +kernel
theorem d_Pl_findSplits_95 : decode prog_7_method_8_code 95 = .ok (.getfield 31, 3) := by decide +kernel
theorem d_Pl_findSplits_98 : decode prog_7_method_8_code 98 = .ok (.aload_n 0, 1) := by decide +kernel
theorem d_Pl_findSplits_99 : decode prog_7_method_8_code 99 = .ok (.getfield 102, 3) := by decide +kernel
theorem d_Pl_findSplits_102 : decode prog_7_method_8_code 102 = .ok (.iload_n 3, 1) := by decide +kernel
theorem d_Pl_findSplits_103 : decode prog_7_method_8_code 103 = .ok (.iastore, 1) := by decide +kernel
theorem d_Pl_findSplits_104 : decode prog_7_method_8_code 104 = .ok (.aload_n 0, 1) := by decide +kernel
theorem d_Pl_findSplits_105 : decode prog_7_method_8_code 105 = .ok (.dup, 1) := by decide +kernel
theorem d_Pl_findSplits_106 : decode prog_7_method_8_code 106 = .ok (.getfield 102, 3) := by decide +kernel
theorem d_Pl_findSplits_109 : decode prog_7_method_8_code 109 = .ok (.iconst 1, 1) := by decide +kernel
theorem d_Pl_findSplits_110 : decode prog_7_method_8_code 110 = .ok (.iadd, 1) := by decide +kernel
theorem d_Pl_findSplits_111 : decode prog_7_method_8_code 111 = .ok (.putfield 102, 3) := by decide +kernel
theorem d_Pl_findSplits_114 : decode prog_7_method_8_code 114 = .ok (.iinc 3 1, 3) := by decide +kernel
theorem d_Pl_findSplits_117 : decode prog_7_method_8_code 117 = .ok (.goto (-104), 3) := by decide +kernel
theorem d_Pl_findSplits_120 : decode prog_7_method_8_code 120 = .ok (.return_, 1) := by decide +kernel
abbrev S_Pl_findSplits : Type := Nat × Nat × Int32 × Int32 × Int32 × Int32 × Int32 × AM
noncomputable def T_Pl_findSplits_0 (v0R : Nat) (v1I : Int32) (σ : AM) : S_Pl_findSplits ⊕ Option (Unit × AM) :=
  letT (((1 : Int32) <<< (v1I &&& 31)) - (1 : Int32)) fun x1 => gdT (okO σ v0R 7) <| letT (sI σ v0R 7 (0 : Int32)) fun σ3 => .inl (1, v0R, v1I, x1, (0 : Int32), 0, 0, σ3)
noncomputable def T_Pl_findSplits_1 (v0R : Nat) (v1I : Int32) (v2I : Int32) (v3I : Int32) (σ : AM) : S_Pl_findSplits ⊕ Option (Unit × AM) :=
  if v3I < (64 : Int32) then (.inl (2, v0R, v1I, v2I, v3I, (0 : Int32), (0 : Int32), σ)) else (.inr (some ((), σ)))
noncomputable def T_Pl_findSplits_2 (v0R : Nat) (v1I : Int32) (v2I : Int32) (v3I : Int32) (v4I : Int32) (v5I : Int32) (σ : AM) : S_Pl_findSplits ⊕ Option (Unit × AM) :=
  if v5I < v1I then (gdT (okO σ v0R 7) <| gdT (okO σ (aR σ v0R 1) 5) <| bndT (M_Rs_listAt (aR σ v0R 1) v5I σ) fun r3 σ4 => bndT (M_St_has r3 v3I σ4) fun r5 σ6 => if r5 = 0 then (.inl (3, v0R, v1I, v2I, v3I, v4I, v5I, σ6)) else (letT (v4I ||| ((1 : Int32) <<< (v5I &&& 31))) fun x7 => .inl (3, v0R, v1I, v2I, v3I, x7, v5I, σ6))) else (if v4I = 0 then (.inl (4, v0R, v1I, v2I, v3I, 0, 0, σ)) else (if v4I = v2I then (.inl (4, v0R, v1I, v2I, v3I, 0, 0, σ)) else (gdT (okO σ v0R 7) <| bndT (M_Pl_isNewSplit v0R v4I v2I σ) fun r8 σ9 => if r8 = 0 then (.inl (4, v0R, v1I, v2I, v3I, 0, 0, σ9)) else (gdT (okO σ9 v0R 7) <| gdT (okO σ9 (aR σ9 v0R 4) 101) <| gdT (inB (aI σ9 v0R 7) (aN σ9 (aR σ9 v0R 4))) <| letT (sI σ9 (aR σ9 v0R 4) (aI σ9 v0R 7).toNatClampNeg v4I) fun σ14 => gdT (okO σ14 (aR σ14 v0R 5) 101) <| gdT (inB (aI σ14 v0R 7) (aN σ14 (aR σ14 v0R 5))) <| letT (sI σ14 (aR σ14 v0R 5) (aI σ14 v0R 7).toNatClampNeg v3I) fun σ18 => letT (sI σ18 v0R 7 ((aI σ18 v0R 7) + (1 : Int32))) fun σ20 => .inl (4, v0R, v1I, v2I, v3I, 0, 0, σ20)))))
noncomputable def T_Pl_findSplits_3 (v0R : Nat) (v1I : Int32) (v2I : Int32) (v3I : Int32) (v4I : Int32) (v5I : Int32) (σ : AM) : S_Pl_findSplits ⊕ Option (Unit × AM) :=
  .inl (2, v0R, v1I, v2I, v3I, v4I, v5I + (1 : Int32), σ)
noncomputable def T_Pl_findSplits_4 (v0R : Nat) (v1I : Int32) (v2I : Int32) (v3I : Int32) (σ : AM) : S_Pl_findSplits ⊕ Option (Unit × AM) :=
  .inl (1, v0R, v1I, v2I, v3I + (1 : Int32), 0, 0, σ)
noncomputable def F_Pl_findSplits : S_Pl_findSplits → S_Pl_findSplits ⊕ Option (Unit × AM) := fun s => match s.1 with
  | 0 => T_Pl_findSplits_0 (s.2.1) (s.2.2.1) (s.2.2.2.2.2.2.2)
  | 1 => T_Pl_findSplits_1 (s.2.1) (s.2.2.1) (s.2.2.2.1) (s.2.2.2.2.1) (s.2.2.2.2.2.2.2)
  | 2 => T_Pl_findSplits_2 (s.2.1) (s.2.2.1) (s.2.2.2.1) (s.2.2.2.2.1) (s.2.2.2.2.2.1) (s.2.2.2.2.2.2.1) (s.2.2.2.2.2.2.2)
  | 3 => T_Pl_findSplits_3 (s.2.1) (s.2.2.1) (s.2.2.2.1) (s.2.2.2.2.1) (s.2.2.2.2.2.1) (s.2.2.2.2.2.2.1) (s.2.2.2.2.2.2.2)
  | _ => T_Pl_findSplits_4 (s.2.1) (s.2.2.1) (s.2.2.2.1) (s.2.2.2.2.1) (s.2.2.2.2.2.2.2)
noncomputable def L_Pl_findSplits_0 (v0R : Nat) (v1I : Int32) (σ : AM) : Option (Unit × AM) := lp F_Pl_findSplits (0, v0R, v1I, 0, 0, 0, 0, σ)
noncomputable def L_Pl_findSplits_1 (v0R : Nat) (v1I : Int32) (v2I : Int32) (v3I : Int32) (σ : AM) : Option (Unit × AM) := lp F_Pl_findSplits (1, v0R, v1I, v2I, v3I, 0, 0, σ)
noncomputable def L_Pl_findSplits_2 (v0R : Nat) (v1I : Int32) (v2I : Int32) (v3I : Int32) (v4I : Int32) (v5I : Int32) (σ : AM) : Option (Unit × AM) := lp F_Pl_findSplits (2, v0R, v1I, v2I, v3I, v4I, v5I, σ)
noncomputable def L_Pl_findSplits_3 (v0R : Nat) (v1I : Int32) (v2I : Int32) (v3I : Int32) (v4I : Int32) (v5I : Int32) (σ : AM) : Option (Unit × AM) := lp F_Pl_findSplits (3, v0R, v1I, v2I, v3I, v4I, v5I, σ)
noncomputable def L_Pl_findSplits_4 (v0R : Nat) (v1I : Int32) (v2I : Int32) (v3I : Int32) (σ : AM) : Option (Unit × AM) := lp F_Pl_findSplits (4, v0R, v1I, v2I, v3I, 0, 0, σ)
set_option maxRecDepth 20000 in
theorem E_Pl_findSplits_0 (v0R : Nat) (v1I : Int32) (σ : AM) : L_Pl_findSplits_0 v0R v1I σ = (letT (((1 : Int32) <<< (v1I &&& 31)) - (1 : Int32)) fun x1 => gd (okO σ v0R 7) <| letT (sI σ v0R 7 (0 : Int32)) fun σ3 => L_Pl_findSplits_1 v0R v1I x1 ((0 : Int32)) σ3) := by
  unfold L_Pl_findSplits_0
  rw [lp_eq]
  show lpK (lp F_Pl_findSplits) (T_Pl_findSplits_0 v0R v1I σ) = _
  unfold T_Pl_findSplits_0
  simp only [lpK_ite, lq_inl, lq_inr, lpK_bnd, lpK_gd, lq_let]
  try rfl
set_option maxRecDepth 20000 in
theorem E_Pl_findSplits_1 (v0R : Nat) (v1I : Int32) (v2I : Int32) (v3I : Int32) (σ : AM) : L_Pl_findSplits_1 v0R v1I v2I v3I σ = (if v3I < (64 : Int32) then (L_Pl_findSplits_2 v0R v1I v2I v3I ((0 : Int32)) ((0 : Int32)) σ) else ((some ((), σ)))) := by
  unfold L_Pl_findSplits_1
  rw [lp_eq]
  show lpK (lp F_Pl_findSplits) (T_Pl_findSplits_1 v0R v1I v2I v3I σ) = _
  unfold T_Pl_findSplits_1
  simp only [lpK_ite, lq_inl, lq_inr, lpK_bnd, lpK_gd, lq_let]
  try rfl
set_option maxRecDepth 20000 in
theorem E_Pl_findSplits_2 (v0R : Nat) (v1I : Int32) (v2I : Int32) (v3I : Int32) (v4I : Int32) (v5I : Int32) (σ : AM) : L_Pl_findSplits_2 v0R v1I v2I v3I v4I v5I σ = (if v5I < v1I then (gd (okO σ v0R 7) <| gd (okO σ (aR σ v0R 1) 5) <| bnd (M_Rs_listAt (aR σ v0R 1) v5I σ) fun r3 σ4 => bnd (M_St_has r3 v3I σ4) fun r5 σ6 => if r5 = 0 then (L_Pl_findSplits_3 v0R v1I v2I v3I v4I v5I σ6) else (letT (v4I ||| ((1 : Int32) <<< (v5I &&& 31))) fun x7 => L_Pl_findSplits_3 v0R v1I v2I v3I x7 v5I σ6)) else (if v4I = 0 then (L_Pl_findSplits_4 v0R v1I v2I v3I σ) else (if v4I = v2I then (L_Pl_findSplits_4 v0R v1I v2I v3I σ) else (gd (okO σ v0R 7) <| bnd (M_Pl_isNewSplit v0R v4I v2I σ) fun r8 σ9 => if r8 = 0 then (L_Pl_findSplits_4 v0R v1I v2I v3I σ9) else (gd (okO σ9 v0R 7) <| gd (okO σ9 (aR σ9 v0R 4) 101) <| gd (inB (aI σ9 v0R 7) (aN σ9 (aR σ9 v0R 4))) <| letT (sI σ9 (aR σ9 v0R 4) (aI σ9 v0R 7).toNatClampNeg v4I) fun σ14 => gd (okO σ14 (aR σ14 v0R 5) 101) <| gd (inB (aI σ14 v0R 7) (aN σ14 (aR σ14 v0R 5))) <| letT (sI σ14 (aR σ14 v0R 5) (aI σ14 v0R 7).toNatClampNeg v3I) fun σ18 => letT (sI σ18 v0R 7 ((aI σ18 v0R 7) + (1 : Int32))) fun σ20 => L_Pl_findSplits_4 v0R v1I v2I v3I σ20))))) := by
  unfold L_Pl_findSplits_2
  rw [lp_eq]
  show lpK (lp F_Pl_findSplits) (T_Pl_findSplits_2 v0R v1I v2I v3I v4I v5I σ) = _
  unfold T_Pl_findSplits_2
  simp only [lpK_ite, lq_inl, lq_inr, lpK_bnd, lpK_gd, lq_let]
  try rfl
set_option maxRecDepth 20000 in
theorem E_Pl_findSplits_3 (v0R : Nat) (v1I : Int32) (v2I : Int32) (v3I : Int32) (v4I : Int32) (v5I : Int32) (σ : AM) : L_Pl_findSplits_3 v0R v1I v2I v3I v4I v5I σ = (L_Pl_findSplits_2 v0R v1I v2I v3I v4I (v5I + (1 : Int32)) σ) := by
  unfold L_Pl_findSplits_3
  rw [lp_eq]
  show lpK (lp F_Pl_findSplits) (T_Pl_findSplits_3 v0R v1I v2I v3I v4I v5I σ) = _
  unfold T_Pl_findSplits_3
  simp only [lpK_ite, lq_inl, lq_inr, lpK_bnd, lpK_gd, lq_let]
  try rfl
set_option maxRecDepth 20000 in
theorem E_Pl_findSplits_4 (v0R : Nat) (v1I : Int32) (v2I : Int32) (v3I : Int32) (σ : AM) : L_Pl_findSplits_4 v0R v1I v2I v3I σ = (L_Pl_findSplits_1 v0R v1I v2I (v3I + (1 : Int32)) σ) := by
  unfold L_Pl_findSplits_4
  rw [lp_eq]
  show lpK (lp F_Pl_findSplits) (T_Pl_findSplits_4 v0R v1I v2I v3I σ) = _
  unfold T_Pl_findSplits_4
  simp only [lpK_ite, lq_inl, lq_inr, lpK_bnd, lpK_gd, lq_let]
  try rfl
noncomputable def M_Pl_findSplits (v0R : Nat) (v1I : Int32) (σ : AM) : Option (Unit × AM) := mw σ (L_Pl_findSplits_0 v0R v1I σ)
def I_Pl_findSplits (G : GX) (p : Program) (l : Launch) (e : Env) (s : State) (m : MethodId) (args : Array Value) (below : List Frame) (meth : Method) (c : Code) (z0 u0 n : Nat) : Prop :=
  (∀ (v0R : Nat) (v1I : Int32) (σ : AM), VX (QM eV G args s below z0 u0) G p l e s m args below meth c 2 z0 u0 6 (lpn F_Pl_findSplits n (0, v0R, v1I, 0, 0, 0, 0, σ)) 0 [(0, .ref v0R), (1, .int v1I)] [] σ) ∧
  (∀ (v0R : Nat) (v1I : Int32) (v2I : Int32) (v3I : Int32) (σ : AM), VX (QM eV G args s below z0 u0) G p l e s m args below meth c 2 z0 u0 6 (lpn F_Pl_findSplits n (1, v0R, v1I, v2I, v3I, 0, 0, σ)) 13 [(0, .ref v0R), (1, .int v1I), (2, .int v2I), (3, .int v3I)] [] σ) ∧
  (∀ (v0R : Nat) (v1I : Int32) (v2I : Int32) (v3I : Int32) (v4I : Int32) (v5I : Int32) (σ : AM), VX (QM eV G args s below z0 u0) G p l e s m args below meth c 2 z0 u0 6 (lpn F_Pl_findSplits n (2, v0R, v1I, v2I, v3I, v4I, v5I, σ)) 25 [(0, .ref v0R), (1, .int v1I), (2, .int v2I), (3, .int v3I), (4, .int v4I), (5, .int v5I)] [] σ) ∧
  (∀ (v0R : Nat) (v1I : Int32) (v2I : Int32) (v3I : Int32) (v4I : Int32) (v5I : Int32) (σ : AM), VX (QM eV G args s below z0 u0) G p l e s m args below meth c 2 z0 u0 6 (lpn F_Pl_findSplits n (3, v0R, v1I, v2I, v3I, v4I, v5I, σ)) 56 [(0, .ref v0R), (1, .int v1I), (2, .int v2I), (3, .int v3I), (4, .int v4I), (5, .int v5I)] [] σ) ∧
  (∀ (v0R : Nat) (v1I : Int32) (v2I : Int32) (v3I : Int32) (σ : AM), VX (QM eV G args s below z0 u0) G p l e s m args below meth c 2 z0 u0 6 (lpn F_Pl_findSplits n (4, v0R, v1I, v2I, v3I, 0, 0, σ)) 114 [(0, .ref v0R), (1, .int v1I), (2, .int v2I), (3, .int v3I)] [] σ)
set_option maxRecDepth 20000 in
theorem s_Pl_findSplits_0 {G : GX} {p : Program} {l : Launch} {e : Env} {s : State} {m : MethodId} {args : Array Value} {below : List Frame} {meth : Method} {c : Code} {z0 u0 n : Nat} (C : Cx G p s m args meth c prog_7_method_8_code 6 "BellPlate$Planner" ((none))) (IH : I_Pl_findSplits G p l e s m args below meth c z0 u0 n) (v0R : Nat) (v1I : Int32) (σ : AM) : VX (QM eV G args s below z0 u0) G p l e s m args below meth c 2 z0 u0 6 (lpK (lpn F_Pl_findSplits n) (T_Pl_findSplits_0 v0R v1I σ)) 0 [(0, .ref v0R), (1, .int v1I)] [] σ := by
  unfold T_Pl_findSplits_0
  refine x_iconst (v := (1 : Int32)) C d_Pl_findSplits_0 (by decide) ?_
  refine x_iload_n C d_Pl_findSplits_1 1 rfl ?_
  refine x_ishl C d_Pl_findSplits_2 ?_
  refine x_iconst (v := (1 : Int32)) C d_Pl_findSplits_3 (by decide) ?_
  refine x_isub C d_Pl_findSplits_4 ?_
  refine x_letI (fun x1 _ => ?_)
  refine x_istore_n (lv' := [(2, .int x1), (0, .ref v0R), (1, .int v1I)]) C d_Pl_findSplits_5 (by decide) rfl rfl ?_
  refine x_aload_n C d_Pl_findSplits_6 1 rfl ?_
  refine x_iconst (v := (0 : Int32)) C d_Pl_findSplits_7 (by decide) ?_
  refine x_gd (fun h2 => ?_)
  refine x_putI (k := 7) C (okO_iff.mp h2) rfl j6_ok y6_ok n6_ok (by decide) rfl rfl rfl rfl w450 d_Pl_findSplits_8 ?_
  refine x_letS (fun σ3 e4 => ?_)
  refine x_iconst (v := (0 : Int32)) C d_Pl_findSplits_11 (by decide) ?_
  refine x_istore_n (lv' := [(3, .int (0 : Int32)), (2, .int x1), (0, .ref v0R), (1, .int v1I)]) C d_Pl_findSplits_12 (by decide) rfl rfl ?_
  refine x_lv [2, 3, 1, 0] rfl ?_
  exact IH.2.1 v0R v1I x1 ((0 : Int32)) (σ3)
set_option maxRecDepth 20000 in
theorem s_Pl_findSplits_1 {G : GX} {p : Program} {l : Launch} {e : Env} {s : State} {m : MethodId} {args : Array Value} {below : List Frame} {meth : Method} {c : Code} {z0 u0 n : Nat} (C : Cx G p s m args meth c prog_7_method_8_code 6 "BellPlate$Planner" ((none))) (IH : I_Pl_findSplits G p l e s m args below meth c z0 u0 n) (v0R : Nat) (v1I : Int32) (v2I : Int32) (v3I : Int32) (σ : AM) : VX (QM eV G args s below z0 u0) G p l e s m args below meth c 2 z0 u0 6 (lpK (lpn F_Pl_findSplits n) (T_Pl_findSplits_1 v0R v1I v2I v3I σ)) 13 [(0, .ref v0R), (1, .int v1I), (2, .int v2I), (3, .int v3I)] [] σ := by
  unfold T_Pl_findSplits_1
  refine x_iload_n C d_Pl_findSplits_13 3 rfl ?_
  refine x_bipush (v := (64 : Int32)) C d_Pl_findSplits_14 (by decide) ?_
  refine x_icmp_ge (tgt := 120) C d_Pl_findSplits_16 (by decide) (fun _ => ?_) (fun _ => ?_)
  · refine x_iconst (v := (0 : Int32)) C d_Pl_findSplits_19 (by decide) ?_
    refine x_istore (lv' := [(4, .int (0 : Int32)), (0, .ref v0R), (1, .int v1I), (2, .int v2I), (3, .int v3I)]) C d_Pl_findSplits_20 (by decide) rfl ?_
    refine x_iconst (v := (0 : Int32)) C d_Pl_findSplits_22 (by decide) ?_
    refine x_istore (lv' := [(5, .int (0 : Int32)), (4, .int (0 : Int32)), (0, .ref v0R), (1, .int v1I), (2, .int v2I), (3, .int v3I)]) C d_Pl_findSplits_23 (by decide) rfl ?_
    refine x_lv [2, 3, 4, 5, 1, 0] rfl ?_
    exact IH.2.2.1 v0R v1I v2I v3I ((0 : Int32)) ((0 : Int32)) (σ)
  · exact x_vret C d_Pl_findSplits_120
set_option maxRecDepth 20000 in
theorem s_Pl_findSplits_2 {G : GX} {p : Program} {l : Launch} {e : Env} {s : State} {m : MethodId} {args : Array Value} {below : List Frame} {meth : Method} {c : Code} {z0 u0 n : Nat} (C : Cx G p s m args meth c prog_7_method_8_code 6 "BellPlate$Planner" ((none))) (IH : I_Pl_findSplits G p l e s m args below meth c z0 u0 n) (v0R : Nat) (v1I : Int32) (v2I : Int32) (v3I : Int32) (v4I : Int32) (v5I : Int32) (σ : AM) : VX (QM eV G args s below z0 u0) G p l e s m args below meth c 2 z0 u0 6 (lpK (lpn F_Pl_findSplits n) (T_Pl_findSplits_2 v0R v1I v2I v3I v4I v5I σ)) 25 [(0, .ref v0R), (1, .int v1I), (2, .int v2I), (3, .int v3I), (4, .int v4I), (5, .int v5I)] [] σ := by
  unfold T_Pl_findSplits_2
  refine x_iload C d_Pl_findSplits_25 5 rfl ?_
  refine x_iload_n C d_Pl_findSplits_27 1 rfl ?_
  refine x_icmp_ge (tgt := 62) C d_Pl_findSplits_28 (by decide) (fun _ => ?_) (fun _ => ?_)
  · refine x_aload_n C d_Pl_findSplits_31 0 rfl ?_
    refine x_gd (fun h1 => ?_)
    refine x_gd (fun h2 => ?_)
    refine x_getR (k := 1) (kv := 5) C (okO_iff.mp h1) rfl j6_ok (by decide) rfl (okO_iff.mp h2) (by decide) w444 d_Pl_findSplits_32 ?_
    refine x_iload C d_Pl_findSplits_35 5 rfl ?_
    refine x_callVJ (As := [.int v5I]) C (c_Rs_listAt G l (aR σ v0R 1) v5I σ) (okO_iff.mp h2) rfl w1121 w1122 w1120 w1123 w125 k_Rs_listAt rfl (by decide) (by decide) rfl (Nat.le_of_ble_eq_true rfl) d_Pl_findSplits_37 (fun r3 σ4 => ?_)
    refine x_iload_n C d_Pl_findSplits_40 3 rfl ?_
    refine x_callSI (As := [.long r3, .int v3I]) C (c_St_has G l r3 v3I σ4) w1101 w1138 w1102 w141 k_St_has rfl (by decide) (by decide) rfl (Nat.le_of_ble_eq_true rfl) d_Pl_findSplits_41 (fun r5 σ6 => ?_)
    refine x_if_eq (tgt := 56) C d_Pl_findSplits_44 (by decide) (fun _ => ?_) (fun _ => ?_)
    · exact IH.2.2.2.1 v0R v1I v2I v3I v4I v5I (σ6)
    · refine x_iload C d_Pl_findSplits_47 4 rfl ?_
      refine x_iconst (v := (1 : Int32)) C d_Pl_findSplits_49 (by decide) ?_
      refine x_iload C d_Pl_findSplits_50 5 rfl ?_
      refine x_ishl C d_Pl_findSplits_52 ?_
      refine x_ior C d_Pl_findSplits_53 ?_
      refine x_letI (fun x7 _ => ?_)
      refine x_istore (lv' := [(4, .int x7), (0, .ref v0R), (1, .int v1I), (2, .int v2I), (3, .int v3I), (5, .int v5I)]) C d_Pl_findSplits_54 (by decide) rfl ?_
      refine x_lv [1, 2, 3, 4, 0, 5] rfl ?_
      exact IH.2.2.2.1 v0R v1I v2I v3I x7 v5I (σ6)
  · refine x_iload C d_Pl_findSplits_62 4 rfl ?_
    refine x_if_eq (tgt := 114) C d_Pl_findSplits_64 (by decide) (fun _ => ?_) (fun _ => ?_)
    · refine x_lv [0, 1, 2, 3] rfl ?_
      exact IH.2.2.2.2 v0R v1I v2I v3I (σ)
    · refine x_iload C d_Pl_findSplits_67 4 rfl ?_
      refine x_iload_n C d_Pl_findSplits_69 2 rfl ?_
      refine x_icmp_eq (tgt := 114) C d_Pl_findSplits_70 (by decide) (fun _ => ?_) (fun _ => ?_)
      · refine x_lv [0, 1, 2, 3] rfl ?_
        exact IH.2.2.2.2 v0R v1I v2I v3I (σ)
      · refine x_aload_n C d_Pl_findSplits_73 0 rfl ?_
        refine x_iload C d_Pl_findSplits_74 4 rfl ?_
        refine x_iload_n C d_Pl_findSplits_76 2 rfl ?_
        refine x_gd (fun h10 => ?_)
        refine x_callVI (As := [.int v4I, .int v2I]) C (c_Pl_isNewSplit G l v0R v4I v2I σ) (okO_iff.mp h10) rfl w1217 w30 w1215 w1218 w128 k_Pl_isNewSplit rfl (by decide) (by decide) rfl (Nat.le_of_ble_eq_true rfl) d_Pl_findSplits_77 (fun r8 σ9 => ?_)
        refine x_if_eq (tgt := 114) C d_Pl_findSplits_80 (by decide) (fun _ => ?_) (fun _ => ?_)
        · refine x_lv [0, 1, 2, 3] rfl ?_
          exact IH.2.2.2.2 v0R v1I v2I v3I (σ9)
        · refine x_aload_n C d_Pl_findSplits_83 0 rfl ?_
          refine x_gd (fun h11 => ?_)
          refine x_gd (fun h12 => ?_)
          refine x_getR (k := 4) (kv := 101) C (okO_iff.mp h11) rfl j6_ok (by decide) rfl (okO_iff.mp h12) (by decide) w447 d_Pl_findSplits_84 ?_
          refine x_aload_n C d_Pl_findSplits_87 0 rfl ?_
          refine x_getI (k := 7) C (okO_iff.mp h11) rfl j6_ok (by decide) rfl w450 d_Pl_findSplits_88 ?_
          refine x_iload C d_Pl_findSplits_91 4 rfl ?_
          refine x_gd (fun h13 => ?_)
          refine x_astI C (okO_iff.mp h12) (inB_iff.mp h13) d_Pl_findSplits_93 ?_
          refine x_letS (fun σ14 e15 => ?_)
          refine x_aload_n C d_Pl_findSplits_94 0 rfl ?_
          refine x_gd (fun h16 => ?_)
          refine x_getR (k := 5) (kv := 101) C (by first | exact (okO_iff.mp h11) | (rw [e15]; exact (okO_iff.mp h11))) rfl j6_ok (by decide) rfl (okO_iff.mp h16) (by decide) w448 d_Pl_findSplits_95 ?_
          refine x_aload_n C d_Pl_findSplits_98 0 rfl ?_
          refine x_getI (k := 7) C (by first | exact (okO_iff.mp h11) | (rw [e15]; exact (okO_iff.mp h11))) rfl j6_ok (by decide) rfl w450 d_Pl_findSplits_99 ?_
          refine x_iload_n C d_Pl_findSplits_102 3 rfl ?_
          refine x_gd (fun h17 => ?_)
          refine x_astI C (okO_iff.mp h16) (inB_iff.mp h17) d_Pl_findSplits_103 ?_
          refine x_letS (fun σ18 e19 => ?_)
          refine x_aload_n C d_Pl_findSplits_104 0 rfl ?_
          refine x_dup C d_Pl_findSplits_105 rfl ?_
          refine x_getI (k := 7) C (by first | exact (okO_iff.mp h11) | (rw [e19, e15]; exact (okO_iff.mp h11))) rfl j6_ok (by decide) rfl w450 d_Pl_findSplits_106 ?_
          refine x_iconst (v := (1 : Int32)) C d_Pl_findSplits_109 (by decide) ?_
          refine x_iadd C d_Pl_findSplits_110 ?_
          refine x_putI (k := 7) C (by first | exact (okO_iff.mp h11) | (rw [e19, e15]; exact (okO_iff.mp h11))) rfl j6_ok y6_ok n6_ok (by decide) rfl rfl rfl rfl w450 d_Pl_findSplits_111 ?_
          refine x_letS (fun σ20 e21 => ?_)
          refine x_lv [0, 1, 2, 3] rfl ?_
          exact IH.2.2.2.2 v0R v1I v2I v3I (σ20)
set_option maxRecDepth 20000 in
theorem s_Pl_findSplits_3 {G : GX} {p : Program} {l : Launch} {e : Env} {s : State} {m : MethodId} {args : Array Value} {below : List Frame} {meth : Method} {c : Code} {z0 u0 n : Nat} (C : Cx G p s m args meth c prog_7_method_8_code 6 "BellPlate$Planner" ((none))) (IH : I_Pl_findSplits G p l e s m args below meth c z0 u0 n) (v0R : Nat) (v1I : Int32) (v2I : Int32) (v3I : Int32) (v4I : Int32) (v5I : Int32) (σ : AM) : VX (QM eV G args s below z0 u0) G p l e s m args below meth c 2 z0 u0 6 (lpK (lpn F_Pl_findSplits n) (T_Pl_findSplits_3 v0R v1I v2I v3I v4I v5I σ)) 56 [(0, .ref v0R), (1, .int v1I), (2, .int v2I), (3, .int v3I), (4, .int v4I), (5, .int v5I)] [] σ := by
  unfold T_Pl_findSplits_3
  refine x_iinc (v := v5I + (1 : Int32)) (lv' := [(5, .int (v5I + (1 : Int32))), (0, .ref v0R), (1, .int v1I), (2, .int v2I), (3, .int v3I), (4, .int v4I)]) C d_Pl_findSplits_56 5 rfl rfl (by decide) rfl ?_
  refine x_goto (tgt := 25) C d_Pl_findSplits_59 (by decide) ?_
  refine x_lv [1, 2, 3, 4, 5, 0] rfl ?_
  exact IH.2.2.1 v0R v1I v2I v3I v4I (v5I + (1 : Int32)) (σ)
set_option maxRecDepth 20000 in
theorem s_Pl_findSplits_4 {G : GX} {p : Program} {l : Launch} {e : Env} {s : State} {m : MethodId} {args : Array Value} {below : List Frame} {meth : Method} {c : Code} {z0 u0 n : Nat} (C : Cx G p s m args meth c prog_7_method_8_code 6 "BellPlate$Planner" ((none))) (IH : I_Pl_findSplits G p l e s m args below meth c z0 u0 n) (v0R : Nat) (v1I : Int32) (v2I : Int32) (v3I : Int32) (σ : AM) : VX (QM eV G args s below z0 u0) G p l e s m args below meth c 2 z0 u0 6 (lpK (lpn F_Pl_findSplits n) (T_Pl_findSplits_4 v0R v1I v2I v3I σ)) 114 [(0, .ref v0R), (1, .int v1I), (2, .int v2I), (3, .int v3I)] [] σ := by
  unfold T_Pl_findSplits_4
  refine x_iinc (v := v3I + (1 : Int32)) (lv' := [(3, .int (v3I + (1 : Int32))), (0, .ref v0R), (1, .int v1I), (2, .int v2I)]) C d_Pl_findSplits_114 3 rfl rfl (by decide) rfl ?_
  refine x_goto (tgt := 13) C d_Pl_findSplits_117 (by decide) ?_
  refine x_lv [1, 2, 3, 0] rfl ?_
  exact IH.2.1 v0R v1I v2I (v3I + (1 : Int32)) (σ)
theorem i_Pl_findSplits {G : GX} {p : Program} {l : Launch} {e : Env} {s : State} {m : MethodId} {args : Array Value} {below : List Frame} {meth : Method} {c : Code} {z0 u0 : Nat} (C : Cx G p s m args meth c prog_7_method_8_code 6 "BellPlate$Planner" ((none))) (n : Nat) : I_Pl_findSplits G p l e s m args below meth c z0 u0 n := by
  induction n with
  | zero => exact ⟨fun _ _ _ => x_none, fun _ _ _ _ _ => x_none, fun _ _ _ _ _ _ _ => x_none, fun _ _ _ _ _ _ _ => x_none, fun _ _ _ _ _ => x_none⟩
  | succ n IH => exact ⟨fun v0R v1I σ => s_Pl_findSplits_0 C IH v0R v1I σ, fun v0R v1I v2I v3I σ => s_Pl_findSplits_1 C IH v0R v1I v2I v3I σ, fun v0R v1I v2I v3I v4I v5I σ => s_Pl_findSplits_2 C IH v0R v1I v2I v3I v4I v5I σ, fun v0R v1I v2I v3I v4I v5I σ => s_Pl_findSplits_3 C IH v0R v1I v2I v3I v4I v5I σ, fun v0R v1I v2I v3I σ => s_Pl_findSplits_4 C IH v0R v1I v2I v3I σ⟩
theorem c_Pl_findSplits (G : GX) (l : Launch) (v0R : Nat) (v1I : Int32) (σ : AM) : CT eV G l 2 y_Pl_findSplits prog_7_method_8_code 6 (none) [.ref v0R, .int v1I] σ (M_Pl_findSplits v0R v1I σ) := by
  refine ct_of (by decide +kernel) (Nat.le_of_ble_eq_true rfl) (fun p e s m args below meth c C hin => ?_)
  refine x_lve (lv' := [(0, .ref v0R), (1, .int v1I)]) rfl ?_
  intro r σ' h
  obtain ⟨n, hn⟩ := (lp_iff _ _ _).mp h
  exact (i_Pl_findSplits C n).1 v0R v1I σ r σ' hn
/-! BellPlate$Planner.isAlike(I)Z -/
abbrev y_Pl_isAlike : MethodName := ⟨"BellPlate$Planner", "isAlike", "(I)Z"⟩
theorem k_Pl_isAlike : y_Pl_isAlike.cls ≠ "java/lang/invoke/MethodHandle" ∧ y_Pl_isAlike.cls ≠ "java/lang/invoke/VarHandle" ∧ (parseMethodDescriptor y_Pl_isAlike.desc).map (fun d => d.parameters.length) = some 1 := by decide +kernel
theorem d_Pl_isAlike_0 : decode prog_7_method_11_code 0 = .ok (.iconst 0, 1) := by decide +kernel
theorem d_Pl_isAlike_1 : decode prog_7_method_11_code 1 = .ok (.istore_n 2, 1) := by decide +kernel
theorem d_Pl_isAlike_2 : decode prog_7_method_11_code 2 = .ok (.iload_n 2, 1) := by decide +kernel
theorem d_Pl_isAlike_3 : decode prog_7_method_11_code 3 = .ok (.bipush 12, 2) := by decide +kernel
theorem d_Pl_isAlike_5 : decode prog_7_method_11_code 5 = .ok (.if_icmp .ge 36, 3) := by decide +kernel
theorem d_Pl_isAlike_8 : decode prog_7_method_11_code 8 = .ok (.iload_n 1, 1) := by decide +kernel
theorem d_Pl_isAlike_9 : decode prog_7_method_11_code 9 = .ok (.iload_n 2, 1) := by decide +kernel
theorem d_Pl_isAlike_10 : decode prog_7_method_11_code 10 = .ok (.ishr, 1) := by decide +kernel
theorem d_Pl_isAlike_11 : decode prog_7_method_11_code 11 = .ok (.iconst 1, 1) := by decide +kernel
theorem d_Pl_isAlike_12 : decode prog_7_method_11_code 12 = .ok (.iand, 1) := by decide +kernel
theorem d_Pl_isAlike_13 : decode prog_7_method_11_code 13 = .ok (.ifCond .eq 22, 3) := by decide +kernel
theorem d_Pl_isAlike_16 : decode prog_7_method_11_code 16 = .ok (.iload_n 1, 1) := by decide +kernel
theorem d_Pl_isAlike_17 : decode prog_7_method_11_code 17 = .ok (.aload_n 0, 1) := by decide +kernel
theorem d_Pl_isAlike_18 : decode prog_7_method_11_code 18 = .ok (.getfield 23, 3) := by decide +kernel
theorem d_Pl_isAlike_21 : decode prog_7_method_11_code 21 = .ok (.iload_n 2, 1) := by decide +kernel
theorem d_Pl_isAlike_22 : decode prog_7_method_11_code 22 = .ok (.iaload, 1) := by decide +kernel
theorem d_Pl_isAlike_23 : decode prog_7_method_11_code 23 = .ok (.iconst (-1), 1) := by decide +kernel
theorem d_Pl_isAlike_24 : decode prog_7_method_11_code 24 = .ok (.ixor, 1) := by decide +kernel
theorem d_Pl_isAlike_25 : decode prog_7_method_11_code 25 = .ok (.iand, 1) := by decide +kernel
theorem d_Pl_isAlike_26 : decode prog_7_method_11_code 26 = .ok (.ifCond .ne 7, 3) := by decide +kernel
theorem d_Pl_isAlike_29 : decode prog_7_method_11_code 29 = .ok (.iconst 1, 1) := by decide +kernel
theorem d_Pl_isAlike_30 : decode prog_7_method_11_code 30 = .ok (.goto 4, 3) := by decide +kernel
theorem d_Pl_isAlike_33 : decode prog_7_method_11_code 33 = .ok (.iconst 0, 1) := by decide +kernel
theorem d_Pl_isAlike_34 : decode prog_7_method_11_code 34 = .ok (.ireturn, 1) := by decide +kernel
theorem d_Pl_isAlike_35 : decode prog_7_method_11_code 35 = .ok (.iinc 2 1, 3) := by decide +kernel
theorem d_Pl_isAlike_38 : decode prog_7_method_11_code 38 = .ok (.goto (-36), 3) := by decide +kernel
theorem d_Pl_isAlike_41 : decode prog_7_method_11_code 41 = .ok (.iconst 1, 1) := by decide +kernel
theorem d_Pl_isAlike_42 : decode prog_7_method_11_code 42 = .ok (.ireturn, 1) := by decide +kernel
abbrev S_Pl_isAlike : Type := Nat × Nat × Int32 × Int32 × Int32 × AM
noncomputable def T_Pl_isAlike_0 (v0R : Nat) (v1I : Int32) (σ : AM) : S_Pl_isAlike ⊕ Option (Int32 × AM) :=
  .inl (1, v0R, v1I, (0 : Int32), 0, σ)
noncomputable def T_Pl_isAlike_1 (v0R : Nat) (v1I : Int32) (v2I : Int32) (σ : AM) : S_Pl_isAlike ⊕ Option (Int32 × AM) :=
  if v2I < (12 : Int32) then (if ((v1I >>> (v2I &&& 31)) &&& (1 : Int32)) = 0 then (.inl (1, v0R, v1I, v2I + (1 : Int32), 0, σ)) else (gdT (okO σ v0R 7) <| gdT (okO σ (aR σ v0R 3) 101) <| gdT (inB v2I (aN σ (aR σ v0R 3))) <| if (v1I &&& ((aI σ (aR σ v0R 3) v2I.toNatClampNeg) ^^^ ((-1) : Int32))) = 0 then (.inl (2, 0, 0, 0, (1 : Int32), σ)) else (.inl (2, 0, 0, 0, (0 : Int32), σ)))) else (.inr (some ((1 : Int32), σ)))
noncomputable def T_Pl_isAlike_2 (s0I : Int32) (σ : AM) : S_Pl_isAlike ⊕ Option (Int32 × AM) :=
  gdT (isB s0I) <| .inr (some (s0I, σ))
noncomputable def F_Pl_isAlike : S_Pl_isAlike → S_Pl_isAlike ⊕ Option (Int32 × AM) := fun s => match s.1 with
  | 0 => T_Pl_isAlike_0 (s.2.1) (s.2.2.1) (s.2.2.2.2.2)
  | 1 => T_Pl_isAlike_1 (s.2.1) (s.2.2.1) (s.2.2.2.1) (s.2.2.2.2.2)
  | _ => T_Pl_isAlike_2 (s.2.2.2.2.1) (s.2.2.2.2.2)
noncomputable def L_Pl_isAlike_0 (v0R : Nat) (v1I : Int32) (σ : AM) : Option (Int32 × AM) := lp F_Pl_isAlike (0, v0R, v1I, 0, 0, σ)
noncomputable def L_Pl_isAlike_1 (v0R : Nat) (v1I : Int32) (v2I : Int32) (σ : AM) : Option (Int32 × AM) := lp F_Pl_isAlike (1, v0R, v1I, v2I, 0, σ)
noncomputable def L_Pl_isAlike_2 (s0I : Int32) (σ : AM) : Option (Int32 × AM) := lp F_Pl_isAlike (2, 0, 0, 0, s0I, σ)
set_option maxRecDepth 20000 in
theorem E_Pl_isAlike_0 (v0R : Nat) (v1I : Int32) (σ : AM) : L_Pl_isAlike_0 v0R v1I σ = (L_Pl_isAlike_1 v0R v1I ((0 : Int32)) σ) := by
  unfold L_Pl_isAlike_0
  rw [lp_eq]
  show lpK (lp F_Pl_isAlike) (T_Pl_isAlike_0 v0R v1I σ) = _
  unfold T_Pl_isAlike_0
  simp only [lpK_ite, lq_inl, lq_inr, lpK_bnd, lpK_gd, lq_let]
  try rfl
set_option maxRecDepth 20000 in
theorem E_Pl_isAlike_1 (v0R : Nat) (v1I : Int32) (v2I : Int32) (σ : AM) : L_Pl_isAlike_1 v0R v1I v2I σ = (if v2I < (12 : Int32) then (if ((v1I >>> (v2I &&& 31)) &&& (1 : Int32)) = 0 then (L_Pl_isAlike_1 v0R v1I (v2I + (1 : Int32)) σ) else (gd (okO σ v0R 7) <| gd (okO σ (aR σ v0R 3) 101) <| gd (inB v2I (aN σ (aR σ v0R 3))) <| if (v1I &&& ((aI σ (aR σ v0R 3) v2I.toNatClampNeg) ^^^ ((-1) : Int32))) = 0 then (L_Pl_isAlike_2 ((1 : Int32)) σ) else (L_Pl_isAlike_2 ((0 : Int32)) σ))) else ((some ((1 : Int32), σ)))) := by
  unfold L_Pl_isAlike_1
  rw [lp_eq]
  show lpK (lp F_Pl_isAlike) (T_Pl_isAlike_1 v0R v1I v2I σ) = _
  unfold T_Pl_isAlike_1
  simp only [lpK_ite, lq_inl, lq_inr, lpK_bnd, lpK_gd, lq_let]
  try rfl
set_option maxRecDepth 20000 in
theorem E_Pl_isAlike_2 (s0I : Int32) (σ : AM) : L_Pl_isAlike_2 s0I σ = (gd (isB s0I) <| (some (s0I, σ))) := by
  unfold L_Pl_isAlike_2
  rw [lp_eq]
  show lpK (lp F_Pl_isAlike) (T_Pl_isAlike_2 s0I σ) = _
  unfold T_Pl_isAlike_2
  simp only [lpK_ite, lq_inl, lq_inr, lpK_bnd, lpK_gd, lq_let]
  try rfl
noncomputable def M_Pl_isAlike (v0R : Nat) (v1I : Int32) (σ : AM) : Option (Int32 × AM) := mw σ (L_Pl_isAlike_0 v0R v1I σ)
def I_Pl_isAlike (G : GX) (p : Program) (l : Launch) (e : Env) (s : State) (m : MethodId) (args : Array Value) (below : List Frame) (meth : Method) (c : Code) (z0 u0 n : Nat) : Prop :=
  (∀ (v0R : Nat) (v1I : Int32) (σ : AM), VX (QM eI G args s below z0 u0) G p l e s m args below meth c 0 z0 u0 3 (lpn F_Pl_isAlike n (0, v0R, v1I, 0, 0, σ)) 0 [(0, .ref v0R), (1, .int v1I)] [] σ) ∧
  (∀ (v0R : Nat) (v1I : Int32) (v2I : Int32) (σ : AM), VX (QM eI G args s below z0 u0) G p l e s m args below meth c 0 z0 u0 3 (lpn F_Pl_isAlike n (1, v0R, v1I, v2I, 0, σ)) 2 [(0, .ref v0R), (1, .int v1I), (2, .int v2I)] [] σ) ∧
  (∀ (s0I : Int32) (σ : AM), VX (QM eI G args s below z0 u0) G p l e s m args below meth c 0 z0 u0 3 (lpn F_Pl_isAlike n (2, 0, 0, 0, s0I, σ)) 34 [] [.int s0I] σ)
set_option maxRecDepth 20000 in
theorem s_Pl_isAlike_0 {G : GX} {p : Program} {l : Launch} {e : Env} {s : State} {m : MethodId} {args : Array Value} {below : List Frame} {meth : Method} {c : Code} {z0 u0 n : Nat} (C : Cx G p s m args meth c prog_7_method_11_code 3 "BellPlate$Planner" ((some FieldType.boolean))) (IH : I_Pl_isAlike G p l e s m args below meth c z0 u0 n) (v0R : Nat) (v1I : Int32) (σ : AM) : VX (QM eI G args s below z0 u0) G p l e s m args below meth c 0 z0 u0 3 (lpK (lpn F_Pl_isAlike n) (T_Pl_isAlike_0 v0R v1I σ)) 0 [(0, .ref v0R), (1, .int v1I)] [] σ := by
  unfold T_Pl_isAlike_0
  refine x_iconst (v := (0 : Int32)) C d_Pl_isAlike_0 (by decide) ?_
  refine x_istore_n (lv' := [(2, .int (0 : Int32)), (0, .ref v0R), (1, .int v1I)]) C d_Pl_isAlike_1 (by decide) rfl rfl ?_
  refine x_lv [1, 2, 0] rfl ?_
  exact IH.2.1 v0R v1I ((0 : Int32)) (σ)
set_option maxRecDepth 20000 in
theorem s_Pl_isAlike_1 {G : GX} {p : Program} {l : Launch} {e : Env} {s : State} {m : MethodId} {args : Array Value} {below : List Frame} {meth : Method} {c : Code} {z0 u0 n : Nat} (C : Cx G p s m args meth c prog_7_method_11_code 3 "BellPlate$Planner" ((some FieldType.boolean))) (IH : I_Pl_isAlike G p l e s m args below meth c z0 u0 n) (v0R : Nat) (v1I : Int32) (v2I : Int32) (σ : AM) : VX (QM eI G args s below z0 u0) G p l e s m args below meth c 0 z0 u0 3 (lpK (lpn F_Pl_isAlike n) (T_Pl_isAlike_1 v0R v1I v2I σ)) 2 [(0, .ref v0R), (1, .int v1I), (2, .int v2I)] [] σ := by
  unfold T_Pl_isAlike_1
  refine x_iload_n C d_Pl_isAlike_2 2 rfl ?_
  refine x_bipush (v := (12 : Int32)) C d_Pl_isAlike_3 (by decide) ?_
  refine x_icmp_ge (tgt := 41) C d_Pl_isAlike_5 (by decide) (fun _ => ?_) (fun _ => ?_)
  · refine x_iload_n C d_Pl_isAlike_8 1 rfl ?_
    refine x_iload_n C d_Pl_isAlike_9 2 rfl ?_
    refine x_ishr C d_Pl_isAlike_10 ?_
    refine x_iconst (v := (1 : Int32)) C d_Pl_isAlike_11 (by decide) ?_
    refine x_iand C d_Pl_isAlike_12 ?_
    refine x_if_eq (tgt := 35) C d_Pl_isAlike_13 (by decide) (fun _ => ?_) (fun _ => ?_)
    · refine x_iinc (v := v2I + (1 : Int32)) (lv' := [(2, .int (v2I + (1 : Int32))), (0, .ref v0R), (1, .int v1I)]) C d_Pl_isAlike_35 2 rfl rfl (by decide) rfl ?_
      refine x_goto (tgt := 2) C d_Pl_isAlike_38 (by decide) ?_
      refine x_lv [1, 2, 0] rfl ?_
      exact IH.2.1 v0R v1I (v2I + (1 : Int32)) (σ)
    · refine x_iload_n C d_Pl_isAlike_16 1 rfl ?_
      refine x_aload_n C d_Pl_isAlike_17 0 rfl ?_
      refine x_gd (fun h1 => ?_)
      refine x_gd (fun h2 => ?_)
      refine x_getR (k := 3) (kv := 101) C (okO_iff.mp h1) rfl j6_ok (by decide) rfl (okO_iff.mp h2) (by decide) w446 d_Pl_isAlike_18 ?_
      refine x_iload_n C d_Pl_isAlike_21 2 rfl ?_
      refine x_gd (fun h3 => ?_)
      refine x_aldI C (okO_iff.mp h2) (inB_iff.mp h3) d_Pl_isAlike_22 ?_
      refine x_iconst (v := ((-1) : Int32)) C d_Pl_isAlike_23 (by decide) ?_
      refine x_ixor C d_Pl_isAlike_24 ?_
      refine x_iand C d_Pl_isAlike_25 ?_
      refine x_if_ne (tgt := 33) C d_Pl_isAlike_26 (by decide) (fun _ => ?_) (fun _ => ?_)
      · refine x_iconst (v := (1 : Int32)) C d_Pl_isAlike_29 (by decide) ?_
        refine x_goto (tgt := 34) C d_Pl_isAlike_30 (by decide) ?_
        refine x_lv [] rfl ?_
        exact IH.2.2 ((1 : Int32)) (σ)
      · refine x_iconst (v := (0 : Int32)) C d_Pl_isAlike_33 (by decide) ?_
        refine x_lv [] rfl ?_
        exact IH.2.2 ((0 : Int32)) (σ)
  · refine x_iconst (v := (1 : Int32)) C d_Pl_isAlike_41 (by decide) ?_
    exact x_zret C (by decide) d_Pl_isAlike_42
set_option maxRecDepth 20000 in
theorem s_Pl_isAlike_2 {G : GX} {p : Program} {l : Launch} {e : Env} {s : State} {m : MethodId} {args : Array Value} {below : List Frame} {meth : Method} {c : Code} {z0 u0 n : Nat} (C : Cx G p s m args meth c prog_7_method_11_code 3 "BellPlate$Planner" ((some FieldType.boolean))) (IH : I_Pl_isAlike G p l e s m args below meth c z0 u0 n) (s0I : Int32) (σ : AM) : VX (QM eI G args s below z0 u0) G p l e s m args below meth c 0 z0 u0 3 (lpK (lpn F_Pl_isAlike n) (T_Pl_isAlike_2 s0I σ)) 34 [] [.int s0I] σ := by
  unfold T_Pl_isAlike_2
  refine x_gd (fun h1 => ?_)
  exact x_zret C (isB_narrow h1) d_Pl_isAlike_34
theorem i_Pl_isAlike {G : GX} {p : Program} {l : Launch} {e : Env} {s : State} {m : MethodId} {args : Array Value} {below : List Frame} {meth : Method} {c : Code} {z0 u0 : Nat} (C : Cx G p s m args meth c prog_7_method_11_code 3 "BellPlate$Planner" ((some FieldType.boolean))) (n : Nat) : I_Pl_isAlike G p l e s m args below meth c z0 u0 n := by
  induction n with
  | zero => exact ⟨fun _ _ _ => x_none, fun _ _ _ _ => x_none, fun _ _ => x_none⟩
  | succ n IH => exact ⟨fun v0R v1I σ => s_Pl_isAlike_0 C IH v0R v1I σ, fun v0R v1I v2I σ => s_Pl_isAlike_1 C IH v0R v1I v2I σ, fun s0I σ => s_Pl_isAlike_2 C IH s0I σ⟩
theorem c_Pl_isAlike (G : GX) (l : Launch) (v0R : Nat) (v1I : Int32) (σ : AM) : CT eI G l 0 y_Pl_isAlike prog_7_method_11_code 3 ((some FieldType.boolean)) [.ref v0R, .int v1I] σ (M_Pl_isAlike v0R v1I σ) := by
  refine ct_of (by decide +kernel) (Nat.le_of_ble_eq_true rfl) (fun p e s m args below meth c C hin => ?_)
  refine x_lve (lv' := [(0, .ref v0R), (1, .int v1I)]) rfl ?_
  intro r σ' h
  obtain ⟨n, hn⟩ := (lp_iff _ _ _).mp h
  exact (i_Pl_isAlike C n).1 v0R v1I σ r σ' hn
abbrev GT_Pl_depthBy_Pl_depthOf : Type := (Nat → Int32 → Int32 → Int32 → Int32 → AM → Option (Int32 × AM)) × (Nat → Int32 → Int32 → AM → Option (Int32 × AM))
/-! BellPlate$Planner.depthBy(IIII)I -/
abbrev y_Pl_depthBy : MethodName := ⟨"BellPlate$Planner", "depthBy", "(IIII)I"⟩
theorem k_Pl_depthBy : y_Pl_depthBy.cls ≠ "java/lang/invoke/MethodHandle" ∧ y_Pl_depthBy.cls ≠ "java/lang/invoke/VarHandle" ∧ (parseMethodDescriptor y_Pl_depthBy.desc).map (fun d => d.parameters.length) = some 4 := by decide +kernel
theorem d_Pl_depthBy_0 : decode prog_7_method_12_code 0 = .ok (.iload_n 2, 1) := by decide +kernel
theorem d_Pl_depthBy_1 : decode prog_7_method_12_code 1 = .ok (.aload_n 0, 1) := by decide +kernel
theorem d_Pl_depthBy_2 : decode prog_7_method_12_code 2 = .ok (.getfield 28, 3) := by decide +kernel
theorem d_Pl_depthBy_5 : decode prog_7_method_12_code 5 = .ok (.iload_n 1, 1) := by decide +kernel
theorem d_Pl_depthBy_6 : decode prog_7_method_12_code 6 = .ok (.iaload, 1) := by decide +kernel
theorem d_Pl_depthBy_7 : decode prog_7_method_12_code 7 = .ok (.iand, 1) := by decide +kernel
theorem d_Pl_depthBy_8 : decode prog_7_method_12_code 8 = .ok (.istore 5, 2) := by decide +kernel
theorem d_Pl_depthBy_10 : decode prog_7_method_12_code 10 = .ok (.iload_n 2, 1) := by decide +kernel
theorem d_Pl_depthBy_11 : decode prog_7_method_12_code 11 = .ok (.aload_n 0, 1) := by decide +kernel
theorem d_Pl_depthBy_12 : decode prog_7_method_12_code 12 = .ok (.getfield 28, 3) := by decide +kernel
theorem d_Pl_depthBy_15 : decode prog_7_method_12_code 15 = .ok (.iload_n 1, 1) := by decide +kernel
theorem d_Pl_depthBy_16 : decode prog_7_method_12_code 16 = .ok (.iaload, 1) := by decide +kernel
theorem d_Pl_depthBy_17 : decode prog_7_method_12_code 17 = .ok (.iconst (-1), 1) := by decide +kernel
theorem d_Pl_depthBy_18 : decode prog_7_method_12_code 18 = .ok (.ixor, 1) := by decide +kernel
theorem d_Pl_depthBy_19 : decode prog_7_method_12_code 19 = .ok (.iand, 1) := by decide +kernel
theorem d_Pl_depthBy_20 : decode prog_7_method_12_code 20 = .ok (.istore 6, 2) := by decide +kernel
theorem d_Pl_depthBy_22 : decode prog_7_method_12_code 22 = .ok (.iload 5, 2) := by decide +kernel
theorem d_Pl_depthBy_24 : decode prog_7_method_12_code 24 = .ok (.ifCond .eq 8, 3) := by decide +kernel
theorem d_Pl_depthBy_27 : decode prog_7_method_12_code 27 = .ok (.iload 6, 2) := by decide +kernel
theorem d_Pl_depthBy_29 : decode prog_7_method_12_code 29 = .ok (.ifCond .ne 6, 3) := by decide +kernel
theorem d_Pl_depthBy_32 : decode prog_7_method_12_code 32 = .ok (.iload 4, 2) := by decide +kernel
theorem d_Pl_depthBy_34 : decode prog_7_method_12_code 34 = .ok (.ireturn, 1) := by decide +kernel
theorem d_Pl_depthBy_35 : decode prog_7_method_12_code 35 = .ok (.iconst 1, 1) := by decide +kernel
theorem d_Pl_depthBy_36 : decode prog_7_method_12_code 36 = .ok (.aload_n 0, 1) := by decide +kernel
theorem d_Pl_depthBy_37 : decode prog_7_method_12_code 37 = .ok (.iload 5, 2) := by decide +kernel
theorem d_Pl_depthBy_39 : decode prog_7_method_12_code 39 = .ok (.iload_n 3, 1) := by decide +kernel
theorem d_Pl_depthBy_40 : decode prog_7_method_12_code 40 = .ok (.iconst 1, 1) := by decide +kernel
theorem d_Pl_depthBy_41 : decode prog_7_method_12_code 41 = .ok (.iadd, 1) := by decide +kernel
theorem d_Pl_depthBy_42 : decode prog_7_method_12_code 42 = .ok (.invokevirtual 99, 3) := by decide +kernel
theorem d_Pl_depthBy_45 : decode prog_7_method_12_code 45 = .ok (.iadd, 1) := by decide +kernel
theorem d_Pl_depthBy_46 : decode prog_7_method_12_code 46 = .ok (.istore 7, 2) := by decide +kernel
theorem d_Pl_depthBy_48 : decode prog_7_method_12_code 48 = .ok (.iload 7, 2) := by decide +kernel
theorem d_Pl_depthBy_50 : decode prog_7_method_12_code 50 = .ok (.iload 4, 2) := by decide +kernel
theorem d_Pl_depthBy_52 : decode prog_7_method_12_code 52 = .ok (.if_icmp .lt 6, 3) := by decide +kernel
theorem d_Pl_depthBy_55 : decode prog_7_method_12_code 55 = .ok (.iload 4, 2) := by decide +kernel
theorem d_Pl_depthBy_57 : decode prog_7_method_12_code 57 = .ok (.ireturn, 1) := by decide +kernel
theorem d_Pl_depthBy_58 : decode prog_7_method_12_code 58 = .ok (.iload 7, 2) := by decide +kernel
theorem d_Pl_depthBy_60 : decode prog_7_method_12_code 60 = .ok (.iconst 1, 1) := by decide +kernel
theorem d_Pl_depthBy_61 : decode prog_7_method_12_code 61 = .ok (.aload_n 0, 1) := by decide +kernel
theorem d_Pl_depthBy_62 : decode prog_7_method_12_code 62 = .ok (.iload 6, 2) := by decide +kernel
theorem d_Pl_depthBy_64 : decode prog_7_method_12_code 64 = .ok (.iload_n 3, 1) := by decide +kernel
theorem d_Pl_depthBy_65 : decode prog_7_method_12_code 65 = .ok (.iconst 1, 1) := by decide +kernel
theorem d_Pl_depthBy_66 : decode prog_7_method_12_code 66 = .ok (.iadd, 1) := by decide +kernel
theorem d_Pl_depthBy_67 : decode prog_7_method_12_code 67 = .ok (.invokevirtual 99, 3) := by decide +kernel
theorem d_Pl_depthBy_70 : decode prog_7_method_12_code 70 = .ok (.iadd, 1) := by decide +kernel
theorem d_Pl_depthBy_71 : decode prog_7_method_12_code 71 = .ok (.invokestatic 117, 3) := by decide +kernel
theorem d_Pl_depthBy_74 : decode prog_7_method_12_code 74 = .ok (.ireturn, 1) := by decide +kernel
/-! BellPlate$Planner.depthOf(II)I -/
abbrev y_Pl_depthOf : MethodName := ⟨"BellPlate$Planner", "depthOf", "(II)I"⟩
theorem k_Pl_depthOf : y_Pl_depthOf.cls ≠ "java/lang/invoke/MethodHandle" ∧ y_Pl_depthOf.cls ≠ "java/lang/invoke/VarHandle" ∧ (parseMethodDescriptor y_Pl_depthOf.desc).map (fun d => d.parameters.length) = some 2 := by decide +kernel
theorem d_Pl_depthOf_0 : decode prog_7_method_10_code 0 = .ok (.iload_n 1, 1) := by decide +kernel
theorem d_Pl_depthOf_1 : decode prog_7_method_10_code 1 = .ok (.ifCond .eq 9, 3) := by decide +kernel
theorem d_Pl_depthOf_4 : decode prog_7_method_10_code 4 = .ok (.iload_n 2, 1) := by decide +kernel
theorem d_Pl_depthOf_5 : decode prog_7_method_10_code 5 = .ok (.bipush 12, 2) := by decide +kernel
theorem d_Pl_depthOf_7 : decode prog_7_method_10_code 7 = .ok (.if_icmp .le 5, 3) := by decide +kernel
theorem d_Pl_depthOf_10 : decode prog_7_method_10_code 10 = .ok (.iconst 0, 1) := by decide +kernel
theorem d_Pl_depthOf_11 : decode prog_7_method_10_code 11 = .ok (.ireturn, 1) := by decide +kernel
theorem d_Pl_depthOf_12 : decode prog_7_method_10_code 12 = .ok (.aload_n 0, 1) := by decide +kernel
theorem d_Pl_depthOf_13 : decode prog_7_method_10_code 13 = .ok (.getfield 34, 3) := by decide +kernel
theorem d_Pl_depthOf_16 : decode prog_7_method_10_code 16 = .ok (.iload_n 1, 1) := by decide +kernel
theorem d_Pl_depthOf_17 : decode prog_7_method_10_code 17 = .ok (.baload, 1) := by decide +kernel
theorem d_Pl_depthOf_18 : decode prog_7_method_10_code 18 = .ok (.ifCond .lt 10, 3) := by decide +kernel
theorem d_Pl_depthOf_21 : decode prog_7_method_10_code 21 = .ok (.aload_n 0, 1) := by decide +kernel
theorem d_Pl_depthOf_22 : decode prog_7_method_10_code 22 = .ok (.getfield 34, 3) := by decide +kernel
theorem d_Pl_depthOf_25 : decode prog_7_method_10_code 25 = .ok (.iload_n 1, 1) := by decide +kernel
theorem d_Pl_depthOf_26 : decode prog_7_method_10_code 26 = .ok (.baload, 1) := by decide +kernel
theorem d_Pl_depthOf_27 : decode prog_7_method_10_code 27 = .ok (.ireturn, 1) := by decide +kernel
theorem d_Pl_depthOf_28 : decode prog_7_method_10_code 28 = .ok (.iconst 0, 1) := by decide +kernel
theorem d_Pl_depthOf_29 : decode prog_7_method_10_code 29 = .ok (.istore_n 3, 1) := by decide +kernel
theorem d_Pl_depthOf_30 : decode prog_7_method_10_code 30 = .ok (.aload_n 0, 1) := by decide +kernel
theorem d_Pl_depthOf_31 : decode prog_7_method_10_code 31 = .ok (.iload_n 1, 1) := by decide +kernel
theorem d_Pl_depthOf_32 : decode prog_7_method_10_code 32 = .ok (.invokevirtual 113, 3) := by decide +kernel
theorem d_Pl_depthOf_35 : decode prog_7_method_10_code 35 = .ok (.ifCond .ne 43, 3) := by decide +kernel
theorem d_Pl_depthOf_38 : decode prog_7_method_10_code 38 = .ok (.bipush 12, 2) := by decide +kernel
theorem d_Pl_depthOf_40 : decode prog_7_method_10_code 40 = .ok (.istore_n 3, 1) := by decide +kernel
theorem d_Pl_depthOf_41 : decode prog_7_method_10_code 41 = .ok (.iconst 0, 1) := by decide +kernel
theorem d_Pl_depthOf_42 : decode prog_7_method_10_code 42 = .ok (.istore 4, 2) := by decide +kernel
theorem d_Pl_depthOf_44 : decode prog_7_method_10_code 44 = .ok (.iload 4, 2) := by decide +kernel
theorem d_Pl_depthOf_46 : decode prog_7_method_10_code 46 = .ok (.aload_n 0, 1) := by decide +kernel
theorem d_Pl_depthOf_47 : decode prog_7_method_10_code 47 = .ok (.getfield 102, 3) := by decide +kernel
theorem d_Pl_depthOf_50 : decode prog_7_method_10_code 50 = .ok (.if_icmp .ge 28, 3) := by decide +kernel
theorem d_Pl_depthOf_53 : decode prog_7_method_10_code 53 = .ok (.iload_n 3, 1) := by decide +kernel
theorem d_Pl_depthOf_54 : decode prog_7_method_10_code 54 = .ok (.iconst 1, 1) := by decide +kernel
theorem d_Pl_depthOf_55 : decode prog_7_method_10_code 55 = .ok (.if_icmp .le 23, 3) := by decide +kernel
theorem d_Pl_depthOf_58 : decode prog_7_method_10_code 58 = .ok (.iload_n 3, 1) := by decide +kernel
theorem d_Pl_depthOf_59 : decode prog_7_method_10_code 59 = .ok (.aload_n 0, 1) := by decide +kernel
theorem d_Pl_depthOf_60 : decode prog_7_method_10_code 60 = .ok (.iload 4, 2) := by decide +kernel
theorem d_Pl_depthOf_62 : decode prog_7_method_10_code 62 = .ok (.iload_n 1, 1) := by decide +kernel
theorem d_Pl_depthOf_63 : decode prog_7_method_10_code 63 = .ok (.iload_n 2, 1) := by decide +kernel
theorem d_Pl_depthOf_64 : decode prog_7_method_10_code 64 = .ok (.iload_n 3, 1) := by decide +kernel
theorem d_Pl_depthOf_65 : decode prog_7_method_10_code 65 = .ok (.invokevirtual 105, 3) := by decide +kernel
theorem d_Pl_depthOf_68 : decode prog_7_method_10_code 68 = .ok (.invokestatic 79, 3) := by decide +kernel
theorem d_Pl_depthOf_71 : decode prog_7_method_10_code 71 = .ok (.istore_n 3, 1) := by decide +kernel
theorem d_Pl_depthOf_72 : decode prog_7_method_10_code 72 = .ok (.iinc 4 1, 3) := by decide +kernel
theorem d_Pl_depthOf_75 : decode prog_7_method_10_code 75 = .ok (.goto (-31), 3) := by decide +kernel
theorem d_Pl_depthOf_78 : decode prog_7_method_10_code 78 = .ok (.aload_n 0, 1) := by decide +kernel
theorem d_Pl_depthOf_79 : decode prog_7_method_10_code 79 = .ok (.getfield 34, 3) := by decide +kernel
theorem d_Pl_depthOf_82 : decode prog_7_method_10_code 82 = .ok (.iload_n 1, 1) := by decide +kernel
theorem d_Pl_depthOf_83 : decode prog_7_method_10_code 83 = .ok (.iload_n 3, 1) := by decide +kernel
theorem d_Pl_depthOf_84 : decode prog_7_method_10_code 84 = .ok (.i2b, 1) := by decide +kernel
theorem d_Pl_depthOf_85 : decode prog_7_method_10_code 85 = .ok (.bastore, 1) := by decide +kernel
theorem d_Pl_depthOf_86 : decode prog_7_method_10_code 86 = .ok (.iload_n 3, 1) := by decide +kernel
theorem d_Pl_depthOf_87 : decode prog_7_method_10_code 87 = .ok (.ireturn, 1) := by decide +kernel
def H_Pl_depthBy_Pl_depthOf (G : GX) (l : Launch) (n0 : Nat) (rec : GT_Pl_depthBy_Pl_depthOf) : Prop := (∀ (v0R : Nat) (v1I : Int32) (v2I : Int32) (v3I : Int32) (v4I : Int32) (σ : AM), CT eI G l (1 + n0) y_Pl_depthBy prog_7_method_12_code 8 ((some FieldType.int)) [.ref v0R, .int v1I, .int v2I, .int v3I, .int v4I] σ (rec.1 v0R v1I v2I v3I v4I σ)) ∧ (∀ (v0R : Nat) (v1I : Int32) (v2I : Int32) (σ : AM), CT eI G l (1 + n0) y_Pl_depthOf prog_7_method_10_code 5 ((some FieldType.int)) [.ref v0R, .int v1I, .int v2I] σ (rec.2 v0R v1I v2I σ))
abbrev S_Pl_depthBy : Type := Nat × Nat × Int32 × Int32 × Int32 × Int32 × AM
noncomputable def T_Pl_depthBy_0 (rec : GT_Pl_depthBy_Pl_depthOf) (v0R : Nat) (v1I : Int32) (v2I : Int32) (v3I : Int32) (v4I : Int32) (σ : AM) : S_Pl_depthBy ⊕ Option (Int32 × AM) :=
  gdT (okO σ v0R 7) <| gdT (okO σ (aR σ v0R 4) 101) <| gdT (inB v1I (aN σ (aR σ v0R 4))) <| letT (v2I &&& (aI σ (aR σ v0R 4) v1I.toNatClampNeg)) fun x4 => letT (v2I &&& ((aI σ (aR σ v0R 4) v1I.toNatClampNeg) ^^^ ((-1) : Int32))) fun x5 => if x4 = 0 then (.inl (1, 0, 0, 0, 0, v4I, σ)) else (if x5 = 0 then (.inl (1, 0, 0, 0, 0, v4I, σ)) else (bndT (rec.2 v0R x4 (v3I + (1 : Int32)) σ) fun r6 σ7 => letT ((1 : Int32) + r6) fun x8 => if x8 < v4I then (gdT (okO σ7 v0R 7) <| bndT (rec.2 v0R x5 (v3I + (1 : Int32)) σ7) fun r9 σ10 => .inr (some ((mxI x8 ((1 : Int32) + r9)), σ10))) else (.inr (some (v4I, σ7)))))
noncomputable def T_Pl_depthBy_1 (rec : GT_Pl_depthBy_Pl_depthOf) (v4I : Int32) (σ : AM) : S_Pl_depthBy ⊕ Option (Int32 × AM) :=
  .inr (some (v4I, σ))
noncomputable def F_Pl_depthBy (rec : GT_Pl_depthBy_Pl_depthOf) : S_Pl_depthBy → S_Pl_depthBy ⊕ Option (Int32 × AM) := fun s => match s.1 with
  | 0 => T_Pl_depthBy_0 rec (s.2.1) (s.2.2.1) (s.2.2.2.1) (s.2.2.2.2.1) (s.2.2.2.2.2.1) (s.2.2.2.2.2.2)
  | _ => T_Pl_depthBy_1 rec (s.2.2.2.2.2.1) (s.2.2.2.2.2.2)
noncomputable def L_Pl_depthBy_0 (rec : GT_Pl_depthBy_Pl_depthOf) (v0R : Nat) (v1I : Int32) (v2I : Int32) (v3I : Int32) (v4I : Int32) (σ : AM) : Option (Int32 × AM) := lp (F_Pl_depthBy rec) (0, v0R, v1I, v2I, v3I, v4I, σ)
noncomputable def L_Pl_depthBy_1 (rec : GT_Pl_depthBy_Pl_depthOf) (v4I : Int32) (σ : AM) : Option (Int32 × AM) := lp (F_Pl_depthBy rec) (1, 0, 0, 0, 0, v4I, σ)
set_option maxRecDepth 20000 in
theorem E_Pl_depthBy_0 (rec : GT_Pl_depthBy_Pl_depthOf) (v0R : Nat) (v1I : Int32) (v2I : Int32) (v3I : Int32) (v4I : Int32) (σ : AM) : L_Pl_depthBy_0 rec v0R v1I v2I v3I v4I σ = (gd (okO σ v0R 7) <| gd (okO σ (aR σ v0R 4) 101) <| gd (inB v1I (aN σ (aR σ v0R 4))) <| letT (v2I &&& (aI σ (aR σ v0R 4) v1I.toNatClampNeg)) fun x4 => letT (v2I &&& ((aI σ (aR σ v0R 4) v1I.toNatClampNeg) ^^^ ((-1) : Int32))) fun x5 => if x4 = 0 then (L_Pl_depthBy_1 rec v4I σ) else (if x5 = 0 then (L_Pl_depthBy_1 rec v4I σ) else (bnd (rec.2 v0R x4 (v3I + (1 : Int32)) σ) fun r6 σ7 => letT ((1 : Int32) + r6) fun x8 => if x8 < v4I then (gd (okO σ7 v0R 7) <| bnd (rec.2 v0R x5 (v3I + (1 : Int32)) σ7) fun r9 σ10 => (some ((mxI x8 ((1 : Int32) + r9)), σ10))) else ((some (v4I, σ7)))))) := by
  unfold L_Pl_depthBy_0
  rw [lp_eq]
  show lpK (lp (F_Pl_depthBy rec)) (T_Pl_depthBy_0 rec v0R v1I v2I v3I v4I σ) = _
  unfold T_Pl_depthBy_0
  simp only [lpK_ite, lq_inl, lq_inr, lpK_bnd, lpK_gd, lq_let]
  try rfl
set_option maxRecDepth 20000 in
theorem E_Pl_depthBy_1 (rec : GT_Pl_depthBy_Pl_depthOf) (v4I : Int32) (σ : AM) : L_Pl_depthBy_1 rec v4I σ = ((some (v4I, σ))) := by
  unfold L_Pl_depthBy_1
  rw [lp_eq]
  show lpK (lp (F_Pl_depthBy rec)) (T_Pl_depthBy_1 rec v4I σ) = _
  unfold T_Pl_depthBy_1
  simp only [lpK_ite, lq_inl, lq_inr, lpK_bnd, lpK_gd, lq_let]
  try rfl
noncomputable def N_Pl_depthBy (rec : GT_Pl_depthBy_Pl_depthOf) (v0R : Nat) (v1I : Int32) (v2I : Int32) (v3I : Int32) (v4I : Int32) (σ : AM) : Option (Int32 × AM) := mw σ (L_Pl_depthBy_0 rec v0R v1I v2I v3I v4I σ)
def I_Pl_depthBy (G : GX) (p : Program) (l : Launch) (e : Env) (s : State) (m : MethodId) (args : Array Value) (below : List Frame) (meth : Method) (c : Code) (n0 : Nat) (rec : GT_Pl_depthBy_Pl_depthOf) (z0 u0 n : Nat) : Prop :=
  (∀ (v0R : Nat) (v1I : Int32) (v2I : Int32) (v3I : Int32) (v4I : Int32) (σ : AM), VX (QM eI G args s below z0 u0) G p l e s m args below meth c (1 + n0 + 1) z0 u0 8 (lpn (F_Pl_depthBy rec) n (0, v0R, v1I, v2I, v3I, v4I, σ)) 0 [(0, .ref v0R), (1, .int v1I), (2, .int v2I), (3, .int v3I), (4, .int v4I)] [] σ) ∧
  (∀ (v4I : Int32) (σ : AM), VX (QM eI G args s below z0 u0) G p l e s m args below meth c (1 + n0 + 1) z0 u0 8 (lpn (F_Pl_depthBy rec) n (1, 0, 0, 0, 0, v4I, σ)) 32 [(4, .int v4I)] [] σ)
set_option maxRecDepth 20000 in
theorem s_Pl_depthBy_0 {G : GX} {p : Program} {l : Launch} {e : Env} {s : State} {m : MethodId} {args : Array Value} {below : List Frame} {meth : Method} {c : Code} {z0 u0 n : Nat} (C : Cx G p s m args meth c prog_7_method_12_code 8 "BellPlate$Planner" ((some FieldType.int))) {n0 : Nat} {rec : GT_Pl_depthBy_Pl_depthOf} (HR : H_Pl_depthBy_Pl_depthOf G l n0 rec) (IH : I_Pl_depthBy G p l e s m args below meth c n0 rec z0 u0 n) (v0R : Nat) (v1I : Int32) (v2I : Int32) (v3I : Int32) (v4I : Int32) (σ : AM) : VX (QM eI G args s below z0 u0) G p l e s m args below meth c (1 + n0 + 1) z0 u0 8 (lpK (lpn (F_Pl_depthBy rec) n) (T_Pl_depthBy_0 rec v0R v1I v2I v3I v4I σ)) 0 [(0, .ref v0R), (1, .int v1I), (2, .int v2I), (3, .int v3I), (4, .int v4I)] [] σ := by
  unfold T_Pl_depthBy_0
  refine x_iload_n C d_Pl_depthBy_0 2 rfl ?_
  refine x_aload_n C d_Pl_depthBy_1 0 rfl ?_
  refine x_gd (fun h1 => ?_)
  refine x_gd (fun h2 => ?_)
  refine x_getR (k := 4) (kv := 101) C (okO_iff.mp h1) rfl j6_ok (by decide) rfl (okO_iff.mp h2) (by decide) w447 d_Pl_depthBy_2 ?_
  refine x_iload_n C d_Pl_depthBy_5 1 rfl ?_
  refine x_gd (fun h3 => ?_)
  refine x_aldI C (okO_iff.mp h2) (inB_iff.mp h3) d_Pl_depthBy_6 ?_
  refine x_iand C d_Pl_depthBy_7 ?_
  refine x_letI (fun x4 _ => ?_)
  refine x_istore (lv' := [(5, .int x4), (0, .ref v0R), (1, .int v1I), (2, .int v2I), (3, .int v3I), (4, .int v4I)]) C d_Pl_depthBy_8 (by decide) rfl ?_
  refine x_iload_n C d_Pl_depthBy_10 3 rfl ?_
  refine x_aload_n C d_Pl_depthBy_11 1 rfl ?_
  refine x_getR (k := 4) (kv := 101) C (okO_iff.mp h1) rfl j6_ok (by decide) rfl (okO_iff.mp h2) (by decide) w447 d_Pl_depthBy_12 ?_
  refine x_iload_n C d_Pl_depthBy_15 2 rfl ?_
  refine x_aldI C (okO_iff.mp h2) (inB_iff.mp h3) d_Pl_depthBy_16 ?_
  refine x_iconst (v := ((-1) : Int32)) C d_Pl_depthBy_17 (by decide) ?_
  refine x_ixor C d_Pl_depthBy_18 ?_
  refine x_iand C d_Pl_depthBy_19 ?_
  refine x_letI (fun x5 _ => ?_)
  refine x_istore (lv' := [(6, .int x5), (5, .int x4), (0, .ref v0R), (1, .int v1I), (2, .int v2I), (3, .int v3I), (4, .int v4I)]) C d_Pl_depthBy_20 (by decide) rfl ?_
  refine x_iload C d_Pl_depthBy_22 1 rfl ?_
  refine x_if_eq (tgt := 32) C d_Pl_depthBy_24 (by decide) (fun _ => ?_) (fun _ => ?_)
  · refine x_lv [6] rfl ?_
    exact IH.2 v4I (σ)
  · refine x_iload C d_Pl_depthBy_27 0 rfl ?_
    refine x_if_ne (tgt := 35) C d_Pl_depthBy_29 (by decide) (fun _ => ?_) (fun _ => ?_)
    · refine x_lv [6] rfl ?_
      exact IH.2 v4I (σ)
    · refine x_iconst (v := (1 : Int32)) C d_Pl_depthBy_35 (by decide) ?_
      refine x_aload_n C d_Pl_depthBy_36 2 rfl ?_
      refine x_iload C d_Pl_depthBy_37 1 rfl ?_
      refine x_iload_n C d_Pl_depthBy_39 5 rfl ?_
      refine x_iconst (v := (1 : Int32)) C d_Pl_depthBy_40 (by decide) ?_
      refine x_iadd C d_Pl_depthBy_41 ?_
      refine x_callVI (As := [.int x4, .int (v3I + (1 : Int32))]) C (HR.2 v0R x4 (v3I + (1 : Int32)) σ) (okO_iff.mp h1) rfl w1227 w31 w1225 w1228 w128 k_Pl_depthOf rfl (by omega) (by decide) rfl (Nat.le_of_ble_eq_true rfl) d_Pl_depthBy_42 (fun r6 σ7 => ?_)
      refine x_iadd C d_Pl_depthBy_45 ?_
      refine x_letI (fun x8 _ => ?_)
      refine x_istore (lv' := [(7, .int x8), (6, .int x5), (5, .int x4), (0, .ref v0R), (1, .int v1I), (2, .int v2I), (3, .int v3I), (4, .int v4I)]) C d_Pl_depthBy_46 (by decide) rfl ?_
      refine x_iload C d_Pl_depthBy_48 0 rfl ?_
      refine x_iload C d_Pl_depthBy_50 7 rfl ?_
      refine x_icmp_lt (tgt := 58) C d_Pl_depthBy_52 (by decide) (fun _ => ?_) (fun _ => ?_)
      · refine x_iload C d_Pl_depthBy_58 0 rfl ?_
        refine x_iconst (v := (1 : Int32)) C d_Pl_depthBy_60 (by decide) ?_
        refine x_aload_n C d_Pl_depthBy_61 3 rfl ?_
        refine x_iload C d_Pl_depthBy_62 1 rfl ?_
        refine x_iload_n C d_Pl_depthBy_64 6 rfl ?_
        refine x_iconst (v := (1 : Int32)) C d_Pl_depthBy_65 (by decide) ?_
        refine x_iadd C d_Pl_depthBy_66 ?_
        refine x_gd (fun h11 => ?_)
        refine x_callVI (As := [.int x5, .int (v3I + (1 : Int32))]) C (HR.2 v0R x5 (v3I + (1 : Int32)) σ7) (okO_iff.mp h11) rfl w1227 w31 w1225 w1228 w128 k_Pl_depthOf rfl (by omega) (by decide) rfl (Nat.le_of_ble_eq_true rfl) d_Pl_depthBy_67 (fun r9 σ10 => ?_)
        refine x_iadd C d_Pl_depthBy_70 ?_
        refine x_mmax C w1237 (by omega) (Nat.le_of_ble_eq_true rfl) d_Pl_depthBy_71 ?_
        exact x_iret C d_Pl_depthBy_74
      · refine x_iload C d_Pl_depthBy_55 7 rfl ?_
        exact x_iret C d_Pl_depthBy_57
set_option maxRecDepth 20000 in
theorem s_Pl_depthBy_1 {G : GX} {p : Program} {l : Launch} {e : Env} {s : State} {m : MethodId} {args : Array Value} {below : List Frame} {meth : Method} {c : Code} {z0 u0 n : Nat} (C : Cx G p s m args meth c prog_7_method_12_code 8 "BellPlate$Planner" ((some FieldType.int))) {n0 : Nat} {rec : GT_Pl_depthBy_Pl_depthOf} (HR : H_Pl_depthBy_Pl_depthOf G l n0 rec) (IH : I_Pl_depthBy G p l e s m args below meth c n0 rec z0 u0 n) (v4I : Int32) (σ : AM) : VX (QM eI G args s below z0 u0) G p l e s m args below meth c (1 + n0 + 1) z0 u0 8 (lpK (lpn (F_Pl_depthBy rec) n) (T_Pl_depthBy_1 rec v4I σ)) 32 [(4, .int v4I)] [] σ := by
  unfold T_Pl_depthBy_1
  refine x_iload C d_Pl_depthBy_32 0 rfl ?_
  exact x_iret C d_Pl_depthBy_34
theorem i_Pl_depthBy {G : GX} {p : Program} {l : Launch} {e : Env} {s : State} {m : MethodId} {args : Array Value} {below : List Frame} {meth : Method} {c : Code} {z0 u0 : Nat} (C : Cx G p s m args meth c prog_7_method_12_code 8 "BellPlate$Planner" ((some FieldType.int))) {n0 : Nat} {rec : GT_Pl_depthBy_Pl_depthOf} (HR : H_Pl_depthBy_Pl_depthOf G l n0 rec) (n : Nat) : I_Pl_depthBy G p l e s m args below meth c n0 rec z0 u0 n := by
  induction n with
  | zero => exact ⟨fun _ _ _ _ _ _ => x_none, fun _ _ => x_none⟩
  | succ n IH => exact ⟨fun v0R v1I v2I v3I v4I σ => s_Pl_depthBy_0 C HR IH v0R v1I v2I v3I v4I σ, fun v4I σ => s_Pl_depthBy_1 C HR IH v4I σ⟩
theorem n_Pl_depthBy (G : GX) (l : Launch) (n0 : Nat) (rec : GT_Pl_depthBy_Pl_depthOf) (HR : H_Pl_depthBy_Pl_depthOf G l n0 rec) (v0R : Nat) (v1I : Int32) (v2I : Int32) (v3I : Int32) (v4I : Int32) (σ : AM) : CT eI G l (1 + (n0 + 1)) y_Pl_depthBy prog_7_method_12_code 8 ((some FieldType.int)) [.ref v0R, .int v1I, .int v2I, .int v3I, .int v4I] σ (N_Pl_depthBy rec v0R v1I v2I v3I v4I σ) := by
  refine ct_of (by decide +kernel) (Nat.le_of_ble_eq_true rfl) (fun p e s m args below meth c C hin => ?_)
  refine x_lve (lv' := [(0, .ref v0R), (1, .int v1I), (2, .int v2I), (3, .int v3I), (4, .int v4I)]) rfl ?_
  intro r σ' h
  obtain ⟨n, hn⟩ := (lp_iff _ _ _).mp h
  exact (i_Pl_depthBy C HR n).1 v0R v1I v2I v3I v4I σ r σ' hn
abbrev S_Pl_depthOf : Type := Nat × Nat × Int32 × Int32 × Int32 × Int32 × AM
noncomputable def T_Pl_depthOf_0 (rec : GT_Pl_depthBy_Pl_depthOf) (v0R : Nat) (v1I : Int32) (v2I : Int32) (σ : AM) : S_Pl_depthOf ⊕ Option (Int32 × AM) :=
  if v1I = 0 then (.inl (1, 0, 0, 0, 0, 0, σ)) else (if (12 : Int32) < v2I then (.inl (1, 0, 0, 0, 0, 0, σ)) else (gdT (okO σ v0R 7) <| gdT (okO σ (aR σ v0R 6) 105) <| gdT (inB v1I (aN σ (aR σ v0R 6))) <| if (aI σ (aR σ v0R 6) v1I.toNatClampNeg) < 0 then (bndT (M_Pl_isAlike v0R v1I σ) fun r4 σ5 => if r4 = 0 then (.inl (2, v0R, v1I, v2I, (12 : Int32), (0 : Int32), σ5)) else (.inl (3, v0R, v1I, 0, (0 : Int32), 0, σ5))) else (.inr (some ((aI σ (aR σ v0R 6) v1I.toNatClampNeg), σ)))))
noncomputable def T_Pl_depthOf_1 (rec : GT_Pl_depthBy_Pl_depthOf)  (σ : AM) : S_Pl_depthOf ⊕ Option (Int32 × AM) :=
  .inr (some ((0 : Int32), σ))
noncomputable def T_Pl_depthOf_2 (rec : GT_Pl_depthBy_Pl_depthOf) (v0R : Nat) (v1I : Int32) (v2I : Int32) (v3I : Int32) (v4I : Int32) (σ : AM) : S_Pl_depthOf ⊕ Option (Int32 × AM) :=
  gdT (okO σ v0R 7) <| if v4I < (aI σ v0R 7) then (if (1 : Int32) < v3I then (bndT (rec.1 v0R v4I v1I v2I v3I σ) fun r2 σ3 => letT (mnI v3I r2) fun x4 => .inl (2, v0R, v1I, v2I, x4, v4I + (1 : Int32), σ3)) else (.inl (3, v0R, v1I, 0, v3I, 0, σ))) else (.inl (3, v0R, v1I, 0, v3I, 0, σ))
noncomputable def T_Pl_depthOf_3 (rec : GT_Pl_depthBy_Pl_depthOf) (v0R : Nat) (v1I : Int32) (v3I : Int32) (σ : AM) : S_Pl_depthOf ⊕ Option (Int32 × AM) :=
  gdT (okO σ v0R 7) <| gdT (okO σ (aR σ v0R 6) 105) <| gdT (inB v1I (aN σ (aR σ v0R 6))) <| letT (sI σ (aR σ v0R 6) v1I.toNatClampNeg (vp_nar .byte (v3I.toInt8.toInt32))) fun σ4 => .inr (some (v3I, σ4))
noncomputable def F_Pl_depthOf (rec : GT_Pl_depthBy_Pl_depthOf) : S_Pl_depthOf → S_Pl_depthOf ⊕ Option (Int32 × AM) := fun s => match s.1 with
  | 0 => T_Pl_depthOf_0 rec (s.2.1) (s.2.2.1) (s.2.2.2.1) (s.2.2.2.2.2.2)
  | 1 => T_Pl_depthOf_1 rec  (s.2.2.2.2.2.2)
  | 2 => T_Pl_depthOf_2 rec (s.2.1) (s.2.2.1) (s.2.2.2.1) (s.2.2.2.2.1) (s.2.2.2.2.2.1) (s.2.2.2.2.2.2)
  | _ => T_Pl_depthOf_3 rec (s.2.1) (s.2.2.1) (s.2.2.2.2.1) (s.2.2.2.2.2.2)
noncomputable def L_Pl_depthOf_0 (rec : GT_Pl_depthBy_Pl_depthOf) (v0R : Nat) (v1I : Int32) (v2I : Int32) (σ : AM) : Option (Int32 × AM) := lp (F_Pl_depthOf rec) (0, v0R, v1I, v2I, 0, 0, σ)
noncomputable def L_Pl_depthOf_1 (rec : GT_Pl_depthBy_Pl_depthOf)  (σ : AM) : Option (Int32 × AM) := lp (F_Pl_depthOf rec) (1, 0, 0, 0, 0, 0, σ)
noncomputable def L_Pl_depthOf_2 (rec : GT_Pl_depthBy_Pl_depthOf) (v0R : Nat) (v1I : Int32) (v2I : Int32) (v3I : Int32) (v4I : Int32) (σ : AM) : Option (Int32 × AM) := lp (F_Pl_depthOf rec) (2, v0R, v1I, v2I, v3I, v4I, σ)
noncomputable def L_Pl_depthOf_3 (rec : GT_Pl_depthBy_Pl_depthOf) (v0R : Nat) (v1I : Int32) (v3I : Int32) (σ : AM) : Option (Int32 × AM) := lp (F_Pl_depthOf rec) (3, v0R, v1I, 0, v3I, 0, σ)
set_option maxRecDepth 20000 in
theorem E_Pl_depthOf_0 (rec : GT_Pl_depthBy_Pl_depthOf) (v0R : Nat) (v1I : Int32) (v2I : Int32) (σ : AM) : L_Pl_depthOf_0 rec v0R v1I v2I σ = (if v1I = 0 then (L_Pl_depthOf_1 rec σ) else (if (12 : Int32) < v2I then (L_Pl_depthOf_1 rec σ) else (gd (okO σ v0R 7) <| gd (okO σ (aR σ v0R 6) 105) <| gd (inB v1I (aN σ (aR σ v0R 6))) <| if (aI σ (aR σ v0R 6) v1I.toNatClampNeg) < 0 then (bnd (M_Pl_isAlike v0R v1I σ) fun r4 σ5 => if r4 = 0 then (L_Pl_depthOf_2 rec v0R v1I v2I ((12 : Int32)) ((0 : Int32)) σ5) else (L_Pl_depthOf_3 rec v0R v1I ((0 : Int32)) σ5)) else ((some ((aI σ (aR σ v0R 6) v1I.toNatClampNeg), σ)))))) := by
  unfold L_Pl_depthOf_0
  rw [lp_eq]
  show lpK (lp (F_Pl_depthOf rec)) (T_Pl_depthOf_0 rec v0R v1I v2I σ) = _
  unfold T_Pl_depthOf_0
  simp only [lpK_ite, lq_inl, lq_inr, lpK_bnd, lpK_gd, lq_let]
  try rfl
set_option maxRecDepth 20000 in
theorem E_Pl_depthOf_1 (rec : GT_Pl_depthBy_Pl_depthOf)  (σ : AM) : L_Pl_depthOf_1 rec  σ = ((some ((0 : Int32), σ))) := by
  unfold L_Pl_depthOf_1
  rw [lp_eq]
  show lpK (lp (F_Pl_depthOf rec)) (T_Pl_depthOf_1 rec  σ) = _
  unfold T_Pl_depthOf_1
  simp only [lpK_ite, lq_inl, lq_inr, lpK_bnd, lpK_gd, lq_let]
  try rfl
set_option maxRecDepth 20000 in
theorem E_Pl_depthOf_2 (rec : GT_Pl_depthBy_Pl_depthOf) (v0R : Nat) (v1I : Int32) (v2I : Int32) (v3I : Int32) (v4I : Int32) (σ : AM) : L_Pl_depthOf_2 rec v0R v1I v2I v3I v4I σ = (gd (okO σ v0R 7) <| if v4I < (aI σ v0R 7) then (if (1 : Int32) < v3I then (bnd (rec.1 v0R v4I v1I v2I v3I σ) fun r2 σ3 => letT (mnI v3I r2) fun x4 => L_Pl_depthOf_2 rec v0R v1I v2I x4 (v4I + (1 : Int32)) σ3) else (L_Pl_depthOf_3 rec v0R v1I v3I σ)) else (L_Pl_depthOf_3 rec v0R v1I v3I σ)) := by
  unfold L_Pl_depthOf_2
  rw [lp_eq]
  show lpK (lp (F_Pl_depthOf rec)) (T_Pl_depthOf_2 rec v0R v1I v2I v3I v4I σ) = _
  unfold T_Pl_depthOf_2
  simp only [lpK_ite, lq_inl, lq_inr, lpK_bnd, lpK_gd, lq_let]
  try rfl
set_option maxRecDepth 20000 in
theorem E_Pl_depthOf_3 (rec : GT_Pl_depthBy_Pl_depthOf) (v0R : Nat) (v1I : Int32) (v3I : Int32) (σ : AM) : L_Pl_depthOf_3 rec v0R v1I v3I σ = (gd (okO σ v0R 7) <| gd (okO σ (aR σ v0R 6) 105) <| gd (inB v1I (aN σ (aR σ v0R 6))) <| letT (sI σ (aR σ v0R 6) v1I.toNatClampNeg (vp_nar .byte (v3I.toInt8.toInt32))) fun σ4 => (some (v3I, σ4))) := by
  unfold L_Pl_depthOf_3
  rw [lp_eq]
  show lpK (lp (F_Pl_depthOf rec)) (T_Pl_depthOf_3 rec v0R v1I v3I σ) = _
  unfold T_Pl_depthOf_3
  simp only [lpK_ite, lq_inl, lq_inr, lpK_bnd, lpK_gd, lq_let]
  try rfl
noncomputable def N_Pl_depthOf (rec : GT_Pl_depthBy_Pl_depthOf) (v0R : Nat) (v1I : Int32) (v2I : Int32) (σ : AM) : Option (Int32 × AM) := mw σ (L_Pl_depthOf_0 rec v0R v1I v2I σ)
def I_Pl_depthOf (G : GX) (p : Program) (l : Launch) (e : Env) (s : State) (m : MethodId) (args : Array Value) (below : List Frame) (meth : Method) (c : Code) (n0 : Nat) (rec : GT_Pl_depthBy_Pl_depthOf) (z0 u0 n : Nat) : Prop :=
  (∀ (v0R : Nat) (v1I : Int32) (v2I : Int32) (σ : AM), VX (QM eI G args s below z0 u0) G p l e s m args below meth c (1 + n0 + 1) z0 u0 5 (lpn (F_Pl_depthOf rec) n (0, v0R, v1I, v2I, 0, 0, σ)) 0 [(0, .ref v0R), (1, .int v1I), (2, .int v2I)] [] σ) ∧
  (∀ (σ : AM), VX (QM eI G args s below z0 u0) G p l e s m args below meth c (1 + n0 + 1) z0 u0 5 (lpn (F_Pl_depthOf rec) n (1, 0, 0, 0, 0, 0, σ)) 10 [] [] σ) ∧
  (∀ (v0R : Nat) (v1I : Int32) (v2I : Int32) (v3I : Int32) (v4I : Int32) (σ : AM), VX (QM eI G args s below z0 u0) G p l e s m args below meth c (1 + n0 + 1) z0 u0 5 (lpn (F_Pl_depthOf rec) n (2, v0R, v1I, v2I, v3I, v4I, σ)) 44 [(0, .ref v0R), (1, .int v1I), (2, .int v2I), (3, .int v3I), (4, .int v4I)] [] σ) ∧
  (∀ (v0R : Nat) (v1I : Int32) (v3I : Int32) (σ : AM), VX (QM eI G args s below z0 u0) G p l e s m args below meth c (1 + n0 + 1) z0 u0 5 (lpn (F_Pl_depthOf rec) n (3, v0R, v1I, 0, v3I, 0, σ)) 78 [(0, .ref v0R), (1, .int v1I), (3, .int v3I)] [] σ)
set_option maxRecDepth 20000 in
theorem s_Pl_depthOf_0 {G : GX} {p : Program} {l : Launch} {e : Env} {s : State} {m : MethodId} {args : Array Value} {below : List Frame} {meth : Method} {c : Code} {z0 u0 n : Nat} (C : Cx G p s m args meth c prog_7_method_10_code 5 "BellPlate$Planner" ((some FieldType.int))) {n0 : Nat} {rec : GT_Pl_depthBy_Pl_depthOf} (HR : H_Pl_depthBy_Pl_depthOf G l n0 rec) (IH : I_Pl_depthOf G p l e s m args below meth c n0 rec z0 u0 n) (v0R : Nat) (v1I : Int32) (v2I : Int32) (σ : AM) : VX (QM eI G args s below z0 u0) G p l e s m args below meth c (1 + n0 + 1) z0 u0 5 (lpK (lpn (F_Pl_depthOf rec) n) (T_Pl_depthOf_0 rec v0R v1I v2I σ)) 0 [(0, .ref v0R), (1, .int v1I), (2, .int v2I)] [] σ := by
  unfold T_Pl_depthOf_0
  refine x_iload_n C d_Pl_depthOf_0 1 rfl ?_
  refine x_if_eq (tgt := 10) C d_Pl_depthOf_1 (by decide) (fun _ => ?_) (fun _ => ?_)
  · refine x_lv [] rfl ?_
    exact IH.2.1  (σ)
  · refine x_iload_n C d_Pl_depthOf_4 2 rfl ?_
    refine x_bipush (v := (12 : Int32)) C d_Pl_depthOf_5 (by decide) ?_
    refine x_icmp_le (tgt := 12) C d_Pl_depthOf_7 (by decide) (fun _ => ?_) (fun _ => ?_)
    · refine x_lv [] rfl ?_
      exact IH.2.1  (σ)
    · refine x_aload_n C d_Pl_depthOf_12 0 rfl ?_
      refine x_gd (fun h1 => ?_)
      refine x_gd (fun h2 => ?_)
      refine x_getR (k := 6) (kv := 105) C (okO_iff.mp h1) rfl j6_ok (by decide) rfl (okO_iff.mp h2) (by decide) w449 d_Pl_depthOf_13 ?_
      refine x_iload_n C d_Pl_depthOf_16 1 rfl ?_
      refine x_gd (fun h3 => ?_)
      refine x_aldB C (okO_iff.mp h2) (inB_iff.mp h3) d_Pl_depthOf_17 ?_
      refine x_if_lt (tgt := 28) C d_Pl_depthOf_18 (by decide) (fun _ => ?_) (fun _ => ?_)
      · refine x_iconst (v := (0 : Int32)) C d_Pl_depthOf_28 (by decide) ?_
        refine x_istore_n (lv' := [(3, .int (0 : Int32)), (0, .ref v0R), (1, .int v1I), (2, .int v2I)]) C d_Pl_depthOf_29 (by decide) rfl rfl ?_
        refine x_aload_n C d_Pl_depthOf_30 1 rfl ?_
        refine x_iload_n C d_Pl_depthOf_31 2 rfl ?_
        refine x_callVI (As := [.int v1I]) C (c_Pl_isAlike G l v0R v1I σ) (okO_iff.mp h1) rfl w1231 w32 w1229 w1232 w128 k_Pl_isAlike rfl (by omega) (by decide) rfl (Nat.le_of_ble_eq_true rfl) d_Pl_depthOf_32 (fun r4 σ5 => ?_)
        refine x_if_ne (tgt := 78) C d_Pl_depthOf_35 (by decide) (fun _ => ?_) (fun _ => ?_)
        · refine x_bipush (v := (12 : Int32)) C d_Pl_depthOf_38 (by decide) ?_
          refine x_istore_n (lv' := [(3, .int (12 : Int32)), (0, .ref v0R), (1, .int v1I), (2, .int v2I)]) C d_Pl_depthOf_40 (by decide) rfl rfl ?_
          refine x_iconst (v := (0 : Int32)) C d_Pl_depthOf_41 (by decide) ?_
          refine x_istore (lv' := [(4, .int (0 : Int32)), (3, .int (12 : Int32)), (0, .ref v0R), (1, .int v1I), (2, .int v2I)]) C d_Pl_depthOf_42 (by decide) rfl ?_
          refine x_lv [2, 3, 4, 1, 0] rfl ?_
          exact IH.2.2.1 v0R v1I v2I ((12 : Int32)) ((0 : Int32)) (σ5)
        · refine x_lv [1, 2, 0] rfl ?_
          exact IH.2.2.2 v0R v1I ((0 : Int32)) (σ5)
      · refine x_aload_n C d_Pl_depthOf_21 0 rfl ?_
        refine x_getR (k := 6) (kv := 105) C (okO_iff.mp h1) rfl j6_ok (by decide) rfl (okO_iff.mp h2) (by decide) w449 d_Pl_depthOf_22 ?_
        refine x_iload_n C d_Pl_depthOf_25 1 rfl ?_
        refine x_aldB C (okO_iff.mp h2) (inB_iff.mp h3) d_Pl_depthOf_26 ?_
        exact x_iret C d_Pl_depthOf_27
set_option maxRecDepth 20000 in
theorem s_Pl_depthOf_1 {G : GX} {p : Program} {l : Launch} {e : Env} {s : State} {m : MethodId} {args : Array Value} {below : List Frame} {meth : Method} {c : Code} {z0 u0 n : Nat} (C : Cx G p s m args meth c prog_7_method_10_code 5 "BellPlate$Planner" ((some FieldType.int))) {n0 : Nat} {rec : GT_Pl_depthBy_Pl_depthOf} (HR : H_Pl_depthBy_Pl_depthOf G l n0 rec) (IH : I_Pl_depthOf G p l e s m args below meth c n0 rec z0 u0 n)  (σ : AM) : VX (QM eI G args s below z0 u0) G p l e s m args below meth c (1 + n0 + 1) z0 u0 5 (lpK (lpn (F_Pl_depthOf rec) n) (T_Pl_depthOf_1 rec  σ)) 10 [] [] σ := by
  unfold T_Pl_depthOf_1
  refine x_iconst (v := (0 : Int32)) C d_Pl_depthOf_10 (by decide) ?_
  exact x_iret C d_Pl_depthOf_11
set_option maxRecDepth 20000 in
theorem s_Pl_depthOf_2 {G : GX} {p : Program} {l : Launch} {e : Env} {s : State} {m : MethodId} {args : Array Value} {below : List Frame} {meth : Method} {c : Code} {z0 u0 n : Nat} (C : Cx G p s m args meth c prog_7_method_10_code 5 "BellPlate$Planner" ((some FieldType.int))) {n0 : Nat} {rec : GT_Pl_depthBy_Pl_depthOf} (HR : H_Pl_depthBy_Pl_depthOf G l n0 rec) (IH : I_Pl_depthOf G p l e s m args below meth c n0 rec z0 u0 n) (v0R : Nat) (v1I : Int32) (v2I : Int32) (v3I : Int32) (v4I : Int32) (σ : AM) : VX (QM eI G args s below z0 u0) G p l e s m args below meth c (1 + n0 + 1) z0 u0 5 (lpK (lpn (F_Pl_depthOf rec) n) (T_Pl_depthOf_2 rec v0R v1I v2I v3I v4I σ)) 44 [(0, .ref v0R), (1, .int v1I), (2, .int v2I), (3, .int v3I), (4, .int v4I)] [] σ := by
  unfold T_Pl_depthOf_2
  refine x_iload C d_Pl_depthOf_44 4 rfl ?_
  refine x_aload_n C d_Pl_depthOf_46 0 rfl ?_
  refine x_gd (fun h1 => ?_)
  refine x_getI (k := 7) C (okO_iff.mp h1) rfl j6_ok (by decide) rfl w450 d_Pl_depthOf_47 ?_
  refine x_icmp_ge (tgt := 78) C d_Pl_depthOf_50 (by decide) (fun _ => ?_) (fun _ => ?_)
  · refine x_iload_n C d_Pl_depthOf_53 3 rfl ?_
    refine x_iconst (v := (1 : Int32)) C d_Pl_depthOf_54 (by decide) ?_
    refine x_icmp_le (tgt := 78) C d_Pl_depthOf_55 (by decide) (fun _ => ?_) (fun _ => ?_)
    · refine x_iload_n C d_Pl_depthOf_58 3 rfl ?_
      refine x_aload_n C d_Pl_depthOf_59 0 rfl ?_
      refine x_iload C d_Pl_depthOf_60 4 rfl ?_
      refine x_iload_n C d_Pl_depthOf_62 1 rfl ?_
      refine x_iload_n C d_Pl_depthOf_63 2 rfl ?_
      refine x_iload_n C d_Pl_depthOf_64 3 rfl ?_
      refine x_callVI (As := [.int v4I, .int v1I, .int v2I, .int v3I]) C (HR.1 v0R v4I v1I v2I v3I σ) (okO_iff.mp h1) rfl w1235 w33 w1233 w1236 w128 k_Pl_depthBy rfl (by omega) (by decide) rfl (Nat.le_of_ble_eq_true rfl) d_Pl_depthOf_65 (fun r2 σ3 => ?_)
      refine x_mmin C w1206 (by omega) (Nat.le_of_ble_eq_true rfl) d_Pl_depthOf_68 ?_
      refine x_letI (fun x4 _ => ?_)
      refine x_istore_n (lv' := [(3, .int x4), (0, .ref v0R), (1, .int v1I), (2, .int v2I), (4, .int v4I)]) C d_Pl_depthOf_71 (by decide) rfl rfl ?_
      refine x_iinc (v := v4I + (1 : Int32)) (lv' := [(4, .int (v4I + (1 : Int32))), (3, .int x4), (0, .ref v0R), (1, .int v1I), (2, .int v2I)]) C d_Pl_depthOf_72 4 rfl rfl (by decide) rfl ?_
      refine x_goto (tgt := 44) C d_Pl_depthOf_75 (by decide) ?_
      refine x_lv [2, 3, 4, 1, 0] rfl ?_
      exact IH.2.2.1 v0R v1I v2I x4 (v4I + (1 : Int32)) (σ3)
    · refine x_lv [0, 1, 3] rfl ?_
      exact IH.2.2.2 v0R v1I v3I (σ)
  · refine x_lv [0, 1, 3] rfl ?_
    exact IH.2.2.2 v0R v1I v3I (σ)
set_option maxRecDepth 20000 in
theorem s_Pl_depthOf_3 {G : GX} {p : Program} {l : Launch} {e : Env} {s : State} {m : MethodId} {args : Array Value} {below : List Frame} {meth : Method} {c : Code} {z0 u0 n : Nat} (C : Cx G p s m args meth c prog_7_method_10_code 5 "BellPlate$Planner" ((some FieldType.int))) {n0 : Nat} {rec : GT_Pl_depthBy_Pl_depthOf} (HR : H_Pl_depthBy_Pl_depthOf G l n0 rec) (IH : I_Pl_depthOf G p l e s m args below meth c n0 rec z0 u0 n) (v0R : Nat) (v1I : Int32) (v3I : Int32) (σ : AM) : VX (QM eI G args s below z0 u0) G p l e s m args below meth c (1 + n0 + 1) z0 u0 5 (lpK (lpn (F_Pl_depthOf rec) n) (T_Pl_depthOf_3 rec v0R v1I v3I σ)) 78 [(0, .ref v0R), (1, .int v1I), (3, .int v3I)] [] σ := by
  unfold T_Pl_depthOf_3
  refine x_aload_n C d_Pl_depthOf_78 0 rfl ?_
  refine x_gd (fun h1 => ?_)
  refine x_gd (fun h2 => ?_)
  refine x_getR (k := 6) (kv := 105) C (okO_iff.mp h1) rfl j6_ok (by decide) rfl (okO_iff.mp h2) (by decide) w449 d_Pl_depthOf_79 ?_
  refine x_iload_n C d_Pl_depthOf_82 1 rfl ?_
  refine x_iload_n C d_Pl_depthOf_83 2 rfl ?_
  refine x_i2b C d_Pl_depthOf_84 ?_
  refine x_gd (fun h3 => ?_)
  refine x_astB C (okO_iff.mp h2) (inB_iff.mp h3) d_Pl_depthOf_85 ?_
  refine x_letS (fun σ4 e5 => ?_)
  refine x_iload_n C d_Pl_depthOf_86 2 rfl ?_
  exact x_iret C d_Pl_depthOf_87
theorem i_Pl_depthOf {G : GX} {p : Program} {l : Launch} {e : Env} {s : State} {m : MethodId} {args : Array Value} {below : List Frame} {meth : Method} {c : Code} {z0 u0 : Nat} (C : Cx G p s m args meth c prog_7_method_10_code 5 "BellPlate$Planner" ((some FieldType.int))) {n0 : Nat} {rec : GT_Pl_depthBy_Pl_depthOf} (HR : H_Pl_depthBy_Pl_depthOf G l n0 rec) (n : Nat) : I_Pl_depthOf G p l e s m args below meth c n0 rec z0 u0 n := by
  induction n with
  | zero => exact ⟨fun _ _ _ _ => x_none, fun _ => x_none, fun _ _ _ _ _ _ => x_none, fun _ _ _ _ => x_none⟩
  | succ n IH => exact ⟨fun v0R v1I v2I σ => s_Pl_depthOf_0 C HR IH v0R v1I v2I σ, fun σ => s_Pl_depthOf_1 C HR IH σ, fun v0R v1I v2I v3I v4I σ => s_Pl_depthOf_2 C HR IH v0R v1I v2I v3I v4I σ, fun v0R v1I v3I σ => s_Pl_depthOf_3 C HR IH v0R v1I v3I σ⟩
theorem n_Pl_depthOf (G : GX) (l : Launch) (n0 : Nat) (rec : GT_Pl_depthBy_Pl_depthOf) (HR : H_Pl_depthBy_Pl_depthOf G l n0 rec) (v0R : Nat) (v1I : Int32) (v2I : Int32) (σ : AM) : CT eI G l (1 + (n0 + 1)) y_Pl_depthOf prog_7_method_10_code 5 ((some FieldType.int)) [.ref v0R, .int v1I, .int v2I] σ (N_Pl_depthOf rec v0R v1I v2I σ) := by
  refine ct_of (by decide +kernel) (Nat.le_of_ble_eq_true rfl) (fun p e s m args below meth c C hin => ?_)
  refine x_lve (lv' := [(0, .ref v0R), (1, .int v1I), (2, .int v2I)]) rfl ?_
  intro r σ' h
  obtain ⟨n, hn⟩ := (lp_iff _ _ _).mp h
  exact (i_Pl_depthOf C HR n).1 v0R v1I v2I σ r σ' hn
noncomputable def Q_Pl_depthBy_Pl_depthOf : Nat → GT_Pl_depthBy_Pl_depthOf
  | 0 => (fun _ _ _ _ _ _ => none, fun _ _ _ _ => none)
  | n + 1 => (fun v0R v1I v2I v3I v4I σ => N_Pl_depthBy (Q_Pl_depthBy_Pl_depthOf n) v0R v1I v2I v3I v4I σ, fun v0R v1I v2I σ => N_Pl_depthOf (Q_Pl_depthBy_Pl_depthOf n) v0R v1I v2I σ)
theorem q_Pl_depthBy_Pl_depthOf (G : GX) (l : Launch) (n : Nat) : H_Pl_depthBy_Pl_depthOf G l n (Q_Pl_depthBy_Pl_depthOf n) := by
  induction n with
  | zero => exact ⟨fun _ _ _ _ _ _ r σ' h => absurd (show none = some (r, σ') from h) (fun q => by cases q), fun _ _ _ _ r σ' h => absurd (show none = some (r, σ') from h) (fun q => by cases q)⟩
  | succ n ih => exact ⟨fun v0R v1I v2I v3I v4I σ => n_Pl_depthBy G l n (Q_Pl_depthBy_Pl_depthOf n) ih v0R v1I v2I v3I v4I σ, fun v0R v1I v2I σ => n_Pl_depthOf G l n (Q_Pl_depthBy_Pl_depthOf n) ih v0R v1I v2I σ⟩
noncomputable def M_Pl_depthBy (v0R : Nat) (v1I : Int32) (v2I : Int32) (v3I : Int32) (v4I : Int32) (σ : AM) : Option (Int32 × AM) := (Q_Pl_depthBy_Pl_depthOf 80).1 v0R v1I v2I v3I v4I σ
theorem c_Pl_depthBy (G : GX) (l : Launch) (v0R : Nat) (v1I : Int32) (v2I : Int32) (v3I : Int32) (v4I : Int32) (σ : AM) : CT eI G l 81 y_Pl_depthBy prog_7_method_12_code 8 ((some FieldType.int)) [.ref v0R, .int v1I, .int v2I, .int v3I, .int v4I] σ (M_Pl_depthBy v0R v1I v2I v3I v4I σ) := (q_Pl_depthBy_Pl_depthOf G l 80).1 v0R v1I v2I v3I v4I σ
noncomputable def M_Pl_depthOf (v0R : Nat) (v1I : Int32) (v2I : Int32) (σ : AM) : Option (Int32 × AM) := (Q_Pl_depthBy_Pl_depthOf 80).2 v0R v1I v2I σ
theorem c_Pl_depthOf (G : GX) (l : Launch) (v0R : Nat) (v1I : Int32) (v2I : Int32) (σ : AM) : CT eI G l 81 y_Pl_depthOf prog_7_method_10_code 5 ((some FieldType.int)) [.ref v0R, .int v1I, .int v2I] σ (M_Pl_depthOf v0R v1I v2I σ) := (q_Pl_depthBy_Pl_depthOf G l 80).2 v0R v1I v2I σ

/-! BellPlate$Planner.plan(II)V -/
abbrev y_Pl_plan : MethodName := ⟨"BellPlate$Planner", "plan", "(II)V"⟩
theorem k_Pl_plan : y_Pl_plan.cls ≠ "java/lang/invoke/MethodHandle" ∧ y_Pl_plan.cls ≠ "java/lang/invoke/VarHandle" ∧ (parseMethodDescriptor y_Pl_plan.desc).map (fun d => d.parameters.length) = some 2 := by decide +kernel
theorem d_Pl_plan_0 : decode prog_7_method_6_code 0 = .ok (.aload_n 0, 1) := by decide +kernel
theorem d_Pl_plan_1 : decode prog_7_method_6_code 1 = .ok (.getfield 15, 3) := by decide +kernel
theorem d_Pl_plan_4 : decode prog_7_method_6_code 4 = .ok (.invokevirtual 58, 3) := by decide +kernel
theorem d_Pl_plan_7 : decode prog_7_method_6_code 7 = .ok (.bipush 12, 2) := by decide +kernel
theorem d_Pl_plan_9 : decode prog_7_method_6_code 9 = .ok (.invokestatic 79, 3) := by decide +kernel
theorem d_Pl_plan_12 : decode prog_7_method_6_code 12 = .ok (.istore_n 3, 1) := by decide +kernel
theorem d_Pl_plan_13 : decode prog_7_method_6_code 13 = .ok (.iconst 1, 1) := by decide +kernel
theorem d_Pl_plan_14 : decode prog_7_method_6_code 14 = .ok (.iload_n 3, 1) := by decide +kernel
theorem d_Pl_plan_15 : decode prog_7_method_6_code 15 = .ok (.ishl, 1) := by decide +kernel
theorem d_Pl_plan_16 : decode prog_7_method_6_code 16 = .ok (.iconst 1, 1) := by decide +kernel
theorem d_Pl_plan_17 : decode prog_7_method_6_code 17 = .ok (.isub, 1) := by decide +kernel
theorem d_Pl_plan_18 : decode prog_7_method_6_code 18 = .ok (.istore 4, 2) := by decide +kernel
theorem d_Pl_plan_20 : decode prog_7_method_6_code 20 = .ok (.aload_n 0, 1) := by decide +kernel
theorem d_Pl_plan_21 : decode prog_7_method_6_code 21 = .ok (.iload_n 1, 1) := by decide +kernel
theorem d_Pl_plan_22 : decode prog_7_method_6_code 22 = .ok (.iload_n 2, 1) := by decide +kernel
theorem d_Pl_plan_23 : decode prog_7_method_6_code 23 = .ok (.iload_n 3, 1) := by decide +kernel
theorem d_Pl_plan_24 : decode prog_7_method_6_code 24 = .ok (.invokevirtual 85, 3) := by decide +kernel
theorem d_Pl_plan_27 : decode prog_7_method_6_code 27 = .ok (.aload_n 0, 1) := by decide +kernel
theorem d_Pl_plan_28 : decode prog_7_method_6_code 28 = .ok (.iload_n 3, 1) := by decide +kernel
theorem d_Pl_plan_29 : decode prog_7_method_6_code 29 = .ok (.invokevirtual 89, 3) := by decide +kernel
theorem d_Pl_plan_32 : decode prog_7_method_6_code 32 = .ok (.aload_n 0, 1) := by decide +kernel
theorem d_Pl_plan_33 : decode prog_7_method_6_code 33 = .ok (.getfield 34, 3) := by decide +kernel
theorem d_Pl_plan_36 : decode prog_7_method_6_code 36 = .ok (.iconst 0, 1) := by decide +kernel
theorem d_Pl_plan_37 : decode prog_7_method_6_code 37 = .ok (.iconst 1, 1) := by decide +kernel
theorem d_Pl_plan_38 : decode prog_7_method_6_code 38 = .ok (.iload_n 3, 1) := by decide +kernel
theorem d_Pl_plan_39 : decode prog_7_method_6_code 39 = .ok (.ishl, 1) := by decide +kernel
theorem d_Pl_plan_40 : decode prog_7_method_6_code 40 = .ok (.iconst (-1), 1) := by decide +kernel
theorem d_Pl_plan_41 : decode prog_7_method_6_code 41 = .ok (.invokestatic 93, 3) := by decide +kernel
theorem d_Pl_plan_44 : decode prog_7_method_6_code 44 = .ok (.aload_n 0, 1) := by decide +kernel
theorem d_Pl_plan_45 : decode prog_7_method_6_code 45 = .ok (.aload_n 0, 1) := by decide +kernel
theorem d_Pl_plan_46 : decode prog_7_method_6_code 46 = .ok (.iload 4, 2) := by decide +kernel
theorem d_Pl_plan_48 : decode prog_7_method_6_code 48 = .ok (.iconst 0, 1) := by decide +kernel
theorem d_Pl_plan_49 : decode prog_7_method_6_code 49 = .ok (.invokevirtual 99, 3) := by decide +kernel
theorem d_Pl_plan_52 : decode prog_7_method_6_code 52 = .ok (.putfield 72, 3) := by decide +kernel
theorem d_Pl_plan_55 : decode prog_7_method_6_code 55 = .ok (.aload_n 0, 1) := by decide +kernel
theorem d_Pl_plan_56 : decode prog_7_method_6_code 56 = .ok (.iconst (-1), 1) := by decide +kernel
theorem d_Pl_plan_57 : decode prog_7_method_6_code 57 = .ok (.putfield 76, 3) := by decide +kernel
theorem d_Pl_plan_60 : decode prog_7_method_6_code 60 = .ok (.iconst 0, 1) := by decide +kernel
theorem d_Pl_plan_61 : decode prog_7_method_6_code 61 = .ok (.istore 5, 2) := by decide +kernel
theorem d_Pl_plan_63 : decode prog_7_method_6_code 63 = .ok (.iload 5, 2) := by decide +kernel
theorem d_Pl_plan_65 : decode prog_7_method_6_code 65 = .ok (.aload_n 0, 1) := by decide +kernel
theorem d_Pl_plan_66 : decode prog_7_method_6_code 66 = .ok (.getfield 102, 3) := by decide +kernel
theorem d_Pl_plan_69 : decode prog_7_method_6_code 69 = .ok (.if_icmp .ge 57, 3) := by decide +kernel
theorem d_Pl_plan_72 : decode prog_7_method_6_code 72 = .ok (.aload_n 0, 1) := by decide +kernel
theorem d_Pl_plan_73 : decode prog_7_method_6_code 73 = .ok (.getfield 72, 3) := by decide +kernel
theorem d_Pl_plan_76 : decode prog_7_method_6_code 76 = .ok (.ifCond .le 50, 3) := by decide +kernel
theorem d_Pl_plan_79 : decode prog_7_method_6_code 79 = .ok (.aload_n 0, 1) := by decide +kernel
theorem d_Pl_plan_80 : decode prog_7_method_6_code 80 = .ok (.getfield 76, 3) := by decide +kernel
theorem d_Pl_plan_83 : decode prog_7_method_6_code 83 = .ok (.iconst (-1), 1) := by decide +kernel
theorem d_Pl_plan_84 : decode prog_7_method_6_code 84 = .ok (.if_icmp .ne 42, 3) := by decide +kernel
theorem d_Pl_plan_87 : decode prog_7_method_6_code 87 = .ok (.aload_n 0, 1) := by decide +kernel
theorem d_Pl_plan_88 : decode prog_7_method_6_code 88 = .ok (.iload 5, 2) := by decide +kernel
theorem d_Pl_plan_90 : decode prog_7_method_6_code 90 = .ok (.iload 4, 2) := by decide +kernel
theorem d_Pl_plan_92 : decode prog_7_method_6_code 92 = .ok (.iconst 0, 1) := by decide +kernel
theorem d_Pl_plan_93 : decode prog_7_method_6_code 93 = .ok (.aload_n 0, 1) := by decide +kernel
theorem d_Pl_plan_94 : decode prog_7_method_6_code 94 = .ok (.getfield 72, 3) := by decide +kernel
theorem d_Pl_plan_97 : decode prog_7_method_6_code 97 = .ok (.iconst 1, 1) := by decide +kernel
theorem d_Pl_plan_98 : decode prog_7_method_6_code 98 = .ok (.iadd, 1) := by decide +kernel
theorem d_Pl_plan_99 : decode prog_7_method_6_code 99 = .ok (.invokevirtual 105, 3) := by decide +kernel
theorem d_Pl_plan_102 : decode prog_7_method_6_code 102 = .ok (.aload_n 0, 1) := by decide +kernel
theorem d_Pl_plan_103 : decode prog_7_method_6_code 103 = .ok (.getfield 72, 3) := by decide +kernel
theorem d_Pl_plan_106 : decode prog_7_method_6_code 106 = .ok (.if_icmp .ne 14, 3) := by decide +kernel
theorem d_Pl_plan_109 : decode prog_7_method_6_code 109 = .ok (.aload_n 0, 1) := by decide +kernel
theorem d_Pl_plan_110 : decode prog_7_method_6_code 110 = .ok (.aload_n 0, 1) := by decide +kernel
theorem d_Pl_plan_111 : decode prog_7_method_6_code 111 = .ok (.getfield 31, 3) := by decide +kernel
theorem d_Pl_plan_114 : decode prog_7_method_6_code 114 = .ok (.iload 5, 2) := by decide +kernel
theorem d_Pl_plan_116 : decode prog_7_method_6_code 116 = .ok (.iaload, 1) := by decide +kernel
theorem d_Pl_plan_117 : decode prog_7_method_6_code 117 = .ok (.putfield 76, 3) := by decide +kernel
theorem d_Pl_plan_120 : decode prog_7_method_6_code 120 = .ok (.iinc 5 1, 3) := by decide +kernel
theorem d_Pl_plan_123 : decode prog_7_method_6_code 123 = .ok (.goto (-60), 3) := by decide +kernel
theorem d_Pl_plan_126 : decode prog_7_method_6_code 126 = .ok (.return_, 1) := by decide +kernel
abbrev S_Pl_plan : Type := Nat × Nat × Int32 × Int32 × Int32 × Int32 × AM
noncomputable def T_Pl_plan_0 (v0R : Nat) (v1I : Int32) (v2I : Int32) (σ : AM) : S_Pl_plan ⊕ Option (Unit × AM) :=
  gdT (okO σ v0R 7) <| gdT (okO σ (aR σ v0R 1) 5) <| bndT (M_Rs_size (aR σ v0R 1) σ) fun r3 σ4 => letT (mnI r3 (12 : Int32)) fun x5 => letT (((1 : Int32) <<< (x5 &&& 31)) - (1 : Int32)) fun x6 => gdT (okO σ4 v0R 7) <| bndT (M_Pl_groupAnswers v0R v1I v2I x5 σ4) fun _ σ8 => gdT (okO σ8 v0R 7) <| bndT (M_Pl_findSplits v0R x5 σ8) fun _ σ11 => gdT (okO σ11 v0R 7) <| gdT (okO σ11 (aR σ11 v0R 6) 105) <| bndT (M_JArr_fill3 (aR σ11 v0R 6) (0 : Int32) ((1 : Int32) <<< (x5 &&& 31)) ((-1) : Int32) σ11) fun _ σ16 => gdT (okO σ16 v0R 7) <| bndT (M_Pl_depthOf v0R x6 (0 : Int32) σ16) fun r17 σ18 => gdT (okO σ18 v0R 7) <| letT (sI σ18 v0R 8 r17) fun σ21 => letT (sI σ21 v0R 9 ((-1) : Int32)) fun σ23 => .inl (1, v0R, 0, 0, x6, (0 : Int32), σ23)
noncomputable def T_Pl_plan_1 (v0R : Nat) (v4I : Int32) (v5I : Int32) (σ : AM) : S_Pl_plan ⊕ Option (Unit × AM) :=
  gdT (okO σ v0R 7) <| if v5I < (aI σ v0R 7) then (if 0 < (aI σ v0R 8) then (if (aI σ v0R 9) = ((-1) : Int32) then (bndT (M_Pl_depthBy v0R v5I v4I (0 : Int32) ((aI σ v0R 8) + (1 : Int32)) σ) fun r2 σ3 => gdT (okO σ3 v0R 7) <| if r2 = (aI σ3 v0R 8) then (gdT (okO σ3 (aR σ3 v0R 5) 101) <| gdT (inB v5I (aN σ3 (aR σ3 v0R 5))) <| letT (sI σ3 v0R 9 (aI σ3 (aR σ3 v0R 5) v5I.toNatClampNeg)) fun σ7 => .inl (2, v0R, 0, 0, v4I, v5I, σ7)) else (.inl (2, v0R, 0, 0, v4I, v5I, σ3))) else (.inl (3, 0, 0, 0, 0, 0, σ))) else (.inl (3, 0, 0, 0, 0, 0, σ))) else (.inl (3, 0, 0, 0, 0, 0, σ))
noncomputable def T_Pl_plan_2 (v0R : Nat) (v4I : Int32) (v5I : Int32) (σ : AM) : S_Pl_plan ⊕ Option (Unit × AM) :=
  .inl (1, v0R, 0, 0, v4I, v5I + (1 : Int32), σ)
noncomputable def T_Pl_plan_3  (σ : AM) : S_Pl_plan ⊕ Option (Unit × AM) :=
  .inr (some ((), σ))
noncomputable def F_Pl_plan : S_Pl_plan → S_Pl_plan ⊕ Option (Unit × AM) := fun s => match s.1 with
  | 0 => T_Pl_plan_0 (s.2.1) (s.2.2.1) (s.2.2.2.1) (s.2.2.2.2.2.2)
  | 1 => T_Pl_plan_1 (s.2.1) (s.2.2.2.2.1) (s.2.2.2.2.2.1) (s.2.2.2.2.2.2)
  | 2 => T_Pl_plan_2 (s.2.1) (s.2.2.2.2.1) (s.2.2.2.2.2.1) (s.2.2.2.2.2.2)
  | _ => T_Pl_plan_3  (s.2.2.2.2.2.2)
noncomputable def L_Pl_plan_0 (v0R : Nat) (v1I : Int32) (v2I : Int32) (σ : AM) : Option (Unit × AM) := lp F_Pl_plan (0, v0R, v1I, v2I, 0, 0, σ)
noncomputable def L_Pl_plan_1 (v0R : Nat) (v4I : Int32) (v5I : Int32) (σ : AM) : Option (Unit × AM) := lp F_Pl_plan (1, v0R, 0, 0, v4I, v5I, σ)
noncomputable def L_Pl_plan_2 (v0R : Nat) (v4I : Int32) (v5I : Int32) (σ : AM) : Option (Unit × AM) := lp F_Pl_plan (2, v0R, 0, 0, v4I, v5I, σ)
noncomputable def L_Pl_plan_3  (σ : AM) : Option (Unit × AM) := lp F_Pl_plan (3, 0, 0, 0, 0, 0, σ)
set_option maxRecDepth 20000 in
theorem E_Pl_plan_0 (v0R : Nat) (v1I : Int32) (v2I : Int32) (σ : AM) : L_Pl_plan_0 v0R v1I v2I σ = (gd (okO σ v0R 7) <| gd (okO σ (aR σ v0R 1) 5) <| bnd (M_Rs_size (aR σ v0R 1) σ) fun r3 σ4 => letT (mnI r3 (12 : Int32)) fun x5 => letT (((1 : Int32) <<< (x5 &&& 31)) - (1 : Int32)) fun x6 => gd (okO σ4 v0R 7) <| bnd (M_Pl_groupAnswers v0R v1I v2I x5 σ4) fun _ σ8 => gd (okO σ8 v0R 7) <| bnd (M_Pl_findSplits v0R x5 σ8) fun _ σ11 => gd (okO σ11 v0R 7) <| gd (okO σ11 (aR σ11 v0R 6) 105) <| bnd (M_JArr_fill3 (aR σ11 v0R 6) (0 : Int32) ((1 : Int32) <<< (x5 &&& 31)) ((-1) : Int32) σ11) fun _ σ16 => gd (okO σ16 v0R 7) <| bnd (M_Pl_depthOf v0R x6 (0 : Int32) σ16) fun r17 σ18 => gd (okO σ18 v0R 7) <| letT (sI σ18 v0R 8 r17) fun σ21 => letT (sI σ21 v0R 9 ((-1) : Int32)) fun σ23 => L_Pl_plan_1 v0R x6 ((0 : Int32)) σ23) := by
  unfold L_Pl_plan_0
  rw [lp_eq]
  show lpK (lp F_Pl_plan) (T_Pl_plan_0 v0R v1I v2I σ) = _
  unfold T_Pl_plan_0
  simp only [lpK_ite, lq_inl, lq_inr, lpK_bnd, lpK_gd, lq_let]
  try rfl
set_option maxRecDepth 20000 in
theorem E_Pl_plan_1 (v0R : Nat) (v4I : Int32) (v5I : Int32) (σ : AM) : L_Pl_plan_1 v0R v4I v5I σ = (gd (okO σ v0R 7) <| if v5I < (aI σ v0R 7) then (if 0 < (aI σ v0R 8) then (if (aI σ v0R 9) = ((-1) : Int32) then (bnd (M_Pl_depthBy v0R v5I v4I (0 : Int32) ((aI σ v0R 8) + (1 : Int32)) σ) fun r2 σ3 => gd (okO σ3 v0R 7) <| if r2 = (aI σ3 v0R 8) then (gd (okO σ3 (aR σ3 v0R 5) 101) <| gd (inB v5I (aN σ3 (aR σ3 v0R 5))) <| letT (sI σ3 v0R 9 (aI σ3 (aR σ3 v0R 5) v5I.toNatClampNeg)) fun σ7 => L_Pl_plan_2 v0R v4I v5I σ7) else (L_Pl_plan_2 v0R v4I v5I σ3)) else (L_Pl_plan_3 σ)) else (L_Pl_plan_3 σ)) else (L_Pl_plan_3 σ)) := by
  unfold L_Pl_plan_1
  rw [lp_eq]
  show lpK (lp F_Pl_plan) (T_Pl_plan_1 v0R v4I v5I σ) = _
  unfold T_Pl_plan_1
  simp only [lpK_ite, lq_inl, lq_inr, lpK_bnd, lpK_gd, lq_let]
  try rfl
set_option maxRecDepth 20000 in
theorem E_Pl_plan_2 (v0R : Nat) (v4I : Int32) (v5I : Int32) (σ : AM) : L_Pl_plan_2 v0R v4I v5I σ = (L_Pl_plan_1 v0R v4I (v5I + (1 : Int32)) σ) := by
  unfold L_Pl_plan_2
  rw [lp_eq]
  show lpK (lp F_Pl_plan) (T_Pl_plan_2 v0R v4I v5I σ) = _
  unfold T_Pl_plan_2
  simp only [lpK_ite, lq_inl, lq_inr, lpK_bnd, lpK_gd, lq_let]
  try rfl
set_option maxRecDepth 20000 in
theorem E_Pl_plan_3  (σ : AM) : L_Pl_plan_3  σ = ((some ((), σ))) := by
  unfold L_Pl_plan_3
  rw [lp_eq]
  show lpK (lp F_Pl_plan) (T_Pl_plan_3  σ) = _
  unfold T_Pl_plan_3
  simp only [lpK_ite, lq_inl, lq_inr, lpK_bnd, lpK_gd, lq_let]
  try rfl
noncomputable def M_Pl_plan (v0R : Nat) (v1I : Int32) (v2I : Int32) (σ : AM) : Option (Unit × AM) := mw σ (L_Pl_plan_0 v0R v1I v2I σ)
def I_Pl_plan (G : GX) (p : Program) (l : Launch) (e : Env) (s : State) (m : MethodId) (args : Array Value) (below : List Frame) (meth : Method) (c : Code) (z0 u0 n : Nat) : Prop :=
  (∀ (v0R : Nat) (v1I : Int32) (v2I : Int32) (σ : AM), VX (QM eV G args s below z0 u0) G p l e s m args below meth c 82 z0 u0 6 (lpn F_Pl_plan n (0, v0R, v1I, v2I, 0, 0, σ)) 0 [(0, .ref v0R), (1, .int v1I), (2, .int v2I)] [] σ) ∧
  (∀ (v0R : Nat) (v4I : Int32) (v5I : Int32) (σ : AM), VX (QM eV G args s below z0 u0) G p l e s m args below meth c 82 z0 u0 6 (lpn F_Pl_plan n (1, v0R, 0, 0, v4I, v5I, σ)) 63 [(0, .ref v0R), (4, .int v4I), (5, .int v5I)] [] σ) ∧
  (∀ (v0R : Nat) (v4I : Int32) (v5I : Int32) (σ : AM), VX (QM eV G args s below z0 u0) G p l e s m args below meth c 82 z0 u0 6 (lpn F_Pl_plan n (2, v0R, 0, 0, v4I, v5I, σ)) 120 [(0, .ref v0R), (4, .int v4I), (5, .int v5I)] [] σ) ∧
  (∀ (σ : AM), VX (QM eV G args s below z0 u0) G p l e s m args below meth c 82 z0 u0 6 (lpn F_Pl_plan n (3, 0, 0, 0, 0, 0, σ)) 126 [] [] σ)
set_option maxRecDepth 20000 in
theorem s_Pl_plan_0 {G : GX} {p : Program} {l : Launch} {e : Env} {s : State} {m : MethodId} {args : Array Value} {below : List Frame} {meth : Method} {c : Code} {z0 u0 n : Nat} (C : Cx G p s m args meth c prog_7_method_6_code 6 "BellPlate$Planner" ((none))) (IH : I_Pl_plan G p l e s m args below meth c z0 u0 n) (v0R : Nat) (v1I : Int32) (v2I : Int32) (σ : AM) : VX (QM eV G args s below z0 u0) G p l e s m args below meth c 82 z0 u0 6 (lpK (lpn F_Pl_plan n) (T_Pl_plan_0 v0R v1I v2I σ)) 0 [(0, .ref v0R), (1, .int v1I), (2, .int v2I)] [] σ := by
  unfold T_Pl_plan_0
  refine x_aload_n C d_Pl_plan_0 0 rfl ?_
  refine x_gd (fun h1 => ?_)
  refine x_gd (fun h2 => ?_)
  refine x_getR (k := 1) (kv := 5) C (okO_iff.mp h1) rfl j6_ok (by decide) rfl (okO_iff.mp h2) (by decide) w444 d_Pl_plan_1 ?_
  refine x_callVI (As := []) C (c_Rs_size G l (aR σ v0R 1)  σ) (okO_iff.mp h2) rfl w1084 w1085 w1119 w1086 w125 k_Rs_size rfl (by decide) (by decide) rfl (Nat.le_of_ble_eq_true rfl) d_Pl_plan_4 (fun r3 σ4 => ?_)
  refine x_bipush (v := (12 : Int32)) C d_Pl_plan_7 (by decide) ?_
  refine x_mmin C w1206 (by decide) (Nat.le_of_ble_eq_true rfl) d_Pl_plan_9 ?_
  refine x_letI (fun x5 _ => ?_)
  refine x_istore_n (lv' := [(3, .int x5), (0, .ref v0R), (1, .int v1I), (2, .int v2I)]) C d_Pl_plan_12 (by decide) rfl rfl ?_
  refine x_iconst (v := (1 : Int32)) C d_Pl_plan_13 (by decide) ?_
  refine x_iload_n C d_Pl_plan_14 0 rfl ?_
  refine x_ishl C d_Pl_plan_15 ?_
  refine x_iconst (v := (1 : Int32)) C d_Pl_plan_16 (by decide) ?_
  refine x_isub C d_Pl_plan_17 ?_
  refine x_letI (fun x6 _ => ?_)
  refine x_istore (lv' := [(4, .int x6), (3, .int x5), (0, .ref v0R), (1, .int v1I), (2, .int v2I)]) C d_Pl_plan_18 (by decide) rfl ?_
  refine x_aload_n C d_Pl_plan_20 2 rfl ?_
  refine x_iload_n C d_Pl_plan_21 3 rfl ?_
  refine x_iload_n C d_Pl_plan_22 4 rfl ?_
  refine x_iload_n C d_Pl_plan_23 1 rfl ?_
  refine x_gd (fun h9 => ?_)
  refine x_callVV (As := [.int v1I, .int v2I, .int x5]) C (c_Pl_groupAnswers G l v0R v1I v2I x5 σ4) (okO_iff.mp h9) rfl w1209 w28 w1207 w1210 w128 k_Pl_groupAnswers rfl (by decide) (by decide) rfl (Nat.le_of_ble_eq_true rfl) d_Pl_plan_24 (fun r7 σ8 => ?_)
  refine x_aload_n C d_Pl_plan_27 2 rfl ?_
  refine x_iload_n C d_Pl_plan_28 1 rfl ?_
  refine x_gd (fun h12 => ?_)
  refine x_callVV (As := [.int x5]) C (c_Pl_findSplits G l v0R x5 σ8) (okO_iff.mp h12) rfl w1213 w29 w1211 w1214 w128 k_Pl_findSplits rfl (by decide) (by decide) rfl (Nat.le_of_ble_eq_true rfl) d_Pl_plan_29 (fun r10 σ11 => ?_)
  refine x_aload_n C d_Pl_plan_32 2 rfl ?_
  refine x_gd (fun h13 => ?_)
  refine x_gd (fun h14 => ?_)
  refine x_getR (k := 6) (kv := 105) C (okO_iff.mp h13) rfl j6_ok (by decide) rfl (okO_iff.mp h14) (by decide) w449 d_Pl_plan_33 ?_
  refine x_iconst (v := (0 : Int32)) C d_Pl_plan_36 (by decide) ?_
  refine x_iconst (v := (1 : Int32)) C d_Pl_plan_37 (by decide) ?_
  refine x_iload_n C d_Pl_plan_38 1 rfl ?_
  refine x_ishl C d_Pl_plan_39 ?_
  refine x_iconst (v := ((-1) : Int32)) C d_Pl_plan_40 (by decide) ?_
  refine x_callSV (As := [.ref (aR σ11 v0R 6), .int (0 : Int32), .int ((1 : Int32) <<< (x5 &&& 31)), .int ((-1) : Int32)]) C (c_JArr_fill3 G l (aR σ11 v0R 6) (0 : Int32) ((1 : Int32) <<< (x5 &&& 31)) ((-1) : Int32) σ11) w1220 w1219 w1221 w127 k_JArr_fill3 rfl (by decide) (by decide) rfl (Nat.le_of_ble_eq_true rfl) d_Pl_plan_41 (fun r15 σ16 => ?_)
  refine x_aload_n C d_Pl_plan_44 2 rfl ?_
  refine x_aload_n C d_Pl_plan_45 2 rfl ?_
  refine x_iload C d_Pl_plan_46 0 rfl ?_
  refine x_iconst (v := (0 : Int32)) C d_Pl_plan_48 (by decide) ?_
  refine x_gd (fun h19 => ?_)
  refine x_callVI (As := [.int x6, .int (0 : Int32)]) C (c_Pl_depthOf G l v0R x6 (0 : Int32) σ16) (okO_iff.mp h19) rfl w1227 w31 w1225 w1228 w128 k_Pl_depthOf rfl (by decide) (by decide) rfl (Nat.le_of_ble_eq_true rfl) d_Pl_plan_49 (fun r17 σ18 => ?_)
  refine x_gd (fun h20 => ?_)
  refine x_putI (k := 8) C (okO_iff.mp h20) rfl j6_ok y6_ok n6_ok (by decide) rfl rfl rfl rfl w451 d_Pl_plan_52 ?_
  refine x_letS (fun σ21 e22 => ?_)
  refine x_aload_n C d_Pl_plan_55 2 rfl ?_
  refine x_iconst (v := ((-1) : Int32)) C d_Pl_plan_56 (by decide) ?_
  refine x_putI (k := 9) C (by first | exact (okO_iff.mp h20) | (rw [e22]; exact (okO_iff.mp h20))) rfl j6_ok y6_ok n6_ok (by decide) rfl rfl rfl rfl w452 d_Pl_plan_57 ?_
  refine x_letS (fun σ23 e24 => ?_)
  refine x_iconst (v := (0 : Int32)) C d_Pl_plan_60 (by decide) ?_
  refine x_istore (lv' := [(5, .int (0 : Int32)), (4, .int x6), (3, .int x5), (0, .ref v0R), (1, .int v1I), (2, .int v2I)]) C d_Pl_plan_61 (by decide) rfl ?_
  refine x_lv [3, 1, 0] rfl ?_
  exact IH.2.1 v0R x6 ((0 : Int32)) (σ23)
set_option maxRecDepth 20000 in
theorem s_Pl_plan_1 {G : GX} {p : Program} {l : Launch} {e : Env} {s : State} {m : MethodId} {args : Array Value} {below : List Frame} {meth : Method} {c : Code} {z0 u0 n : Nat} (C : Cx G p s m args meth c prog_7_method_6_code 6 "BellPlate$Planner" ((none))) (IH : I_Pl_plan G p l e s m args below meth c z0 u0 n) (v0R : Nat) (v4I : Int32) (v5I : Int32) (σ : AM) : VX (QM eV G args s below z0 u0) G p l e s m args below meth c 82 z0 u0 6 (lpK (lpn F_Pl_plan n) (T_Pl_plan_1 v0R v4I v5I σ)) 63 [(0, .ref v0R), (4, .int v4I), (5, .int v5I)] [] σ := by
  unfold T_Pl_plan_1
  refine x_iload C d_Pl_plan_63 2 rfl ?_
  refine x_aload_n C d_Pl_plan_65 0 rfl ?_
  refine x_gd (fun h1 => ?_)
  refine x_getI (k := 7) C (okO_iff.mp h1) rfl j6_ok (by decide) rfl w450 d_Pl_plan_66 ?_
  refine x_icmp_ge (tgt := 126) C d_Pl_plan_69 (by decide) (fun _ => ?_) (fun _ => ?_)
  · refine x_aload_n C d_Pl_plan_72 0 rfl ?_
    refine x_getI (k := 8) C (okO_iff.mp h1) rfl j6_ok (by decide) rfl w451 d_Pl_plan_73 ?_
    refine x_if_le (tgt := 126) C d_Pl_plan_76 (by decide) (fun _ => ?_) (fun _ => ?_)
    · refine x_aload_n C d_Pl_plan_79 0 rfl ?_
      refine x_getI (k := 9) C (okO_iff.mp h1) rfl j6_ok (by decide) rfl w452 d_Pl_plan_80 ?_
      refine x_iconst (v := ((-1) : Int32)) C d_Pl_plan_83 (by decide) ?_
      refine x_icmp_ne (tgt := 126) C d_Pl_plan_84 (by decide) (fun _ => ?_) (fun _ => ?_)
      · refine x_aload_n C d_Pl_plan_87 0 rfl ?_
        refine x_iload C d_Pl_plan_88 2 rfl ?_
        refine x_iload C d_Pl_plan_90 1 rfl ?_
        refine x_iconst (v := (0 : Int32)) C d_Pl_plan_92 (by decide) ?_
        refine x_aload_n C d_Pl_plan_93 0 rfl ?_
        refine x_getI (k := 8) C (okO_iff.mp h1) rfl j6_ok (by decide) rfl w451 d_Pl_plan_94 ?_
        refine x_iconst (v := (1 : Int32)) C d_Pl_plan_97 (by decide) ?_
        refine x_iadd C d_Pl_plan_98 ?_
        refine x_callVI (As := [.int v5I, .int v4I, .int (0 : Int32), .int ((aI σ v0R 8) + (1 : Int32))]) C (c_Pl_depthBy G l v0R v5I v4I (0 : Int32) ((aI σ v0R 8) + (1 : Int32)) σ) (okO_iff.mp h1) rfl w1235 w33 w1233 w1236 w128 k_Pl_depthBy rfl (by decide) (by decide) rfl (Nat.le_of_ble_eq_true rfl) d_Pl_plan_99 (fun r2 σ3 => ?_)
        refine x_aload_n C d_Pl_plan_102 0 rfl ?_
        refine x_gd (fun h4 => ?_)
        refine x_getI (k := 8) C (okO_iff.mp h4) rfl j6_ok (by decide) rfl w451 d_Pl_plan_103 ?_
        refine x_icmp_ne (tgt := 120) C d_Pl_plan_106 (by decide) (fun _ => ?_) (fun _ => ?_)
        · refine x_aload_n C d_Pl_plan_109 0 rfl ?_
          refine x_aload_n C d_Pl_plan_110 0 rfl ?_
          refine x_gd (fun h5 => ?_)
          refine x_getR (k := 5) (kv := 101) C (okO_iff.mp h4) rfl j6_ok (by decide) rfl (okO_iff.mp h5) (by decide) w448 d_Pl_plan_111 ?_
          refine x_iload C d_Pl_plan_114 2 rfl ?_
          refine x_gd (fun h6 => ?_)
          refine x_aldI C (okO_iff.mp h5) (inB_iff.mp h6) d_Pl_plan_116 ?_
          refine x_putI (k := 9) C (okO_iff.mp h4) rfl j6_ok y6_ok n6_ok (by decide) rfl rfl rfl rfl w452 d_Pl_plan_117 ?_
          refine x_letS (fun σ7 e8 => ?_)
          exact IH.2.2.1 v0R v4I v5I (σ7)
        · exact IH.2.2.1 v0R v4I v5I (σ3)
      · refine x_lv [] rfl ?_
        exact IH.2.2.2  (σ)
    · refine x_lv [] rfl ?_
      exact IH.2.2.2  (σ)
  · refine x_lv [] rfl ?_
    exact IH.2.2.2  (σ)
set_option maxRecDepth 20000 in
theorem s_Pl_plan_2 {G : GX} {p : Program} {l : Launch} {e : Env} {s : State} {m : MethodId} {args : Array Value} {below : List Frame} {meth : Method} {c : Code} {z0 u0 n : Nat} (C : Cx G p s m args meth c prog_7_method_6_code 6 "BellPlate$Planner" ((none))) (IH : I_Pl_plan G p l e s m args below meth c z0 u0 n) (v0R : Nat) (v4I : Int32) (v5I : Int32) (σ : AM) : VX (QM eV G args s below z0 u0) G p l e s m args below meth c 82 z0 u0 6 (lpK (lpn F_Pl_plan n) (T_Pl_plan_2 v0R v4I v5I σ)) 120 [(0, .ref v0R), (4, .int v4I), (5, .int v5I)] [] σ := by
  unfold T_Pl_plan_2
  refine x_iinc (v := v5I + (1 : Int32)) (lv' := [(5, .int (v5I + (1 : Int32))), (0, .ref v0R), (4, .int v4I)]) C d_Pl_plan_120 2 rfl rfl (by decide) rfl ?_
  refine x_goto (tgt := 63) C d_Pl_plan_123 (by decide) ?_
  refine x_lv [1, 2, 0] rfl ?_
  exact IH.2.1 v0R v4I (v5I + (1 : Int32)) (σ)
set_option maxRecDepth 20000 in
theorem s_Pl_plan_3 {G : GX} {p : Program} {l : Launch} {e : Env} {s : State} {m : MethodId} {args : Array Value} {below : List Frame} {meth : Method} {c : Code} {z0 u0 n : Nat} (C : Cx G p s m args meth c prog_7_method_6_code 6 "BellPlate$Planner" ((none))) (IH : I_Pl_plan G p l e s m args below meth c z0 u0 n)  (σ : AM) : VX (QM eV G args s below z0 u0) G p l e s m args below meth c 82 z0 u0 6 (lpK (lpn F_Pl_plan n) (T_Pl_plan_3  σ)) 126 [] [] σ := by
  unfold T_Pl_plan_3
  exact x_vret C d_Pl_plan_126
theorem i_Pl_plan {G : GX} {p : Program} {l : Launch} {e : Env} {s : State} {m : MethodId} {args : Array Value} {below : List Frame} {meth : Method} {c : Code} {z0 u0 : Nat} (C : Cx G p s m args meth c prog_7_method_6_code 6 "BellPlate$Planner" ((none))) (n : Nat) : I_Pl_plan G p l e s m args below meth c z0 u0 n := by
  induction n with
  | zero => exact ⟨fun _ _ _ _ => x_none, fun _ _ _ _ => x_none, fun _ _ _ _ => x_none, fun _ => x_none⟩
  | succ n IH => exact ⟨fun v0R v1I v2I σ => s_Pl_plan_0 C IH v0R v1I v2I σ, fun v0R v4I v5I σ => s_Pl_plan_1 C IH v0R v4I v5I σ, fun v0R v4I v5I σ => s_Pl_plan_2 C IH v0R v4I v5I σ, fun σ => s_Pl_plan_3 C IH σ⟩
theorem c_Pl_plan (G : GX) (l : Launch) (v0R : Nat) (v1I : Int32) (v2I : Int32) (σ : AM) : CT eV G l 82 y_Pl_plan prog_7_method_6_code 6 (none) [.ref v0R, .int v1I, .int v2I] σ (M_Pl_plan v0R v1I v2I σ) := by
  refine ct_of (by decide +kernel) (Nat.le_of_ble_eq_true rfl) (fun p e s m args below meth c C hin => ?_)
  refine x_lve (lv' := [(0, .ref v0R), (1, .int v1I), (2, .int v2I)]) rfl ?_
  intro r σ' h
  obtain ⟨n, hn⟩ := (lp_iff _ _ _).mp h
  exact (i_Pl_plan C n).1 v0R v1I v2I σ r σ' hn
