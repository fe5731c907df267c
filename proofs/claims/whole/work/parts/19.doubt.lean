/-! BellPlate$Doubt.<init>(LBellPlate$Tower;LBellPlate$Lists;LBellPlate$Book;)V -/
abbrev y_Db_init : MethodName := ⟨"BellPlate$Doubt", "<init>", "(LBellPlate$Tower;LBellPlate$Lists;LBellPlate$Book;)V"⟩
theorem k_Db_init : y_Db_init.cls ≠ "java/lang/invoke/MethodHandle" ∧ y_Db_init.cls ≠ "java/lang/invoke/VarHandle" ∧ (parseMethodDescriptor y_Db_init.desc).map (fun d => d.parameters.length) = some 3 := by decide +kernel
theorem d_Db_init_0 : decode prog_4_method_1_code 0 = .ok (.aload_n 0, 1) := by decide +kernel
theorem d_Db_init_1 : decode prog_4_method_1_code 1 = .ok (.invokespecial 3, 3) := by decide +kernel
theorem d_Db_init_4 : decode prog_4_method_1_code 4 = .ok (.aload_n 0, 1) := by decide +kernel
theorem d_Db_init_5 : decode prog_4_method_1_code 5 = .ok (.aload_n 1, 1) := by decide +kernel
theorem d_Db_init_6 : decode prog_4_method_1_code 6 = .ok (.putfield 9, 3) := by decide +kernel
theorem d_Db_init_9 : decode prog_4_method_1_code 9 = .ok (.aload_n 0, 1) := by decide +kernel
theorem d_Db_init_10 : decode prog_4_method_1_code 10 = .ok (.aload_n 2, 1) := by decide +kernel
theorem d_Db_init_11 : decode prog_4_method_1_code 11 = .ok (.putfield 15, 3) := by decide +kernel
theorem d_Db_init_14 : decode prog_4_method_1_code 14 = .ok (.aload_n 0, 1) := by decide +kernel
theorem d_Db_init_15 : decode prog_4_method_1_code 15 = .ok (.aload_n 3, 1) := by decide +kernel
theorem d_Db_init_16 : decode prog_4_method_1_code 16 = .ok (.putfield 19, 3) := by decide +kernel
theorem d_Db_init_19 : decode prog_4_method_1_code 19 = .ok (.aload_n 0, 1) := by decide +kernel
theorem d_Db_init_20 : decode prog_4_method_1_code 20 = .ok (.bipush 6, 2) := by decide +kernel
theorem d_Db_init_22 : decode prog_4_method_1_code 22 = .ok (.newarray .long, 2) := by decide +kernel
theorem d_Db_init_24 : decode prog_4_method_1_code 24 = .ok (.putfield 23, 3) := by decide +kernel
theorem d_Db_init_27 : decode prog_4_method_1_code 27 = .ok (.aload_n 0, 1) := by decide +kernel
theorem d_Db_init_28 : decode prog_4_method_1_code 28 = .ok (.bipush 6, 2) := by decide +kernel
theorem d_Db_init_30 : decode prog_4_method_1_code 30 = .ok (.newarray .long, 2) := by decide +kernel
theorem d_Db_init_32 : decode prog_4_method_1_code 32 = .ok (.putfield 27, 3) := by decide +kernel
theorem d_Db_init_35 : decode prog_4_method_1_code 35 = .ok (.aload_n 0, 1) := by decide +kernel
theorem d_Db_init_36 : decode prog_4_method_1_code 36 = .ok (.bipush 61, 2) := by decide +kernel
theorem d_Db_init_38 : decode prog_4_method_1_code 38 = .ok (.newarray .int, 2) := by decide +kernel
theorem d_Db_init_40 : decode prog_4_method_1_code 40 = .ok (.putfield 32, 3) := by decide +kernel
theorem d_Db_init_43 : decode prog_4_method_1_code 43 = .ok (.aload_n 0, 1) := by decide +kernel
theorem d_Db_init_44 : decode prog_4_method_1_code 44 = .ok (.bipush 6, 2) := by decide +kernel
theorem d_Db_init_46 : decode prog_4_method_1_code 46 = .ok (.newarray .int, 2) := by decide +kernel
theorem d_Db_init_48 : decode prog_4_method_1_code 48 = .ok (.putfield 38, 3) := by decide +kernel
theorem d_Db_init_51 : decode prog_4_method_1_code 51 = .ok (.aload_n 0, 1) := by decide +kernel
theorem d_Db_init_52 : decode prog_4_method_1_code 52 = .ok (.iconst (-1), 1) := by decide +kernel
theorem d_Db_init_53 : decode prog_4_method_1_code 53 = .ok (.putfield 41, 3) := by decide +kernel
theorem d_Db_init_56 : decode prog_4_method_1_code 56 = .ok (.aload_n 0, 1) := by decide +kernel
theorem d_Db_init_57 : decode prog_4_method_1_code 57 = .ok (.iconst (-1), 1) := by decide +kernel
theorem d_Db_init_58 : decode prog_4_method_1_code 58 = .ok (.putfield 45, 3) := by decide +kernel
theorem d_Db_init_61 : decode prog_4_method_1_code 61 = .ok (.return_, 1) := by decide +kernel
abbrev S_Db_init : Type := Nat × Nat × Nat × Nat × Nat × AM
noncomputable def T_Db_init_0 (v0R : Nat) (v1R : Nat) (v2R : Nat) (v3R : Nat) (σ : AM) : S_Db_init ⊕ Option (Unit × AM) :=
  gdT (okO σ v0R 9) <| gdT (okO σ v1R 1) <| letT (sR σ v0R 0 v1R) fun σ3 => gdT (okO σ3 v2R 3) <| letT (sR σ3 v0R 1 v2R) fun σ6 => gdT (okO σ6 v3R 4) <| letT (sR σ6 v0R 2 v3R) fun σ9 => letT (nw σ9 102 (6 : Int32).toNatClampNeg) fun σ11 => gdT (okO σ11 v0R 9) <| letT (sR σ11 v0R 3 (aZ σ9)) fun σ14 => letT (nw σ14 102 (6 : Int32).toNatClampNeg) fun σ16 => gdT (okO σ16 v0R 9) <| letT (sR σ16 v0R 4 (aZ σ14)) fun σ19 => letT (nw σ19 101 (61 : Int32).toNatClampNeg) fun σ21 => gdT (okO σ21 v0R 9) <| letT (sR σ21 v0R 5 (aZ σ19)) fun σ24 => letT (nw σ24 101 (6 : Int32).toNatClampNeg) fun σ26 => gdT (okO σ26 v0R 9) <| letT (sR σ26 v0R 6 (aZ σ24)) fun σ29 => letT (sI σ29 v0R 10 ((-1) : Int32)) fun σ31 => letT (sI σ31 v0R 11 ((-1) : Int32)) fun σ33 => .inr (some ((), σ33))
noncomputable def F_Db_init : S_Db_init → S_Db_init ⊕ Option (Unit × AM) := fun s => match s.1 with
  | _ => T_Db_init_0 (s.2.1) (s.2.2.1) (s.2.2.2.1) (s.2.2.2.2.1) (s.2.2.2.2.2)
noncomputable def L_Db_init_0 (v0R : Nat) (v1R : Nat) (v2R : Nat) (v3R : Nat) (σ : AM) : Option (Unit × AM) := lp F_Db_init (0, v0R, v1R, v2R, v3R, σ)
set_option maxRecDepth 20000 in
theorem E_Db_init_0 (v0R : Nat) (v1R : Nat) (v2R : Nat) (v3R : Nat) (σ : AM) : L_Db_init_0 v0R v1R v2R v3R σ = (gd (okO σ v0R 9) <| gd (okO σ v1R 1) <| letT (sR σ v0R 0 v1R) fun σ3 => gd (okO σ3 v2R 3) <| letT (sR σ3 v0R 1 v2R) fun σ6 => gd (okO σ6 v3R 4) <| letT (sR σ6 v0R 2 v3R) fun σ9 => letT (nw σ9 102 (6 : Int32).toNatClampNeg) fun σ11 => gd (okO σ11 v0R 9) <| letT (sR σ11 v0R 3 (aZ σ9)) fun σ14 => letT (nw σ14 102 (6 : Int32).toNatClampNeg) fun σ16 => gd (okO σ16 v0R 9) <| letT (sR σ16 v0R 4 (aZ σ14)) fun σ19 => letT (nw σ19 101 (61 : Int32).toNatClampNeg) fun σ21 => gd (okO σ21 v0R 9) <| letT (sR σ21 v0R 5 (aZ σ19)) fun σ24 => letT (nw σ24 101 (6 : Int32).toNatClampNeg) fun σ26 => gd (okO σ26 v0R 9) <| letT (sR σ26 v0R 6 (aZ σ24)) fun σ29 => letT (sI σ29 v0R 10 ((-1) : Int32)) fun σ31 => letT (sI σ31 v0R 11 ((-1) : Int32)) fun σ33 => (some ((), σ33))) := by
  unfold L_Db_init_0
  rw [lp_eq]
  show lpK (lp F_Db_init) (T_Db_init_0 v0R v1R v2R v3R σ) = _
  unfold T_Db_init_0
  simp only [lpK_ite, lq_inl, lq_inr, lpK_bnd, lpK_gd, lq_let]
  try rfl
noncomputable def M_Db_init (v0R : Nat) (v1R : Nat) (v2R : Nat) (v3R : Nat) (σ : AM) : Option (Unit × AM) := mw σ (L_Db_init_0 v0R v1R v2R v3R σ)
def I_Db_init (G : GX) (p : Program) (l : Launch) (e : Env) (s : State) (m : MethodId) (args : Array Value) (below : List Frame) (meth : Method) (c : Code) (z0 u0 n : Nat) : Prop :=
  (∀ (v0R : Nat) (v1R : Nat) (v2R : Nat) (v3R : Nat) (σ : AM), VX (QM eV G args s below z0 u0) G p l e s m args below meth c 1 z0 u0 4 (lpn F_Db_init n (0, v0R, v1R, v2R, v3R, σ)) 0 [(0, .ref v0R), (1, .ref v1R), (2, .ref v2R), (3, .ref v3R)] [] σ)
set_option maxRecDepth 20000 in
theorem s_Db_init_0 {G : GX} {p : Program} {l : Launch} {e : Env} {s : State} {m : MethodId} {args : Array Value} {below : List Frame} {meth : Method} {c : Code} {z0 u0 n : Nat} (C : Cx G p s m args meth c prog_4_method_1_code 4 "BellPlate$Doubt" ((none))) (hin : meth.name = "<init>") (IH : I_Db_init G p l e s m args below meth c z0 u0 n) (v0R : Nat) (v1R : Nat) (v2R : Nat) (v3R : Nat) (σ : AM) : VX (QM eV G args s below z0 u0) G p l e s m args below meth c 1 z0 u0 4 (lpK (lpn F_Db_init n) (T_Db_init_0 v0R v1R v2R v3R σ)) 0 [(0, .ref v0R), (1, .ref v1R), (2, .ref v2R), (3, .ref v3R)] [] σ := by
  unfold T_Db_init_0
  refine x_aload_n C d_Db_init_0 0 rfl ?_
  refine x_gd (fun h1 => ?_)
  refine x_obj C (okO_iff.mp h1) w535 w153 w154 (by decide) (Nat.le_of_ble_eq_true rfl) d_Db_init_1 ?_
  refine x_aload_n C d_Db_init_4 0 rfl ?_
  refine x_aload_n C d_Db_init_5 1 rfl ?_
  refine x_gd (fun h2 => ?_)
  refine x_putRF (k := 0) (kv := 1) C (okO_iff.mp h1) rfl j8_ok y8_ok n8_ok (by decide) rfl (okO_iff.mp h2) (by decide) rfl hin rfl rfl rfl w536 d_Db_init_6 ?_
  refine x_letS (fun σ3 e4 => ?_)
  refine x_aload_n C d_Db_init_9 0 rfl ?_
  refine x_aload_n C d_Db_init_10 2 rfl ?_
  refine x_gd (fun h5 => ?_)
  refine x_putRF (k := 1) (kv := 3) C (by first | exact (okO_iff.mp h1) | (rw [e4]; exact (okO_iff.mp h1))) rfl j8_ok y8_ok n8_ok (by decide) rfl (okO_iff.mp h5) (by decide) rfl hin rfl rfl rfl w537 d_Db_init_11 ?_
  refine x_letS (fun σ6 e7 => ?_)
  refine x_aload_n C d_Db_init_14 0 rfl ?_
  refine x_aload_n C d_Db_init_15 3 rfl ?_
  refine x_gd (fun h8 => ?_)
  refine x_putRF (k := 2) (kv := 4) C (by first | exact (okO_iff.mp h1) | (rw [e7, e4]; exact (okO_iff.mp h1))) rfl j8_ok y8_ok n8_ok (by decide) rfl (okO_iff.mp h8) (by decide) rfl hin rfl rfl rfl w538 d_Db_init_16 ?_
  refine x_letS (fun σ9 e10 => ?_)
  refine x_aload_n C d_Db_init_19 0 rfl ?_
  refine x_bipush (v := (6 : Int32)) C d_Db_init_20 (by decide) ?_
  refine x_newaJ C w202 (by decide) (by decide) d_Db_init_22 ?_
  refine x_letS (fun σ11 e12 => ?_)
  refine x_gd (fun h13 => ?_)
  refine x_putRF (k := 3) (kv := 102) C (okO_iff.mp h13) rfl j8_ok y8_ok n8_ok (by decide) rfl (fr_K e12) (by decide) rfl hin rfl rfl rfl w539 d_Db_init_24 ?_
  refine x_letS (fun σ14 e15 => ?_)
  refine x_aload_n C d_Db_init_27 0 rfl ?_
  refine x_bipush (v := (6 : Int32)) C d_Db_init_28 (by decide) ?_
  refine x_newaJ C w202 (by decide) (by decide) d_Db_init_30 ?_
  refine x_letS (fun σ16 e17 => ?_)
  refine x_gd (fun h18 => ?_)
  refine x_putRF (k := 4) (kv := 102) C (okO_iff.mp h18) rfl j8_ok y8_ok n8_ok (by decide) rfl (fr_K e17) (by decide) rfl hin rfl rfl rfl w540 d_Db_init_32 ?_
  refine x_letS (fun σ19 e20 => ?_)
  refine x_aload_n C d_Db_init_35 0 rfl ?_
  refine x_bipush (v := (61 : Int32)) C d_Db_init_36 (by decide) ?_
  refine x_newaI C w203 (by decide) (by decide) d_Db_init_38 ?_
  refine x_letS (fun σ21 e22 => ?_)
  refine x_gd (fun h23 => ?_)
  refine x_putRF (k := 5) (kv := 101) C (okO_iff.mp h23) rfl j8_ok y8_ok n8_ok (by decide) rfl (fr_K e22) (by decide) rfl hin rfl rfl rfl w541 d_Db_init_40 ?_
  refine x_letS (fun σ24 e25 => ?_)
  refine x_aload_n C d_Db_init_43 0 rfl ?_
  refine x_bipush (v := (6 : Int32)) C d_Db_init_44 (by decide) ?_
  refine x_newaI C w203 (by decide) (by decide) d_Db_init_46 ?_
  refine x_letS (fun σ26 e27 => ?_)
  refine x_gd (fun h28 => ?_)
  refine x_putRF (k := 6) (kv := 101) C (okO_iff.mp h28) rfl j8_ok y8_ok n8_ok (by decide) rfl (fr_K e27) (by decide) rfl hin rfl rfl rfl w542 d_Db_init_48 ?_
  refine x_letS (fun σ29 e30 => ?_)
  refine x_aload_n C d_Db_init_51 0 rfl ?_
  refine x_iconst (v := ((-1) : Int32)) C d_Db_init_52 (by decide) ?_
  refine x_putI (k := 10) C (by first | exact (okO_iff.mp h28) | (rw [e30]; exact (okO_iff.mp h28))) rfl j8_ok y8_ok n8_ok (by decide) rfl rfl rfl rfl w546 d_Db_init_53 ?_
  refine x_letS (fun σ31 e32 => ?_)
  refine x_aload_n C d_Db_init_56 0 rfl ?_
  refine x_iconst (v := ((-1) : Int32)) C d_Db_init_57 (by decide) ?_
  refine x_putI (k := 11) C (by first | exact (okO_iff.mp h28) | (rw [e32, e30]; exact (okO_iff.mp h28))) rfl j8_ok y8_ok n8_ok (by decide) rfl rfl rfl rfl w547 d_Db_init_58 ?_
  refine x_letS (fun σ33 e34 => ?_)
  exact x_vret C d_Db_init_61
theorem i_Db_init {G : GX} {p : Program} {l : Launch} {e : Env} {s : State} {m : MethodId} {args : Array Value} {below : List Frame} {meth : Method} {c : Code} {z0 u0 : Nat} (C : Cx G p s m args meth c prog_4_method_1_code 4 "BellPlate$Doubt" ((none))) (hin : meth.name = "<init>") (n : Nat) : I_Db_init G p l e s m args below meth c z0 u0 n := by
  induction n with
  | zero => exact fun _ _ _ _ _ => x_none
  | succ n IH => exact fun v0R v1R v2R v3R σ => s_Db_init_0 C hin IH v0R v1R v2R v3R σ
theorem c_Db_init (G : GX) (l : Launch) (v0R : Nat) (v1R : Nat) (v2R : Nat) (v3R : Nat) (σ : AM) : CT eV G l 1 y_Db_init prog_4_method_1_code 4 (none) [.ref v0R, .ref v1R, .ref v2R, .ref v3R] σ (M_Db_init v0R v1R v2R v3R σ) := by
  refine ct_of (by decide +kernel) (Nat.le_of_ble_eq_true rfl) (fun p e s m args below meth c C hin => ?_)
  refine x_lve (lv' := [(0, .ref v0R), (1, .ref v1R), (2, .ref v2R), (3, .ref v3R)]) rfl ?_
  intro r σ' h
  obtain ⟨n, hn⟩ := (lp_iff _ _ _).mp h
  exact (i_Db_init C hin n) v0R v1R v2R v3R σ r σ' hn
/-! BellPlate$Doubt.note(JI)V -/
abbrev y_Db_note : MethodName := ⟨"BellPlate$Doubt", "note", "(JI)V"⟩
theorem k_Db_note : y_Db_note.cls ≠ "java/lang/invoke/MethodHandle" ∧ y_Db_note.cls ≠ "java/lang/invoke/VarHandle" ∧ (parseMethodDescriptor y_Db_note.desc).map (fun d => d.parameters.length) = some 2 := by decide +kernel
theorem d_Db_note_0 : decode prog_4_method_3_code 0 = .ok (.iconst 0, 1) := by decide +kernel
theorem d_Db_note_1 : decode prog_4_method_3_code 1 = .ok (.istore 4, 2) := by decide +kernel
theorem d_Db_note_3 : decode prog_4_method_3_code 3 = .ok (.iconst 0, 1) := by decide +kernel
theorem d_Db_note_4 : decode prog_4_method_3_code 4 = .ok (.istore 5, 2) := by decide +kernel
theorem d_Db_note_6 : decode prog_4_method_3_code 6 = .ok (.iload 5, 2) := by decide +kernel
theorem d_Db_note_8 : decode prog_4_method_3_code 8 = .ok (.bipush 6, 2) := by decide +kernel
theorem d_Db_note_10 : decode prog_4_method_3_code 10 = .ok (.if_icmp .ge 50, 3) := by decide +kernel
theorem d_Db_note_13 : decode prog_4_method_3_code 13 = .ok (.aload_n 0, 1) := by decide +kernel
theorem d_Db_note_14 : decode prog_4_method_3_code 14 = .ok (.getfield 23, 3) := by decide +kernel
theorem d_Db_note_17 : decode prog_4_method_3_code 17 = .ok (.iload 5, 2) := by decide +kernel
theorem d_Db_note_19 : decode prog_4_method_3_code 19 = .ok (.laload, 1) := by decide +kernel
theorem d_Db_note_20 : decode prog_4_method_3_code 20 = .ok (.lload_n 1, 1) := by decide +kernel
theorem d_Db_note_21 : decode prog_4_method_3_code 21 = .ok (.ldc2_w 84, 3) := by decide +kernel
theorem d_Db_note_24 : decode prog_4_method_3_code 24 = .ok (.lxor, 1) := by decide +kernel
theorem d_Db_note_25 : decode prog_4_method_3_code 25 = .ok (.land, 1) := by decide +kernel
theorem d_Db_note_26 : decode prog_4_method_3_code 26 = .ok (.invokestatic 105, 3) := by decide +kernel
theorem d_Db_note_29 : decode prog_4_method_3_code 29 = .ok (.aload_n 0, 1) := by decide +kernel
theorem d_Db_note_30 : decode prog_4_method_3_code 30 = .ok (.getfield 27, 3) := by decide +kernel
theorem d_Db_note_33 : decode prog_4_method_3_code 33 = .ok (.iload 5, 2) := by decide +kernel
theorem d_Db_note_35 : decode prog_4_method_3_code 35 = .ok (.laload, 1) := by decide +kernel
theorem d_Db_note_36 : decode prog_4_method_3_code 36 = .ok (.lload_n 1, 1) := by decide +kernel
theorem d_Db_note_37 : decode prog_4_method_3_code 37 = .ok (.land, 1) := by decide +kernel
theorem d_Db_note_38 : decode prog_4_method_3_code 38 = .ok (.invokestatic 105, 3) := by decide +kernel
theorem d_Db_note_41 : decode prog_4_method_3_code 41 = .ok (.iadd, 1) := by decide +kernel
theorem d_Db_note_42 : decode prog_4_method_3_code 42 = .ok (.istore 6, 2) := by decide +kernel
theorem d_Db_note_44 : decode prog_4_method_3_code 44 = .ok (.iload 4, 2) := by decide +kernel
theorem d_Db_note_46 : decode prog_4_method_3_code 46 = .ok (.iload 6, 2) := by decide +kernel
theorem d_Db_note_48 : decode prog_4_method_3_code 48 = .ok (.iload 5, 2) := by decide +kernel
theorem d_Db_note_50 : decode prog_4_method_3_code 50 = .ok (.ishl, 1) := by decide +kernel
theorem d_Db_note_51 : decode prog_4_method_3_code 51 = .ok (.iadd, 1) := by decide +kernel
theorem d_Db_note_52 : decode prog_4_method_3_code 52 = .ok (.istore 4, 2) := by decide +kernel
theorem d_Db_note_54 : decode prog_4_method_3_code 54 = .ok (.iinc 5 1, 3) := by decide +kernel
theorem d_Db_note_57 : decode prog_4_method_3_code 57 = .ok (.goto (-51), 3) := by decide +kernel
theorem d_Db_note_60 : decode prog_4_method_3_code 60 = .ok (.iload 4, 2) := by decide +kernel
theorem d_Db_note_62 : decode prog_4_method_3_code 62 = .ok (.bipush 60, 2) := by decide +kernel
theorem d_Db_note_64 : decode prog_4_method_3_code 64 = .ok (.if_icmp .le 4, 3) := by decide +kernel
theorem d_Db_note_67 : decode prog_4_method_3_code 67 = .ok (.return_, 1) := by decide +kernel
theorem d_Db_note_68 : decode prog_4_method_3_code 68 = .ok (.aload_n 0, 1) := by decide +kernel
theorem d_Db_note_69 : decode prog_4_method_3_code 69 = .ok (.getfield 32, 3) := by decide +kernel
theorem d_Db_note_72 : decode prog_4_method_3_code 72 = .ok (.iload 4, 2) := by decide +kernel
theorem d_Db_note_74 : decode prog_4_method_3_code 74 = .ok (.dup2, 1) := by decide +kernel
theorem d_Db_note_75 : decode prog_4_method_3_code 75 = .ok (.iaload, 1) := by decide +kernel
theorem d_Db_note_76 : decode prog_4_method_3_code 76 = .ok (.iload_n 3, 1) := by decide +kernel
theorem d_Db_note_77 : decode prog_4_method_3_code 77 = .ok (.iadd, 1) := by decide +kernel
theorem d_Db_note_78 : decode prog_4_method_3_code 78 = .ok (.iastore, 1) := by decide +kernel
theorem d_Db_note_79 : decode prog_4_method_3_code 79 = .ok (.iload 4, 2) := by decide +kernel
theorem d_Db_note_81 : decode prog_4_method_3_code 81 = .ok (.aload_n 0, 1) := by decide +kernel
theorem d_Db_note_82 : decode prog_4_method_3_code 82 = .ok (.getfield 77, 3) := by decide +kernel
theorem d_Db_note_85 : decode prog_4_method_3_code 85 = .ok (.if_icmp .ge 21, 3) := by decide +kernel
theorem d_Db_note_88 : decode prog_4_method_3_code 88 = .ok (.aload_n 0, 1) := by decide +kernel
theorem d_Db_note_89 : decode prog_4_method_3_code 89 = .ok (.iload 4, 2) := by decide +kernel
theorem d_Db_note_91 : decode prog_4_method_3_code 91 = .ok (.putfield 77, 3) := by decide +kernel
theorem d_Db_note_94 : decode prog_4_method_3_code 94 = .ok (.aload_n 0, 1) := by decide +kernel
theorem d_Db_note_95 : decode prog_4_method_3_code 95 = .ok (.lconst 0, 1) := by decide +kernel
theorem d_Db_note_96 : decode prog_4_method_3_code 96 = .ok (.putfield 80, 3) := by decide +kernel
theorem d_Db_note_99 : decode prog_4_method_3_code 99 = .ok (.aload_n 0, 1) := by decide +kernel
theorem d_Db_note_100 : decode prog_4_method_3_code 100 = .ok (.ldc2_w 84, 3) := by decide +kernel
theorem d_Db_note_103 : decode prog_4_method_3_code 103 = .ok (.putfield 86, 3) := by decide +kernel
theorem d_Db_note_106 : decode prog_4_method_3_code 106 = .ok (.iload 4, 2) := by decide +kernel
theorem d_Db_note_108 : decode prog_4_method_3_code 108 = .ok (.aload_n 0, 1) := by decide +kernel
theorem d_Db_note_109 : decode prog_4_method_3_code 109 = .ok (.getfield 77, 3) := by decide +kernel
theorem d_Db_note_112 : decode prog_4_method_3_code 112 = .ok (.if_icmp .ne 23, 3) := by decide +kernel
theorem d_Db_note_115 : decode prog_4_method_3_code 115 = .ok (.aload_n 0, 1) := by decide +kernel
theorem d_Db_note_116 : decode prog_4_method_3_code 116 = .ok (.dup, 1) := by decide +kernel
theorem d_Db_note_117 : decode prog_4_method_3_code 117 = .ok (.getfield 80, 3) := by decide +kernel
theorem d_Db_note_120 : decode prog_4_method_3_code 120 = .ok (.lload_n 1, 1) := by decide +kernel
theorem d_Db_note_121 : decode prog_4_method_3_code 121 = .ok (.lor, 1) := by decide +kernel
theorem d_Db_note_122 : decode prog_4_method_3_code 122 = .ok (.putfield 80, 3) := by decide +kernel
theorem d_Db_note_125 : decode prog_4_method_3_code 125 = .ok (.aload_n 0, 1) := by decide +kernel
theorem d_Db_note_126 : decode prog_4_method_3_code 126 = .ok (.dup, 1) := by decide +kernel
theorem d_Db_note_127 : decode prog_4_method_3_code 127 = .ok (.getfield 86, 3) := by decide +kernel
theorem d_Db_note_130 : decode prog_4_method_3_code 130 = .ok (.lload_n 1, 1) := by decide +kernel
theorem d_Db_note_131 : decode prog_4_method_3_code 131 = .ok (.land, 1) := by decide +kernel
theorem d_Db_note_132 : decode prog_4_method_3_code 132 = .ok (.putfield 86, 3) := by decide +kernel
theorem d_Db_note_135 : decode prog_4_method_3_code 135 = .ok (.return_, 1) := by decide +kernel
abbrev S_Db_note : Type := Nat × Nat × Int64 × Int32 × Int32 × Int32 × AM
noncomputable def T_Db_note_0 (v0R : Nat) (v1J : Int64) (v3I : Int32) (σ : AM) : S_Db_note ⊕ Option (Unit × AM) :=
  .inl (1, v0R, v1J, v3I, (0 : Int32), (0 : Int32), σ)
noncomputable def T_Db_note_1 (v0R : Nat) (v1J : Int64) (v3I : Int32) (v4I : Int32) (v5I : Int32) (σ : AM) : S_Db_note ⊕ Option (Unit × AM) :=
  if v5I < (6 : Int32) then (gdT (okO σ v0R 9) <| gdT (okO σ (aR σ v0R 3) 102) <| gdT (inB v5I (aN σ (aR σ v0R 3))) <| bndT (M_JLong_bitCount ((aL σ (aR σ v0R 3) v5I.toNatClampNeg) &&& (v1J ^^^ ((-1) : Int64))) σ) fun r4 σ5 => gdT (okO σ5 v0R 9) <| gdT (okO σ5 (aR σ5 v0R 4) 102) <| gdT (inB v5I (aN σ5 (aR σ5 v0R 4))) <| bndT (M_JLong_bitCount ((aL σ5 (aR σ5 v0R 4) v5I.toNatClampNeg) &&& v1J) σ5) fun r9 σ10 => letT (r4 + r9) fun x11 => letT (v4I + (x11 <<< (v5I &&& 31))) fun x12 => .inl (1, v0R, v1J, v3I, x12, v5I + (1 : Int32), σ10)) else (if (60 : Int32) < v4I then (.inr (some ((), σ))) else (gdT (okO σ v0R 9) <| gdT (okO σ (aR σ v0R 5) 101) <| gdT (inB v4I (aN σ (aR σ v0R 5))) <| letT (sI σ (aR σ v0R 5) v4I.toNatClampNeg ((aI σ (aR σ v0R 5) v4I.toNatClampNeg) + v3I)) fun σ16 => if v4I < (aI σ16 v0R 7) then (letT (sI σ16 v0R 7 v4I) fun σ18 => letT (sL σ18 v0R 8 (0 : Int64)) fun σ20 => letT (sL σ20 v0R 9 ((-1) : Int64)) fun σ22 => .inl (2, v0R, v1J, 0, v4I, 0, σ22)) else (.inl (2, v0R, v1J, 0, v4I, 0, σ16))))
noncomputable def T_Db_note_2 (v0R : Nat) (v1J : Int64) (v4I : Int32) (σ : AM) : S_Db_note ⊕ Option (Unit × AM) :=
  gdT (okO σ v0R 9) <| if v4I = (aI σ v0R 7) then (letT (sL σ v0R 8 ((aL σ v0R 8) ||| v1J)) fun σ2 => letT (sL σ2 v0R 9 ((aL σ2 v0R 9) &&& v1J)) fun σ4 => .inl (3, 0, 0, 0, 0, 0, σ4)) else (.inl (3, 0, 0, 0, 0, 0, σ))
noncomputable def T_Db_note_3  (σ : AM) : S_Db_note ⊕ Option (Unit × AM) :=
  .inr (some ((), σ))
noncomputable def F_Db_note : S_Db_note → S_Db_note ⊕ Option (Unit × AM) := fun s => match s.1 with
  | 0 => T_Db_note_0 (s.2.1) (s.2.2.1) (s.2.2.2.1) (s.2.2.2.2.2.2)
  | 1 => T_Db_note_1 (s.2.1) (s.2.2.1) (s.2.2.2.1) (s.2.2.2.2.1) (s.2.2.2.2.2.1) (s.2.2.2.2.2.2)
  | 2 => T_Db_note_2 (s.2.1) (s.2.2.1) (s.2.2.2.2.1) (s.2.2.2.2.2.2)
  | _ => T_Db_note_3  (s.2.2.2.2.2.2)
noncomputable def L_Db_note_0 (v0R : Nat) (v1J : Int64) (v3I : Int32) (σ : AM) : Option (Unit × AM) := lp F_Db_note (0, v0R, v1J, v3I, 0, 0, σ)
noncomputable def L_Db_note_1 (v0R : Nat) (v1J : Int64) (v3I : Int32) (v4I : Int32) (v5I : Int32) (σ : AM) : Option (Unit × AM) := lp F_Db_note (1, v0R, v1J, v3I, v4I, v5I, σ)
noncomputable def L_Db_note_2 (v0R : Nat) (v1J : Int64) (v4I : Int32) (σ : AM) : Option (Unit × AM) := lp F_Db_note (2, v0R, v1J, 0, v4I, 0, σ)
noncomputable def L_Db_note_3  (σ : AM) : Option (Unit × AM) := lp F_Db_note (3, 0, 0, 0, 0, 0, σ)
set_option maxRecDepth 20000 in
theorem E_Db_note_0 (v0R : Nat) (v1J : Int64) (v3I : Int32) (σ : AM) : L_Db_note_0 v0R v1J v3I σ = (L_Db_note_1 v0R v1J v3I ((0 : Int32)) ((0 : Int32)) σ) := by
  unfold L_Db_note_0
  rw [lp_eq]
  show lpK (lp F_Db_note) (T_Db_note_0 v0R v1J v3I σ) = _
  unfold T_Db_note_0
  simp only [lpK_ite, lq_inl, lq_inr, lpK_bnd, lpK_gd, lq_let]
  try rfl
set_option maxRecDepth 20000 in
theorem E_Db_note_1 (v0R : Nat) (v1J : Int64) (v3I : Int32) (v4I : Int32) (v5I : Int32) (σ : AM) : L_Db_note_1 v0R v1J v3I v4I v5I σ = (if v5I < (6 : Int32) then (gd (okO σ v0R 9) <| gd (okO σ (aR σ v0R 3) 102) <| gd (inB v5I (aN σ (aR σ v0R 3))) <| bnd (M_JLong_bitCount ((aL σ (aR σ v0R 3) v5I.toNatClampNeg) &&& (v1J ^^^ ((-1) : Int64))) σ) fun r4 σ5 => gd (okO σ5 v0R 9) <| gd (okO σ5 (aR σ5 v0R 4) 102) <| gd (inB v5I (aN σ5 (aR σ5 v0R 4))) <| bnd (M_JLong_bitCount ((aL σ5 (aR σ5 v0R 4) v5I.toNatClampNeg) &&& v1J) σ5) fun r9 σ10 => letT (r4 + r9) fun x11 => letT (v4I + (x11 <<< (v5I &&& 31))) fun x12 => L_Db_note_1 v0R v1J v3I x12 (v5I + (1 : Int32)) σ10) else (if (60 : Int32) < v4I then ((some ((), σ))) else (gd (okO σ v0R 9) <| gd (okO σ (aR σ v0R 5) 101) <| gd (inB v4I (aN σ (aR σ v0R 5))) <| letT (sI σ (aR σ v0R 5) v4I.toNatClampNeg ((aI σ (aR σ v0R 5) v4I.toNatClampNeg) + v3I)) fun σ16 => if v4I < (aI σ16 v0R 7) then (letT (sI σ16 v0R 7 v4I) fun σ18 => letT (sL σ18 v0R 8 (0 : Int64)) fun σ20 => letT (sL σ20 v0R 9 ((-1) : Int64)) fun σ22 => L_Db_note_2 v0R v1J v4I σ22) else (L_Db_note_2 v0R v1J v4I σ16)))) := by
  unfold L_Db_note_1
  rw [lp_eq]
  show lpK (lp F_Db_note) (T_Db_note_1 v0R v1J v3I v4I v5I σ) = _
  unfold T_Db_note_1
  simp only [lpK_ite, lq_inl, lq_inr, lpK_bnd, lpK_gd, lq_let]
  try rfl
set_option maxRecDepth 20000 in
theorem E_Db_note_2 (v0R : Nat) (v1J : Int64) (v4I : Int32) (σ : AM) : L_Db_note_2 v0R v1J v4I σ = (gd (okO σ v0R 9) <| if v4I = (aI σ v0R 7) then (letT (sL σ v0R 8 ((aL σ v0R 8) ||| v1J)) fun σ2 => letT (sL σ2 v0R 9 ((aL σ2 v0R 9) &&& v1J)) fun σ4 => L_Db_note_3 σ4) else (L_Db_note_3 σ)) := by
  unfold L_Db_note_2
  rw [lp_eq]
  show lpK (lp F_Db_note) (T_Db_note_2 v0R v1J v4I σ) = _
  unfold T_Db_note_2
  simp only [lpK_ite, lq_inl, lq_inr, lpK_bnd, lpK_gd, lq_let]
  try rfl
set_option maxRecDepth 20000 in
theorem E_Db_note_3  (σ : AM) : L_Db_note_3  σ = ((some ((), σ))) := by
  unfold L_Db_note_3
  rw [lp_eq]
  show lpK (lp F_Db_note) (T_Db_note_3  σ) = _
  unfold T_Db_note_3
  simp only [lpK_ite, lq_inl, lq_inr, lpK_bnd, lpK_gd, lq_let]
  try rfl
noncomputable def M_Db_note (v0R : Nat) (v1J : Int64) (v3I : Int32) (σ : AM) : Option (Unit × AM) := mw σ (L_Db_note_0 v0R v1J v3I σ)
def I_Db_note (G : GX) (p : Program) (l : Launch) (e : Env) (s : State) (m : MethodId) (args : Array Value) (below : List Frame) (meth : Method) (c : Code) (z0 u0 n : Nat) : Prop :=
  (∀ (v0R : Nat) (v1J : Int64) (v3I : Int32) (σ : AM), VX (QM eV G args s below z0 u0) G p l e s m args below meth c 1 z0 u0 7 (lpn F_Db_note n (0, v0R, v1J, v3I, 0, 0, σ)) 0 [(0, .ref v0R), (1, .long v1J), (3, .int v3I)] [] σ) ∧
  (∀ (v0R : Nat) (v1J : Int64) (v3I : Int32) (v4I : Int32) (v5I : Int32) (σ : AM), VX (QM eV G args s below z0 u0) G p l e s m args below meth c 1 z0 u0 7 (lpn F_Db_note n (1, v0R, v1J, v3I, v4I, v5I, σ)) 6 [(0, .ref v0R), (1, .long v1J), (3, .int v3I), (4, .int v4I), (5, .int v5I)] [] σ) ∧
  (∀ (v0R : Nat) (v1J : Int64) (v4I : Int32) (σ : AM), VX (QM eV G args s below z0 u0) G p l e s m args below meth c 1 z0 u0 7 (lpn F_Db_note n (2, v0R, v1J, 0, v4I, 0, σ)) 106 [(0, .ref v0R), (1, .long v1J), (4, .int v4I)] [] σ) ∧
  (∀ (σ : AM), VX (QM eV G args s below z0 u0) G p l e s m args below meth c 1 z0 u0 7 (lpn F_Db_note n (3, 0, 0, 0, 0, 0, σ)) 135 [] [] σ)
set_option maxRecDepth 20000 in
theorem s_Db_note_0 {G : GX} {p : Program} {l : Launch} {e : Env} {s : State} {m : MethodId} {args : Array Value} {below : List Frame} {meth : Method} {c : Code} {z0 u0 n : Nat} (C : Cx G p s m args meth c prog_4_method_3_code 7 "BellPlate$Doubt" ((none))) (IH : I_Db_note G p l e s m args below meth c z0 u0 n) (v0R : Nat) (v1J : Int64) (v3I : Int32) (σ : AM) : VX (QM eV G args s below z0 u0) G p l e s m args below meth c 1 z0 u0 7 (lpK (lpn F_Db_note n) (T_Db_note_0 v0R v1J v3I σ)) 0 [(0, .ref v0R), (1, .long v1J), (3, .int v3I)] [] σ := by
  unfold T_Db_note_0
  refine x_iconst (v := (0 : Int32)) C d_Db_note_0 (by decide) ?_
  refine x_istore (lv' := [(4, .int (0 : Int32)), (0, .ref v0R), (1, .long v1J), (3, .int v3I)]) C d_Db_note_1 (by decide) rfl ?_
  refine x_iconst (v := (0 : Int32)) C d_Db_note_3 (by decide) ?_
  refine x_istore (lv' := [(5, .int (0 : Int32)), (4, .int (0 : Int32)), (0, .ref v0R), (1, .long v1J), (3, .int v3I)]) C d_Db_note_4 (by decide) rfl ?_
  refine x_lv [2, 3, 4, 1, 0] rfl ?_
  exact IH.2.1 v0R v1J v3I ((0 : Int32)) ((0 : Int32)) (σ)
set_option maxRecDepth 20000 in
theorem s_Db_note_1 {G : GX} {p : Program} {l : Launch} {e : Env} {s : State} {m : MethodId} {args : Array Value} {below : List Frame} {meth : Method} {c : Code} {z0 u0 n : Nat} (C : Cx G p s m args meth c prog_4_method_3_code 7 "BellPlate$Doubt" ((none))) (IH : I_Db_note G p l e s m args below meth c z0 u0 n) (v0R : Nat) (v1J : Int64) (v3I : Int32) (v4I : Int32) (v5I : Int32) (σ : AM) : VX (QM eV G args s below z0 u0) G p l e s m args below meth c 1 z0 u0 7 (lpK (lpn F_Db_note n) (T_Db_note_1 v0R v1J v3I v4I v5I σ)) 6 [(0, .ref v0R), (1, .long v1J), (3, .int v3I), (4, .int v4I), (5, .int v5I)] [] σ := by
  unfold T_Db_note_1
  refine x_iload C d_Db_note_6 4 rfl ?_
  refine x_bipush (v := (6 : Int32)) C d_Db_note_8 (by decide) ?_
  refine x_icmp_ge (tgt := 60) C d_Db_note_10 (by decide) (fun _ => ?_) (fun _ => ?_)
  · refine x_aload_n C d_Db_note_13 0 rfl ?_
    refine x_gd (fun h1 => ?_)
    refine x_gd (fun h2 => ?_)
    refine x_getR (k := 3) (kv := 102) C (okO_iff.mp h1) rfl j8_ok (by decide) rfl (okO_iff.mp h2) (by decide) w539 d_Db_note_14 ?_
    refine x_iload C d_Db_note_17 4 rfl ?_
    refine x_gd (fun h3 => ?_)
    refine x_aldJ C (okO_iff.mp h2) (inB_iff.mp h3) d_Db_note_19 ?_
    refine x_lload_n C d_Db_note_20 1 rfl ?_
    refine x_ldc2 C d_Db_note_21 w1418 ?_
    refine x_lxor C d_Db_note_24 ?_
    refine x_land C d_Db_note_25 ?_
    refine x_callSI (As := [.long ((aL σ (aR σ v0R 3) v5I.toNatClampNeg) &&& (v1J ^^^ ((-1) : Int64)))]) C (c_JLong_bitCount G l ((aL σ (aR σ v0R 3) v5I.toNatClampNeg) &&& (v1J ^^^ ((-1) : Int64))) σ) w1066 w1426 w1067 w142 k_JLong_bitCount rfl (by decide) (by decide) rfl (Nat.le_of_ble_eq_true rfl) d_Db_note_26 (fun r4 σ5 => ?_)
    refine x_aload_n C d_Db_note_29 0 rfl ?_
    refine x_gd (fun h6 => ?_)
    refine x_gd (fun h7 => ?_)
    refine x_getR (k := 4) (kv := 102) C (okO_iff.mp h6) rfl j8_ok (by decide) rfl (okO_iff.mp h7) (by decide) w540 d_Db_note_30 ?_
    refine x_iload C d_Db_note_33 4 rfl ?_
    refine x_gd (fun h8 => ?_)
    refine x_aldJ C (okO_iff.mp h7) (inB_iff.mp h8) d_Db_note_35 ?_
    refine x_lload_n C d_Db_note_36 1 rfl ?_
    refine x_land C d_Db_note_37 ?_
    refine x_callSI (As := [.long ((aL σ5 (aR σ5 v0R 4) v5I.toNatClampNeg) &&& v1J)]) C (c_JLong_bitCount G l ((aL σ5 (aR σ5 v0R 4) v5I.toNatClampNeg) &&& v1J) σ5) w1066 w1426 w1067 w142 k_JLong_bitCount rfl (by decide) (by decide) rfl (Nat.le_of_ble_eq_true rfl) d_Db_note_38 (fun r9 σ10 => ?_)
    refine x_iadd C d_Db_note_41 ?_
    refine x_letI (fun x11 _ => ?_)
    refine x_istore (lv' := [(6, .int x11), (0, .ref v0R), (1, .long v1J), (3, .int v3I), (4, .int v4I), (5, .int v5I)]) C d_Db_note_42 (by decide) rfl ?_
    refine x_iload C d_Db_note_44 4 rfl ?_
    refine x_iload C d_Db_note_46 0 rfl ?_
    refine x_iload C d_Db_note_48 5 rfl ?_
    refine x_ishl C d_Db_note_50 ?_
    refine x_iadd C d_Db_note_51 ?_
    refine x_letI (fun x12 _ => ?_)
    refine x_istore (lv' := [(4, .int x12), (6, .int x11), (0, .ref v0R), (1, .long v1J), (3, .int v3I), (5, .int v5I)]) C d_Db_note_52 (by decide) rfl ?_
    refine x_iinc (v := v5I + (1 : Int32)) (lv' := [(5, .int (v5I + (1 : Int32))), (4, .int x12), (6, .int x11), (0, .ref v0R), (1, .long v1J), (3, .int v3I)]) C d_Db_note_54 5 rfl rfl (by decide) rfl ?_
    refine x_goto (tgt := 6) C d_Db_note_57 (by decide) ?_
    refine x_lv [3, 4, 5, 1, 0] rfl ?_
    exact IH.2.1 v0R v1J v3I x12 (v5I + (1 : Int32)) (σ10)
  · refine x_iload C d_Db_note_60 3 rfl ?_
    refine x_bipush (v := (60 : Int32)) C d_Db_note_62 (by decide) ?_
    refine x_icmp_le (tgt := 68) C d_Db_note_64 (by decide) (fun _ => ?_) (fun _ => ?_)
    · exact x_vret C d_Db_note_67
    · refine x_aload_n C d_Db_note_68 0 rfl ?_
      refine x_gd (fun h13 => ?_)
      refine x_gd (fun h14 => ?_)
      refine x_getR (k := 5) (kv := 101) C (okO_iff.mp h13) rfl j8_ok (by decide) rfl (okO_iff.mp h14) (by decide) w541 d_Db_note_69 ?_
      refine x_iload C d_Db_note_72 3 rfl ?_
      refine x_dup2 C d_Db_note_74 rfl rfl ?_
      refine x_gd (fun h15 => ?_)
      refine x_aldI C (okO_iff.mp h14) (inB_iff.mp h15) d_Db_note_75 ?_
      refine x_iload_n C d_Db_note_76 2 rfl ?_
      refine x_iadd C d_Db_note_77 ?_
      refine x_astI C (okO_iff.mp h14) (inB_iff.mp h15) d_Db_note_78 ?_
      refine x_letS (fun σ16 e17 => ?_)
      refine x_iload C d_Db_note_79 3 rfl ?_
      refine x_aload_n C d_Db_note_81 0 rfl ?_
      refine x_getI (k := 7) C (by first | exact (okO_iff.mp h13) | (rw [e17]; exact (okO_iff.mp h13))) rfl j8_ok (by decide) rfl w543 d_Db_note_82 ?_
      refine x_icmp_ge (tgt := 106) C d_Db_note_85 (by decide) (fun _ => ?_) (fun _ => ?_)
      · refine x_aload_n C d_Db_note_88 0 rfl ?_
        refine x_iload C d_Db_note_89 3 rfl ?_
        refine x_putI (k := 7) C (by first | exact (okO_iff.mp h13) | (rw [e17]; exact (okO_iff.mp h13))) rfl j8_ok y8_ok n8_ok (by decide) rfl rfl rfl rfl w543 d_Db_note_91 ?_
        refine x_letS (fun σ18 e19 => ?_)
        refine x_aload_n C d_Db_note_94 0 rfl ?_
        refine x_lconst (v := (0 : Int64)) C d_Db_note_95 (by decide) ?_
        refine x_putJ (k := 8) C (by first | exact (okO_iff.mp h13) | (rw [e19, e17]; exact (okO_iff.mp h13))) rfl j8_ok y8_ok n8_ok (by decide) rfl rfl rfl rfl w544 d_Db_note_96 ?_
        refine x_letS (fun σ20 e21 => ?_)
        refine x_aload_n C d_Db_note_99 0 rfl ?_
        refine x_ldc2 C d_Db_note_100 w1418 ?_
        refine x_putJ (k := 9) C (by first | exact (okO_iff.mp h13) | (rw [e21, e19, e17]; exact (okO_iff.mp h13))) rfl j8_ok y8_ok n8_ok (by decide) rfl rfl rfl rfl w545 d_Db_note_103 ?_
        refine x_letS (fun σ22 e23 => ?_)
        refine x_lv [0, 1, 3] rfl ?_
        exact IH.2.2.1 v0R v1J v4I (σ22)
      · refine x_lv [0, 1, 3] rfl ?_
        exact IH.2.2.1 v0R v1J v4I (σ16)
set_option maxRecDepth 20000 in
theorem s_Db_note_2 {G : GX} {p : Program} {l : Launch} {e : Env} {s : State} {m : MethodId} {args : Array Value} {below : List Frame} {meth : Method} {c : Code} {z0 u0 n : Nat} (C : Cx G p s m args meth c prog_4_method_3_code 7 "BellPlate$Doubt" ((none))) (IH : I_Db_note G p l e s m args below meth c z0 u0 n) (v0R : Nat) (v1J : Int64) (v4I : Int32) (σ : AM) : VX (QM eV G args s below z0 u0) G p l e s m args below meth c 1 z0 u0 7 (lpK (lpn F_Db_note n) (T_Db_note_2 v0R v1J v4I σ)) 106 [(0, .ref v0R), (1, .long v1J), (4, .int v4I)] [] σ := by
  unfold T_Db_note_2
  refine x_iload C d_Db_note_106 2 rfl ?_
  refine x_aload_n C d_Db_note_108 0 rfl ?_
  refine x_gd (fun h1 => ?_)
  refine x_getI (k := 7) C (okO_iff.mp h1) rfl j8_ok (by decide) rfl w543 d_Db_note_109 ?_
  refine x_icmp_ne (tgt := 135) C d_Db_note_112 (by decide) (fun _ => ?_) (fun _ => ?_)
  · refine x_aload_n C d_Db_note_115 0 rfl ?_
    refine x_dup C d_Db_note_116 rfl ?_
    refine x_getJ (k := 8) C (okO_iff.mp h1) rfl j8_ok (by decide) rfl w544 d_Db_note_117 ?_
    refine x_lload_n C d_Db_note_120 1 rfl ?_
    refine x_lor C d_Db_note_121 ?_
    refine x_putJ (k := 8) C (okO_iff.mp h1) rfl j8_ok y8_ok n8_ok (by decide) rfl rfl rfl rfl w544 d_Db_note_122 ?_
    refine x_letS (fun σ2 e3 => ?_)
    refine x_aload_n C d_Db_note_125 0 rfl ?_
    refine x_dup C d_Db_note_126 rfl ?_
    refine x_getJ (k := 9) C (by first | exact (okO_iff.mp h1) | (rw [e3]; exact (okO_iff.mp h1))) rfl j8_ok (by decide) rfl w545 d_Db_note_127 ?_
    refine x_lload_n C d_Db_note_130 1 rfl ?_
    refine x_land C d_Db_note_131 ?_
    refine x_putJ (k := 9) C (by first | exact (okO_iff.mp h1) | (rw [e3]; exact (okO_iff.mp h1))) rfl j8_ok y8_ok n8_ok (by decide) rfl rfl rfl rfl w545 d_Db_note_132 ?_
    refine x_letS (fun σ4 e5 => ?_)
    refine x_lv [] rfl ?_
    exact IH.2.2.2  (σ4)
  · refine x_lv [] rfl ?_
    exact IH.2.2.2  (σ)
set_option maxRecDepth 20000 in
theorem s_Db_note_3 {G : GX} {p : Program} {l : Launch} {e : Env} {s : State} {m : MethodId} {args : Array Value} {below : List Frame} {meth : Method} {c : Code} {z0 u0 n : Nat} (C : Cx G p s m args meth c prog_4_method_3_code 7 "BellPlate$Doubt" ((none))) (IH : I_Db_note G p l e s m args below meth c z0 u0 n)  (σ : AM) : VX (QM eV G args s below z0 u0) G p l e s m args below meth c 1 z0 u0 7 (lpK (lpn F_Db_note n) (T_Db_note_3  σ)) 135 [] [] σ := by
  unfold T_Db_note_3
  exact x_vret C d_Db_note_135
theorem i_Db_note {G : GX} {p : Program} {l : Launch} {e : Env} {s : State} {m : MethodId} {args : Array Value} {below : List Frame} {meth : Method} {c : Code} {z0 u0 : Nat} (C : Cx G p s m args meth c prog_4_method_3_code 7 "BellPlate$Doubt" ((none))) (n : Nat) : I_Db_note G p l e s m args below meth c z0 u0 n := by
  induction n with
  | zero => exact ⟨fun _ _ _ _ => x_none, fun _ _ _ _ _ _ => x_none, fun _ _ _ _ => x_none, fun _ => x_none⟩
  | succ n IH => exact ⟨fun v0R v1J v3I σ => s_Db_note_0 C IH v0R v1J v3I σ, fun v0R v1J v3I v4I v5I σ => s_Db_note_1 C IH v0R v1J v3I v4I v5I σ, fun v0R v1J v4I σ => s_Db_note_2 C IH v0R v1J v4I σ, fun σ => s_Db_note_3 C IH σ⟩
theorem c_Db_note (G : GX) (l : Launch) (v0R : Nat) (v1J : Int64) (v3I : Int32) (σ : AM) : CT eV G l 1 y_Db_note prog_4_method_3_code 7 (none) [.ref v0R, .long v1J, .int v3I] σ (M_Db_note v0R v1J v3I σ) := by
  refine ct_of (by decide +kernel) (Nat.le_of_ble_eq_true rfl) (fun p e s m args below meth c C hin => ?_)
  refine x_lve (lv' := [(0, .ref v0R), (1, .long v1J), (3, .int v3I)]) rfl ?_
  intro r σ' h
  obtain ⟨n, hn⟩ := (lp_iff _ _ _).mp h
  exact (i_Db_note C n).1 v0R v1J v3I σ r σ' hn
/-! BellPlate$Doubt.refresh()V -/
abbrev y_Db_refresh : MethodName := ⟨"BellPlate$Doubt", "refresh", "()V"⟩
theorem k_Db_refresh : y_Db_refresh.cls ≠ "java/lang/invoke/MethodHandle" ∧ y_Db_refresh.cls ≠ "java/lang/invoke/VarHandle" ∧ (parseMethodDescriptor y_Db_refresh.desc).map (fun d => d.parameters.length) = some 0 := by decide +kernel
theorem d_Db_refresh_0 : decode prog_4_method_2_code 0 = .ok (.aload_n 0, 1) := by decide +kernel
theorem d_Db_refresh_1 : decode prog_4_method_2_code 1 = .ok (.getfield 41, 3) := by decide +kernel
theorem d_Db_refresh_4 : decode prog_4_method_2_code 4 = .ok (.aload_n 0, 1) := by decide +kernel
theorem d_Db_refresh_5 : decode prog_4_method_2_code 5 = .ok (.getfield 19, 3) := by decide +kernel
theorem d_Db_refresh_8 : decode prog_4_method_2_code 8 = .ok (.invokevirtual 48, 3) := by decide +kernel
theorem d_Db_refresh_11 : decode prog_4_method_2_code 11 = .ok (.if_icmp .ne 4, 3) := by decide +kernel
theorem d_Db_refresh_14 : decode prog_4_method_2_code 14 = .ok (.return_, 1) := by decide +kernel
theorem d_Db_refresh_15 : decode prog_4_method_2_code 15 = .ok (.aload_n 0, 1) := by decide +kernel
theorem d_Db_refresh_16 : decode prog_4_method_2_code 16 = .ok (.aload_n 0, 1) := by decide +kernel
theorem d_Db_refresh_17 : decode prog_4_method_2_code 17 = .ok (.getfield 19, 3) := by decide +kernel
theorem d_Db_refresh_20 : decode prog_4_method_2_code 20 = .ok (.invokevirtual 48, 3) := by decide +kernel
theorem d_Db_refresh_23 : decode prog_4_method_2_code 23 = .ok (.putfield 41, 3) := by decide +kernel
theorem d_Db_refresh_26 : decode prog_4_method_2_code 26 = .ok (.aload_n 0, 1) := by decide +kernel
theorem d_Db_refresh_27 : decode prog_4_method_2_code 27 = .ok (.getfield 23, 3) := by decide +kernel
theorem d_Db_refresh_30 : decode prog_4_method_2_code 30 = .ok (.lconst 0, 1) := by decide +kernel
theorem d_Db_refresh_31 : decode prog_4_method_2_code 31 = .ok (.invokestatic 51, 3) := by decide +kernel
theorem d_Db_refresh_34 : decode prog_4_method_2_code 34 = .ok (.aload_n 0, 1) := by decide +kernel
theorem d_Db_refresh_35 : decode prog_4_method_2_code 35 = .ok (.getfield 27, 3) := by decide +kernel
theorem d_Db_refresh_38 : decode prog_4_method_2_code 38 = .ok (.lconst 0, 1) := by decide +kernel
theorem d_Db_refresh_39 : decode prog_4_method_2_code 39 = .ok (.invokestatic 51, 3) := by decide +kernel
theorem d_Db_refresh_42 : decode prog_4_method_2_code 42 = .ok (.iconst 0, 1) := by decide +kernel
theorem d_Db_refresh_43 : decode prog_4_method_2_code 43 = .ok (.istore_n 1, 1) := by decide +kernel
theorem d_Db_refresh_44 : decode prog_4_method_2_code 44 = .ok (.iload_n 1, 1) := by decide +kernel
theorem d_Db_refresh_45 : decode prog_4_method_2_code 45 = .ok (.aload_n 0, 1) := by decide +kernel
theorem d_Db_refresh_46 : decode prog_4_method_2_code 46 = .ok (.getfield 19, 3) := by decide +kernel
theorem d_Db_refresh_49 : decode prog_4_method_2_code 49 = .ok (.invokevirtual 57, 3) := by decide +kernel
theorem d_Db_refresh_52 : decode prog_4_method_2_code 52 = .ok (.if_icmp .ge 45, 3) := by decide +kernel
theorem d_Db_refresh_55 : decode prog_4_method_2_code 55 = .ok (.aload_n 0, 1) := by decide +kernel
theorem d_Db_refresh_56 : decode prog_4_method_2_code 56 = .ok (.getfield 19, 3) := by decide +kernel
theorem d_Db_refresh_59 : decode prog_4_method_2_code 59 = .ok (.iload_n 1, 1) := by decide +kernel
theorem d_Db_refresh_60 : decode prog_4_method_2_code 60 = .ok (.invokevirtual 60, 3) := by decide +kernel
theorem d_Db_refresh_63 : decode prog_4_method_2_code 63 = .ok (.ifCond .eq 10, 3) := by decide +kernel
theorem d_Db_refresh_66 : decode prog_4_method_2_code 66 = .ok (.aload_n 0, 1) := by decide +kernel
theorem d_Db_refresh_67 : decode prog_4_method_2_code 67 = .ok (.getfield 23, 3) := by decide +kernel
theorem d_Db_refresh_70 : decode prog_4_method_2_code 70 = .ok (.goto 7, 3) := by decide +kernel
theorem d_Db_refresh_73 : decode prog_4_method_2_code 73 = .ok (.aload_n 0, 1) := by decide +kernel
theorem d_Db_refresh_74 : decode prog_4_method_2_code 74 = .ok (.getfield 27, 3) := by decide +kernel
theorem d_Db_refresh_77 : decode prog_4_method_2_code 77 = .ok (.lconst 1, 1) := by decide +kernel
theorem d_Db_refresh_78 : decode prog_4_method_2_code 78 = .ok (.aload_n 0, 1) := by decide +kernel
theorem d_Db_refresh_79 : decode prog_4_method_2_code 79 = .ok (.getfield 19, 3) := by decide +kernel
theorem d_Db_refresh_82 : decode prog_4_method_2_code 82 = .ok (.iload_n 1, 1) := by decide +kernel
theorem d_Db_refresh_83 : decode prog_4_method_2_code 83 = .ok (.invokevirtual 64, 3) := by decide +kernel
theorem d_Db_refresh_86 : decode prog_4_method_2_code 86 = .ok (.lshl, 1) := by decide +kernel
theorem d_Db_refresh_87 : decode prog_4_method_2_code 87 = .ok (.iconst 0, 1) := by decide +kernel
theorem d_Db_refresh_88 : decode prog_4_method_2_code 88 = .ok (.invokestatic 68, 3) := by decide +kernel
theorem d_Db_refresh_91 : decode prog_4_method_2_code 91 = .ok (.iinc 1 1, 3) := by decide +kernel
theorem d_Db_refresh_94 : decode prog_4_method_2_code 94 = .ok (.goto (-50), 3) := by decide +kernel
theorem d_Db_refresh_97 : decode prog_4_method_2_code 97 = .ok (.aload_n 0, 1) := by decide +kernel
theorem d_Db_refresh_98 : decode prog_4_method_2_code 98 = .ok (.getfield 32, 3) := by decide +kernel
theorem d_Db_refresh_101 : decode prog_4_method_2_code 101 = .ok (.iconst 0, 1) := by decide +kernel
theorem d_Db_refresh_102 : decode prog_4_method_2_code 102 = .ok (.invokestatic 74, 3) := by decide +kernel
theorem d_Db_refresh_105 : decode prog_4_method_2_code 105 = .ok (.aload_n 0, 1) := by decide +kernel
theorem d_Db_refresh_106 : decode prog_4_method_2_code 106 = .ok (.bipush 60, 2) := by decide +kernel
theorem d_Db_refresh_108 : decode prog_4_method_2_code 108 = .ok (.putfield 77, 3) := by decide +kernel
theorem d_Db_refresh_111 : decode prog_4_method_2_code 111 = .ok (.aload_n 0, 1) := by decide +kernel
theorem d_Db_refresh_112 : decode prog_4_method_2_code 112 = .ok (.lconst 0, 1) := by decide +kernel
theorem d_Db_refresh_113 : decode prog_4_method_2_code 113 = .ok (.putfield 80, 3) := by decide +kernel
theorem d_Db_refresh_116 : decode prog_4_method_2_code 116 = .ok (.aload_n 0, 1) := by decide +kernel
theorem d_Db_refresh_117 : decode prog_4_method_2_code 117 = .ok (.ldc2_w 84, 3) := by decide +kernel
theorem d_Db_refresh_120 : decode prog_4_method_2_code 120 = .ok (.putfield 86, 3) := by decide +kernel
theorem d_Db_refresh_123 : decode prog_4_method_2_code 123 = .ok (.iconst 0, 1) := by decide +kernel
theorem d_Db_refresh_124 : decode prog_4_method_2_code 124 = .ok (.istore_n 1, 1) := by decide +kernel
theorem d_Db_refresh_125 : decode prog_4_method_2_code 125 = .ok (.iload_n 1, 1) := by decide +kernel
theorem d_Db_refresh_126 : decode prog_4_method_2_code 126 = .ok (.aload_n 0, 1) := by decide +kernel
theorem d_Db_refresh_127 : decode prog_4_method_2_code 127 = .ok (.getfield 15, 3) := by decide +kernel
theorem d_Db_refresh_130 : decode prog_4_method_2_code 130 = .ok (.invokevirtual 89, 3) := by decide +kernel
theorem d_Db_refresh_133 : decode prog_4_method_2_code 133 = .ok (.if_icmp .ge 29, 3) := by decide +kernel
theorem d_Db_refresh_136 : decode prog_4_method_2_code 136 = .ok (.aload_n 0, 1) := by decide +kernel
theorem d_Db_refresh_137 : decode prog_4_method_2_code 137 = .ok (.aload_n 0, 1) := by decide +kernel
theorem d_Db_refresh_138 : decode prog_4_method_2_code 138 = .ok (.getfield 15, 3) := by decide +kernel
theorem d_Db_refresh_141 : decode prog_4_method_2_code 141 = .ok (.iload_n 1, 1) := by decide +kernel
theorem d_Db_refresh_142 : decode prog_4_method_2_code 142 = .ok (.invokevirtual 94, 3) := by decide +kernel
theorem d_Db_refresh_145 : decode prog_4_method_2_code 145 = .ok (.aload_n 0, 1) := by decide +kernel
theorem d_Db_refresh_146 : decode prog_4_method_2_code 146 = .ok (.getfield 15, 3) := by decide +kernel
theorem d_Db_refresh_149 : decode prog_4_method_2_code 149 = .ok (.iload_n 1, 1) := by decide +kernel
theorem d_Db_refresh_150 : decode prog_4_method_2_code 150 = .ok (.invokevirtual 98, 3) := by decide +kernel
theorem d_Db_refresh_153 : decode prog_4_method_2_code 153 = .ok (.invokevirtual 101, 3) := by decide +kernel
theorem d_Db_refresh_156 : decode prog_4_method_2_code 156 = .ok (.iinc 1 1, 3) := by decide +kernel
theorem d_Db_refresh_159 : decode prog_4_method_2_code 159 = .ok (.goto (-34), 3) := by decide +kernel
theorem d_Db_refresh_162 : decode prog_4_method_2_code 162 = .ok (.return_, 1) := by decide +kernel
abbrev S_Db_refresh : Type := Nat × Nat × Int32 × Nat × AM
noncomputable def T_Db_refresh_0 (v0R : Nat) (σ : AM) : S_Db_refresh ⊕ Option (Unit × AM) :=
  gdT (okO σ v0R 9) <| gdT (okO σ (aR σ v0R 2) 4) <| bndT (M_Bk_age (aR σ v0R 2) σ) fun r3 σ4 => if (aI σ v0R 10) = r3 then (.inr (some ((), σ4))) else (gdT (okO σ4 v0R 9) <| gdT (okO σ4 (aR σ4 v0R 2) 4) <| bndT (M_Bk_age (aR σ4 v0R 2) σ4) fun r7 σ8 => gdT (okO σ8 v0R 9) <| letT (sI σ8 v0R 10 r7) fun σ10 => gdT (okO σ10 (aR σ10 v0R 3) 102) <| bndT (M_JArr_fill (aR σ10 v0R 3) (0 : Int64) σ10) fun _ σ14 => gdT (okO σ14 v0R 9) <| gdT (okO σ14 (aR σ14 v0R 4) 102) <| bndT (M_JArr_fill (aR σ14 v0R 4) (0 : Int64) σ14) fun _ σ18 => .inl (1, v0R, (0 : Int32), 0, σ18))
noncomputable def T_Db_refresh_1 (v0R : Nat) (v1I : Int32) (σ : AM) : S_Db_refresh ⊕ Option (Unit × AM) :=
  gdT (okO σ v0R 9) <| gdT (okO σ (aR σ v0R 2) 4) <| bndT (M_Bk_trials (aR σ v0R 2) σ) fun r3 σ4 => if v1I < r3 then (gdT (okO σ4 v0R 9) <| gdT (okO σ4 (aR σ4 v0R 2) 4) <| bndT (M_Bk_rangAt (aR σ4 v0R 2) v1I σ4) fun r7 σ8 => if r7 = 0 then (gdT (okO σ8 v0R 9) <| gdT (okO σ8 (aR σ8 v0R 4) 102) <| .inl (2, v0R, v1I, aR σ8 v0R 4, σ8)) else (gdT (okO σ8 v0R 9) <| gdT (okO σ8 (aR σ8 v0R 3) 102) <| .inl (2, v0R, v1I, aR σ8 v0R 3, σ8))) else (gdT (okO σ4 v0R 9) <| gdT (okO σ4 (aR σ4 v0R 5) 101) <| bndT (M_JArr_fill2 (aR σ4 v0R 5) (0 : Int32) σ4) fun _ σ16 => gdT (okO σ16 v0R 9) <| letT (sI σ16 v0R 7 (60 : Int32)) fun σ18 => letT (sL σ18 v0R 8 (0 : Int64)) fun σ20 => letT (sL σ20 v0R 9 ((-1) : Int64)) fun σ22 => .inl (3, v0R, (0 : Int32), 0, σ22))
noncomputable def T_Db_refresh_2 (v0R : Nat) (v1I : Int32) (s0R : Nat) (σ : AM) : S_Db_refresh ⊕ Option (Unit × AM) :=
  gdT (okO σ v0R 9) <| gdT (okO σ (aR σ v0R 2) 4) <| bndT (M_Bk_setAt (aR σ v0R 2) v1I σ) fun r3 σ4 => bndT (M_St_addTo s0R ((1 : Int64) <<< (r3.toInt64 &&& 63)) (0 : Int32) σ4) fun _ σ6 => .inl (1, v0R, v1I + (1 : Int32), 0, σ6)
noncomputable def T_Db_refresh_3 (v0R : Nat) (v1I : Int32) (σ : AM) : S_Db_refresh ⊕ Option (Unit × AM) :=
  gdT (okO σ v0R 9) <| gdT (okO σ (aR σ v0R 1) 3) <| bndT (M_Ls_size (aR σ v0R 1) σ) fun r3 σ4 => if v1I < r3 then (gdT (okO σ4 v0R 9) <| gdT (okO σ4 (aR σ4 v0R 1) 3) <| bndT (M_Ls_at (aR σ4 v0R 1) v1I σ4) fun r7 σ8 => gdT (okO σ8 v0R 9) <| gdT (okO σ8 (aR σ8 v0R 1) 3) <| bndT (M_Ls_share (aR σ8 v0R 1) v1I σ8) fun r11 σ12 => gdT (okO σ12 v0R 9) <| bndT (M_Db_note v0R r7 r11 σ12) fun _ σ14 => .inl (3, v0R, v1I + (1 : Int32), 0, σ14)) else (.inr (some ((), σ4)))
noncomputable def F_Db_refresh : S_Db_refresh → S_Db_refresh ⊕ Option (Unit × AM) := fun s => match s.1 with
  | 0 => T_Db_refresh_0 (s.2.1) (s.2.2.2.2)
  | 1 => T_Db_refresh_1 (s.2.1) (s.2.2.1) (s.2.2.2.2)
  | 2 => T_Db_refresh_2 (s.2.1) (s.2.2.1) (s.2.2.2.1) (s.2.2.2.2)
  | _ => T_Db_refresh_3 (s.2.1) (s.2.2.1) (s.2.2.2.2)
noncomputable def L_Db_refresh_0 (v0R : Nat) (σ : AM) : Option (Unit × AM) := lp F_Db_refresh (0, v0R, 0, 0, σ)
noncomputable def L_Db_refresh_1 (v0R : Nat) (v1I : Int32) (σ : AM) : Option (Unit × AM) := lp F_Db_refresh (1, v0R, v1I, 0, σ)
noncomputable def L_Db_refresh_2 (v0R : Nat) (v1I : Int32) (s0R : Nat) (σ : AM) : Option (Unit × AM) := lp F_Db_refresh (2, v0R, v1I, s0R, σ)
noncomputable def L_Db_refresh_3 (v0R : Nat) (v1I : Int32) (σ : AM) : Option (Unit × AM) := lp F_Db_refresh (3, v0R, v1I, 0, σ)
set_option maxRecDepth 20000 in
theorem E_Db_refresh_0 (v0R : Nat) (σ : AM) : L_Db_refresh_0 v0R σ = (gd (okO σ v0R 9) <| gd (okO σ (aR σ v0R 2) 4) <| bnd (M_Bk_age (aR σ v0R 2) σ) fun r3 σ4 => if (aI σ v0R 10) = r3 then ((some ((), σ4))) else (gd (okO σ4 v0R 9) <| gd (okO σ4 (aR σ4 v0R 2) 4) <| bnd (M_Bk_age (aR σ4 v0R 2) σ4) fun r7 σ8 => gd (okO σ8 v0R 9) <| letT (sI σ8 v0R 10 r7) fun σ10 => gd (okO σ10 (aR σ10 v0R 3) 102) <| bnd (M_JArr_fill (aR σ10 v0R 3) (0 : Int64) σ10) fun _ σ14 => gd (okO σ14 v0R 9) <| gd (okO σ14 (aR σ14 v0R 4) 102) <| bnd (M_JArr_fill (aR σ14 v0R 4) (0 : Int64) σ14) fun _ σ18 => L_Db_refresh_1 v0R ((0 : Int32)) σ18)) := by
  unfold L_Db_refresh_0
  rw [lp_eq]
  show lpK (lp F_Db_refresh) (T_Db_refresh_0 v0R σ) = _
  unfold T_Db_refresh_0
  simp only [lpK_ite, lq_inl, lq_inr, lpK_bnd, lpK_gd, lq_let]
  try rfl
set_option maxRecDepth 20000 in
theorem E_Db_refresh_1 (v0R : Nat) (v1I : Int32) (σ : AM) : L_Db_refresh_1 v0R v1I σ = (gd (okO σ v0R 9) <| gd (okO σ (aR σ v0R 2) 4) <| bnd (M_Bk_trials (aR σ v0R 2) σ) fun r3 σ4 => if v1I < r3 then (gd (okO σ4 v0R 9) <| gd (okO σ4 (aR σ4 v0R 2) 4) <| bnd (M_Bk_rangAt (aR σ4 v0R 2) v1I σ4) fun r7 σ8 => if r7 = 0 then (gd (okO σ8 v0R 9) <| gd (okO σ8 (aR σ8 v0R 4) 102) <| L_Db_refresh_2 v0R v1I (aR σ8 v0R 4) σ8) else (gd (okO σ8 v0R 9) <| gd (okO σ8 (aR σ8 v0R 3) 102) <| L_Db_refresh_2 v0R v1I (aR σ8 v0R 3) σ8)) else (gd (okO σ4 v0R 9) <| gd (okO σ4 (aR σ4 v0R 5) 101) <| bnd (M_JArr_fill2 (aR σ4 v0R 5) (0 : Int32) σ4) fun _ σ16 => gd (okO σ16 v0R 9) <| letT (sI σ16 v0R 7 (60 : Int32)) fun σ18 => letT (sL σ18 v0R 8 (0 : Int64)) fun σ20 => letT (sL σ20 v0R 9 ((-1) : Int64)) fun σ22 => L_Db_refresh_3 v0R ((0 : Int32)) σ22)) := by
  unfold L_Db_refresh_1
  rw [lp_eq]
  show lpK (lp F_Db_refresh) (T_Db_refresh_1 v0R v1I σ) = _
  unfold T_Db_refresh_1
  simp only [lpK_ite, lq_inl, lq_inr, lpK_bnd, lpK_gd, lq_let]
  try rfl
set_option maxRecDepth 20000 in
theorem E_Db_refresh_2 (v0R : Nat) (v1I : Int32) (s0R : Nat) (σ : AM) : L_Db_refresh_2 v0R v1I s0R σ = (gd (okO σ v0R 9) <| gd (okO σ (aR σ v0R 2) 4) <| bnd (M_Bk_setAt (aR σ v0R 2) v1I σ) fun r3 σ4 => bnd (M_St_addTo s0R ((1 : Int64) <<< (r3.toInt64 &&& 63)) (0 : Int32) σ4) fun _ σ6 => L_Db_refresh_1 v0R (v1I + (1 : Int32)) σ6) := by
  unfold L_Db_refresh_2
  rw [lp_eq]
  show lpK (lp F_Db_refresh) (T_Db_refresh_2 v0R v1I s0R σ) = _
  unfold T_Db_refresh_2
  simp only [lpK_ite, lq_inl, lq_inr, lpK_bnd, lpK_gd, lq_let]
  try rfl
set_option maxRecDepth 20000 in
theorem E_Db_refresh_3 (v0R : Nat) (v1I : Int32) (σ : AM) : L_Db_refresh_3 v0R v1I σ = (gd (okO σ v0R 9) <| gd (okO σ (aR σ v0R 1) 3) <| bnd (M_Ls_size (aR σ v0R 1) σ) fun r3 σ4 => if v1I < r3 then (gd (okO σ4 v0R 9) <| gd (okO σ4 (aR σ4 v0R 1) 3) <| bnd (M_Ls_at (aR σ4 v0R 1) v1I σ4) fun r7 σ8 => gd (okO σ8 v0R 9) <| gd (okO σ8 (aR σ8 v0R 1) 3) <| bnd (M_Ls_share (aR σ8 v0R 1) v1I σ8) fun r11 σ12 => gd (okO σ12 v0R 9) <| bnd (M_Db_note v0R r7 r11 σ12) fun _ σ14 => L_Db_refresh_3 v0R (v1I + (1 : Int32)) σ14) else ((some ((), σ4)))) := by
  unfold L_Db_refresh_3
  rw [lp_eq]
  show lpK (lp F_Db_refresh) (T_Db_refresh_3 v0R v1I σ) = _
  unfold T_Db_refresh_3
  simp only [lpK_ite, lq_inl, lq_inr, lpK_bnd, lpK_gd, lq_let]
  try rfl
noncomputable def M_Db_refresh (v0R : Nat) (σ : AM) : Option (Unit × AM) := mw σ (L_Db_refresh_0 v0R σ)
def I_Db_refresh (G : GX) (p : Program) (l : Launch) (e : Env) (s : State) (m : MethodId) (args : Array Value) (below : List Frame) (meth : Method) (c : Code) (z0 u0 n : Nat) : Prop :=
  (∀ (v0R : Nat) (σ : AM), VX (QM eV G args s below z0 u0) G p l e s m args below meth c 2 z0 u0 2 (lpn F_Db_refresh n (0, v0R, 0, 0, σ)) 0 [(0, .ref v0R)] [] σ) ∧
  (∀ (v0R : Nat) (v1I : Int32) (σ : AM), VX (QM eV G args s below z0 u0) G p l e s m args below meth c 2 z0 u0 2 (lpn F_Db_refresh n (1, v0R, v1I, 0, σ)) 44 [(0, .ref v0R), (1, .int v1I)] [] σ) ∧
  (∀ (v0R : Nat) (v1I : Int32) (s0R : Nat) (σ : AM), VX (QM eV G args s below z0 u0) G p l e s m args below meth c 2 z0 u0 2 (lpn F_Db_refresh n (2, v0R, v1I, s0R, σ)) 77 [(0, .ref v0R), (1, .int v1I)] [.ref s0R] σ) ∧
  (∀ (v0R : Nat) (v1I : Int32) (σ : AM), VX (QM eV G args s below z0 u0) G p l e s m args below meth c 2 z0 u0 2 (lpn F_Db_refresh n (3, v0R, v1I, 0, σ)) 125 [(0, .ref v0R), (1, .int v1I)] [] σ)
set_option maxRecDepth 20000 in
theorem s_Db_refresh_0 {G : GX} {p : Program} {l : Launch} {e : Env} {s : State} {m : MethodId} {args : Array Value} {below : List Frame} {meth : Method} {c : Code} {z0 u0 n : Nat} (C : Cx G p s m args meth c prog_4_method_2_code 2 "BellPlate$Doubt" ((none))) (IH : I_Db_refresh G p l e s m args below meth c z0 u0 n) (v0R : Nat) (σ : AM) : VX (QM eV G args s below z0 u0) G p l e s m args below meth c 2 z0 u0 2 (lpK (lpn F_Db_refresh n) (T_Db_refresh_0 v0R σ)) 0 [(0, .ref v0R)] [] σ := by
  unfold T_Db_refresh_0
  refine x_aload_n C d_Db_refresh_0 0 rfl ?_
  refine x_gd (fun h1 => ?_)
  refine x_getI (k := 10) C (okO_iff.mp h1) rfl j8_ok (by decide) rfl w546 d_Db_refresh_1 ?_
  refine x_aload_n C d_Db_refresh_4 0 rfl ?_
  refine x_gd (fun h2 => ?_)
  refine x_getR (k := 2) (kv := 4) C (okO_iff.mp h1) rfl j8_ok (by decide) rfl (okO_iff.mp h2) (by decide) w538 d_Db_refresh_5 ?_
  refine x_callVI (As := []) C (c_Bk_age G l (aR σ v0R 2)  σ) (okO_iff.mp h2) rfl w1039 w1040 w1411 w1041 w124 k_Bk_age rfl (by decide) (by decide) rfl (Nat.le_of_ble_eq_true rfl) d_Db_refresh_8 (fun r3 σ4 => ?_)
  refine x_icmp_ne (tgt := 15) C d_Db_refresh_11 (by decide) (fun _ => ?_) (fun _ => ?_)
  · exact x_vret C d_Db_refresh_14
  · refine x_aload_n C d_Db_refresh_15 0 rfl ?_
    refine x_aload_n C d_Db_refresh_16 0 rfl ?_
    refine x_gd (fun h5 => ?_)
    refine x_gd (fun h6 => ?_)
    refine x_getR (k := 2) (kv := 4) C (okO_iff.mp h5) rfl j8_ok (by decide) rfl (okO_iff.mp h6) (by decide) w538 d_Db_refresh_17 ?_
    refine x_callVI (As := []) C (c_Bk_age G l (aR σ4 v0R 2)  σ4) (okO_iff.mp h6) rfl w1039 w1040 w1411 w1041 w124 k_Bk_age rfl (by decide) (by decide) rfl (Nat.le_of_ble_eq_true rfl) d_Db_refresh_20 (fun r7 σ8 => ?_)
    refine x_gd (fun h9 => ?_)
    refine x_putI (k := 10) C (okO_iff.mp h9) rfl j8_ok y8_ok n8_ok (by decide) rfl rfl rfl rfl w546 d_Db_refresh_23 ?_
    refine x_letS (fun σ10 e11 => ?_)
    refine x_aload_n C d_Db_refresh_26 0 rfl ?_
    refine x_gd (fun h12 => ?_)
    refine x_getR (k := 3) (kv := 102) C (by first | exact (okO_iff.mp h9) | (rw [e11]; exact (okO_iff.mp h9))) rfl j8_ok (by decide) rfl (okO_iff.mp h12) (by decide) w539 d_Db_refresh_27 ?_
    refine x_lconst (v := (0 : Int64)) C d_Db_refresh_30 (by decide) ?_
    refine x_callSV (As := [.ref (aR σ10 v0R 3), .long (0 : Int64)]) C (c_JArr_fill G l (aR σ10 v0R 3) (0 : Int64) σ10) w1160 w1412 w1161 w127 k_JArr_fill rfl (by decide) (by decide) rfl (Nat.le_of_ble_eq_true rfl) d_Db_refresh_31 (fun r13 σ14 => ?_)
    refine x_aload_n C d_Db_refresh_34 0 rfl ?_
    refine x_gd (fun h15 => ?_)
    refine x_gd (fun h16 => ?_)
    refine x_getR (k := 4) (kv := 102) C (okO_iff.mp h15) rfl j8_ok (by decide) rfl (okO_iff.mp h16) (by decide) w540 d_Db_refresh_35 ?_
    refine x_lconst (v := (0 : Int64)) C d_Db_refresh_38 (by decide) ?_
    refine x_callSV (As := [.ref (aR σ14 v0R 4), .long (0 : Int64)]) C (c_JArr_fill G l (aR σ14 v0R 4) (0 : Int64) σ14) w1160 w1412 w1161 w127 k_JArr_fill rfl (by decide) (by decide) rfl (Nat.le_of_ble_eq_true rfl) d_Db_refresh_39 (fun r17 σ18 => ?_)
    refine x_iconst (v := (0 : Int32)) C d_Db_refresh_42 (by decide) ?_
    refine x_istore_n (lv' := [(1, .int (0 : Int32)), (0, .ref v0R)]) C d_Db_refresh_43 (by decide) rfl rfl ?_
    refine x_lv [1, 0] rfl ?_
    exact IH.2.1 v0R ((0 : Int32)) (σ18)
set_option maxRecDepth 20000 in
theorem s_Db_refresh_1 {G : GX} {p : Program} {l : Launch} {e : Env} {s : State} {m : MethodId} {args : Array Value} {below : List Frame} {meth : Method} {c : Code} {z0 u0 n : Nat} (C : Cx G p s m args meth c prog_4_method_2_code 2 "BellPlate$Doubt" ((none))) (IH : I_Db_refresh G p l e s m args below meth c z0 u0 n) (v0R : Nat) (v1I : Int32) (σ : AM) : VX (QM eV G args s below z0 u0) G p l e s m args below meth c 2 z0 u0 2 (lpK (lpn F_Db_refresh n) (T_Db_refresh_1 v0R v1I σ)) 44 [(0, .ref v0R), (1, .int v1I)] [] σ := by
  unfold T_Db_refresh_1
  refine x_iload_n C d_Db_refresh_44 1 rfl ?_
  refine x_aload_n C d_Db_refresh_45 0 rfl ?_
  refine x_gd (fun h1 => ?_)
  refine x_gd (fun h2 => ?_)
  refine x_getR (k := 2) (kv := 4) C (okO_iff.mp h1) rfl j8_ok (by decide) rfl (okO_iff.mp h2) (by decide) w538 d_Db_refresh_46 ?_
  refine x_callVI (As := []) C (c_Bk_trials G l (aR σ v0R 2)  σ) (okO_iff.mp h2) rfl w1367 w1368 w1413 w1369 w124 k_Bk_trials rfl (by decide) (by decide) rfl (Nat.le_of_ble_eq_true rfl) d_Db_refresh_49 (fun r3 σ4 => ?_)
  refine x_icmp_ge (tgt := 97) C d_Db_refresh_52 (by decide) (fun _ => ?_) (fun _ => ?_)
  · refine x_aload_n C d_Db_refresh_55 0 rfl ?_
    refine x_gd (fun h5 => ?_)
    refine x_gd (fun h6 => ?_)
    refine x_getR (k := 2) (kv := 4) C (okO_iff.mp h5) rfl j8_ok (by decide) rfl (okO_iff.mp h6) (by decide) w538 d_Db_refresh_56 ?_
    refine x_iload_n C d_Db_refresh_59 1 rfl ?_
    refine x_callVI (As := [.int v1I]) C (c_Bk_rangAt G l (aR σ4 v0R 2) v1I σ4) (okO_iff.mp h6) rfl w1379 w1380 w1414 w1381 w124 k_Bk_rangAt rfl (by decide) (by decide) rfl (Nat.le_of_ble_eq_true rfl) d_Db_refresh_60 (fun r7 σ8 => ?_)
    refine x_if_eq (tgt := 73) C d_Db_refresh_63 (by decide) (fun _ => ?_) (fun _ => ?_)
    · refine x_aload_n C d_Db_refresh_73 0 rfl ?_
      refine x_gd (fun h9 => ?_)
      refine x_gd (fun h10 => ?_)
      refine x_getR (k := 4) (kv := 102) C (okO_iff.mp h9) rfl j8_ok (by decide) rfl (okO_iff.mp h10) (by decide) w540 d_Db_refresh_74 ?_
      exact IH.2.2.1 v0R v1I (aR σ8 v0R 4) (σ8)
    · refine x_aload_n C d_Db_refresh_66 0 rfl ?_
      refine x_gd (fun h11 => ?_)
      refine x_gd (fun h12 => ?_)
      refine x_getR (k := 3) (kv := 102) C (okO_iff.mp h11) rfl j8_ok (by decide) rfl (okO_iff.mp h12) (by decide) w539 d_Db_refresh_67 ?_
      refine x_goto (tgt := 77) C d_Db_refresh_70 (by decide) ?_
      exact IH.2.2.1 v0R v1I (aR σ8 v0R 3) (σ8)
  · refine x_aload_n C d_Db_refresh_97 0 rfl ?_
    refine x_gd (fun h13 => ?_)
    refine x_gd (fun h14 => ?_)
    refine x_getR (k := 5) (kv := 101) C (okO_iff.mp h13) rfl j8_ok (by decide) rfl (okO_iff.mp h14) (by decide) w541 d_Db_refresh_98 ?_
    refine x_iconst (v := (0 : Int32)) C d_Db_refresh_101 (by decide) ?_
    refine x_callSV (As := [.ref (aR σ4 v0R 5), .int (0 : Int32)]) C (c_JArr_fill2 G l (aR σ4 v0R 5) (0 : Int32) σ4) w377 w1417 w378 w127 k_JArr_fill2 rfl (by decide) (by decide) rfl (Nat.le_of_ble_eq_true rfl) d_Db_refresh_102 (fun r15 σ16 => ?_)
    refine x_aload_n C d_Db_refresh_105 0 rfl ?_
    refine x_bipush (v := (60 : Int32)) C d_Db_refresh_106 (by decide) ?_
    refine x_gd (fun h17 => ?_)
    refine x_putI (k := 7) C (okO_iff.mp h17) rfl j8_ok y8_ok n8_ok (by decide) rfl rfl rfl rfl w543 d_Db_refresh_108 ?_
    refine x_letS (fun σ18 e19 => ?_)
    refine x_aload_n C d_Db_refresh_111 0 rfl ?_
    refine x_lconst (v := (0 : Int64)) C d_Db_refresh_112 (by decide) ?_
    refine x_putJ (k := 8) C (by first | exact (okO_iff.mp h17) | (rw [e19]; exact (okO_iff.mp h17))) rfl j8_ok y8_ok n8_ok (by decide) rfl rfl rfl rfl w544 d_Db_refresh_113 ?_
    refine x_letS (fun σ20 e21 => ?_)
    refine x_aload_n C d_Db_refresh_116 0 rfl ?_
    refine x_ldc2 C d_Db_refresh_117 w1418 ?_
    refine x_putJ (k := 9) C (by first | exact (okO_iff.mp h17) | (rw [e21, e19]; exact (okO_iff.mp h17))) rfl j8_ok y8_ok n8_ok (by decide) rfl rfl rfl rfl w545 d_Db_refresh_120 ?_
    refine x_letS (fun σ22 e23 => ?_)
    refine x_iconst (v := (0 : Int32)) C d_Db_refresh_123 (by decide) ?_
    refine x_istore_n (lv' := [(1, .int (0 : Int32)), (0, .ref v0R)]) C d_Db_refresh_124 (by decide) rfl rfl ?_
    refine x_lv [1, 0] rfl ?_
    exact IH.2.2.2 v0R ((0 : Int32)) (σ22)
set_option maxRecDepth 20000 in
theorem s_Db_refresh_2 {G : GX} {p : Program} {l : Launch} {e : Env} {s : State} {m : MethodId} {args : Array Value} {below : List Frame} {meth : Method} {c : Code} {z0 u0 n : Nat} (C : Cx G p s m args meth c prog_4_method_2_code 2 "BellPlate$Doubt" ((none))) (IH : I_Db_refresh G p l e s m args below meth c z0 u0 n) (v0R : Nat) (v1I : Int32) (s0R : Nat) (σ : AM) : VX (QM eV G args s below z0 u0) G p l e s m args below meth c 2 z0 u0 2 (lpK (lpn F_Db_refresh n) (T_Db_refresh_2 v0R v1I s0R σ)) 77 [(0, .ref v0R), (1, .int v1I)] [.ref s0R] σ := by
  unfold T_Db_refresh_2
  refine x_lconst (v := (1 : Int64)) C d_Db_refresh_77 (by decide) ?_
  refine x_aload_n C d_Db_refresh_78 0 rfl ?_
  refine x_gd (fun h1 => ?_)
  refine x_gd (fun h2 => ?_)
  refine x_getR (k := 2) (kv := 4) C (okO_iff.mp h1) rfl j8_ok (by decide) rfl (okO_iff.mp h2) (by decide) w538 d_Db_refresh_79 ?_
  refine x_iload_n C d_Db_refresh_82 1 rfl ?_
  refine x_callVI (As := [.int v1I]) C (c_Bk_setAt G l (aR σ v0R 2) v1I σ) (okO_iff.mp h2) rfl w1371 w1372 w1415 w1373 w124 k_Bk_setAt rfl (by decide) (by decide) rfl (Nat.le_of_ble_eq_true rfl) d_Db_refresh_83 (fun r3 σ4 => ?_)
  refine x_lshl C d_Db_refresh_86 ?_
  refine x_iconst (v := (0 : Int32)) C d_Db_refresh_87 (by decide) ?_
  refine x_callSV (As := [.ref s0R, .long ((1 : Int64) <<< (r3.toInt64 &&& 63)), .int (0 : Int32)]) C (c_St_addTo G l s0R ((1 : Int64) <<< (r3.toInt64 &&& 63)) (0 : Int32) σ4) w1170 w1416 w1171 w141 k_St_addTo rfl (by decide) (by decide) rfl (Nat.le_of_ble_eq_true rfl) d_Db_refresh_88 (fun r5 σ6 => ?_)
  refine x_iinc (v := v1I + (1 : Int32)) (lv' := [(1, .int (v1I + (1 : Int32))), (0, .ref v0R)]) C d_Db_refresh_91 1 rfl rfl (by decide) rfl ?_
  refine x_goto (tgt := 44) C d_Db_refresh_94 (by decide) ?_
  refine x_lv [1, 0] rfl ?_
  exact IH.2.1 v0R (v1I + (1 : Int32)) (σ6)
set_option maxRecDepth 20000 in
theorem s_Db_refresh_3 {G : GX} {p : Program} {l : Launch} {e : Env} {s : State} {m : MethodId} {args : Array Value} {below : List Frame} {meth : Method} {c : Code} {z0 u0 n : Nat} (C : Cx G p s m args meth c prog_4_method_2_code 2 "BellPlate$Doubt" ((none))) (IH : I_Db_refresh G p l e s m args below meth c z0 u0 n) (v0R : Nat) (v1I : Int32) (σ : AM) : VX (QM eV G args s below z0 u0) G p l e s m args below meth c 2 z0 u0 2 (lpK (lpn F_Db_refresh n) (T_Db_refresh_3 v0R v1I σ)) 125 [(0, .ref v0R), (1, .int v1I)] [] σ := by
  unfold T_Db_refresh_3
  refine x_iload_n C d_Db_refresh_125 1 rfl ?_
  refine x_aload_n C d_Db_refresh_126 0 rfl ?_
  refine x_gd (fun h1 => ?_)
  refine x_gd (fun h2 => ?_)
  refine x_getR (k := 1) (kv := 3) C (okO_iff.mp h1) rfl j8_ok (by decide) rfl (okO_iff.mp h2) (by decide) w537 d_Db_refresh_127 ?_
  refine x_callVI (As := []) C (c_Ls_size G l (aR σ v0R 1)  σ) (okO_iff.mp h2) rfl w1052 w1053 w1419 w1054 w123 k_Ls_size rfl (by decide) (by decide) rfl (Nat.le_of_ble_eq_true rfl) d_Db_refresh_130 (fun r3 σ4 => ?_)
  refine x_icmp_ge (tgt := 162) C d_Db_refresh_133 (by decide) (fun _ => ?_) (fun _ => ?_)
  · refine x_aload_n C d_Db_refresh_136 0 rfl ?_
    refine x_aload_n C d_Db_refresh_137 0 rfl ?_
    refine x_gd (fun h5 => ?_)
    refine x_gd (fun h6 => ?_)
    refine x_getR (k := 1) (kv := 3) C (okO_iff.mp h5) rfl j8_ok (by decide) rfl (okO_iff.mp h6) (by decide) w537 d_Db_refresh_138 ?_
    refine x_iload_n C d_Db_refresh_141 1 rfl ?_
    refine x_callVJ (As := [.int v1I]) C (c_Ls_at G l (aR σ4 v0R 1) v1I σ4) (okO_iff.mp h6) rfl w996 w997 w1420 w998 w123 k_Ls_at rfl (by decide) (by decide) rfl (Nat.le_of_ble_eq_true rfl) d_Db_refresh_142 (fun r7 σ8 => ?_)
    refine x_aload_n C d_Db_refresh_145 0 rfl ?_
    refine x_gd (fun h9 => ?_)
    refine x_gd (fun h10 => ?_)
    refine x_getR (k := 1) (kv := 3) C (okO_iff.mp h9) rfl j8_ok (by decide) rfl (okO_iff.mp h10) (by decide) w537 d_Db_refresh_146 ?_
    refine x_iload_n C d_Db_refresh_149 1 rfl ?_
    refine x_callVI (As := [.int v1I]) C (c_Ls_share G l (aR σ8 v0R 1) v1I σ8) (okO_iff.mp h10) rfl w1076 w1077 w1421 w1078 w123 k_Ls_share rfl (by decide) (by decide) rfl (Nat.le_of_ble_eq_true rfl) d_Db_refresh_150 (fun r11 σ12 => ?_)
    refine x_gd (fun h15 => ?_)
    refine x_callVV (As := [.long r7, .int r11]) C (c_Db_note G l v0R r7 r11 σ12) (okO_iff.mp h15) rfl w1424 w45 w1422 w1425 w130 k_Db_note rfl (by decide) (by decide) rfl (Nat.le_of_ble_eq_true rfl) d_Db_refresh_153 (fun r13 σ14 => ?_)
    refine x_iinc (v := v1I + (1 : Int32)) (lv' := [(1, .int (v1I + (1 : Int32))), (0, .ref v0R)]) C d_Db_refresh_156 1 rfl rfl (by decide) rfl ?_
    refine x_goto (tgt := 125) C d_Db_refresh_159 (by decide) ?_
    refine x_lv [1, 0] rfl ?_
    exact IH.2.2.2 v0R (v1I + (1 : Int32)) (σ14)
  · exact x_vret C d_Db_refresh_162
theorem i_Db_refresh {G : GX} {p : Program} {l : Launch} {e : Env} {s : State} {m : MethodId} {args : Array Value} {below : List Frame} {meth : Method} {c : Code} {z0 u0 : Nat} (C : Cx G p s m args meth c prog_4_method_2_code 2 "BellPlate$Doubt" ((none))) (n : Nat) : I_Db_refresh G p l e s m args below meth c z0 u0 n := by
  induction n with
  | zero => exact ⟨fun _ _ => x_none, fun _ _ _ => x_none, fun _ _ _ _ => x_none, fun _ _ _ => x_none⟩
  | succ n IH => exact ⟨fun v0R σ => s_Db_refresh_0 C IH v0R σ, fun v0R v1I σ => s_Db_refresh_1 C IH v0R v1I σ, fun v0R v1I s0R σ => s_Db_refresh_2 C IH v0R v1I s0R σ, fun v0R v1I σ => s_Db_refresh_3 C IH v0R v1I σ⟩
theorem c_Db_refresh (G : GX) (l : Launch) (v0R : Nat) (σ : AM) : CT eV G l 2 y_Db_refresh prog_4_method_2_code 2 (none) [.ref v0R] σ (M_Db_refresh v0R σ) := by
  refine ct_of (by decide +kernel) (Nat.le_of_ble_eq_true rfl) (fun p e s m args below meth c C hin => ?_)
  refine x_lve (lv' := [(0, .ref v0R)]) rfl ?_
  intro r σ' h
  obtain ⟨n, hn⟩ := (lp_iff _ _ _).mp h
  exact (i_Db_refresh C n).1 v0R σ r σ' hn
/-! BellPlate$Doubt.fewestWrong()I -/
abbrev y_Db_fewestWrong : MethodName := ⟨"BellPlate$Doubt", "fewestWrong", "()I"⟩
theorem k_Db_fewestWrong : y_Db_fewestWrong.cls ≠ "java/lang/invoke/MethodHandle" ∧ y_Db_fewestWrong.cls ≠ "java/lang/invoke/VarHandle" ∧ (parseMethodDescriptor y_Db_fewestWrong.desc).map (fun d => d.parameters.length) = some 0 := by decide +kernel
theorem d_Db_fewestWrong_0 : decode prog_4_method_4_code 0 = .ok (.aload_n 0, 1) := by decide +kernel
theorem d_Db_fewestWrong_1 : decode prog_4_method_4_code 1 = .ok (.getfield 77, 3) := by decide +kernel
theorem d_Db_fewestWrong_4 : decode prog_4_method_4_code 4 = .ok (.ireturn, 1) := by decide +kernel
abbrev S_Db_fewestWrong : Type := Nat × Nat × AM
noncomputable def T_Db_fewestWrong_0 (v0R : Nat) (σ : AM) : S_Db_fewestWrong ⊕ Option (Int32 × AM) :=
  gdT (okO σ v0R 9) <| .inr (some ((aI σ v0R 7), σ))
noncomputable def F_Db_fewestWrong : S_Db_fewestWrong → S_Db_fewestWrong ⊕ Option (Int32 × AM) := fun s => match s.1 with
  | _ => T_Db_fewestWrong_0 (s.2.1) (s.2.2)
noncomputable def L_Db_fewestWrong_0 (v0R : Nat) (σ : AM) : Option (Int32 × AM) := lp F_Db_fewestWrong (0, v0R, σ)
set_option maxRecDepth 20000 in
theorem E_Db_fewestWrong_0 (v0R : Nat) (σ : AM) : L_Db_fewestWrong_0 v0R σ = (gd (okO σ v0R 9) <| (some ((aI σ v0R 7), σ))) := by
  unfold L_Db_fewestWrong_0
  rw [lp_eq]
  show lpK (lp F_Db_fewestWrong) (T_Db_fewestWrong_0 v0R σ) = _
  unfold T_Db_fewestWrong_0
  simp only [lpK_ite, lq_inl, lq_inr, lpK_bnd, lpK_gd, lq_let]
  try rfl
noncomputable def M_Db_fewestWrong (v0R : Nat) (σ : AM) : Option (Int32 × AM) := mw σ (L_Db_fewestWrong_0 v0R σ)
def I_Db_fewestWrong (G : GX) (p : Program) (l : Launch) (e : Env) (s : State) (m : MethodId) (args : Array Value) (below : List Frame) (meth : Method) (c : Code) (z0 u0 n : Nat) : Prop :=
  (∀ (v0R : Nat) (σ : AM), VX (QM eI G args s below z0 u0) G p l e s m args below meth c 0 z0 u0 1 (lpn F_Db_fewestWrong n (0, v0R, σ)) 0 [(0, .ref v0R)] [] σ)
set_option maxRecDepth 20000 in
theorem s_Db_fewestWrong_0 {G : GX} {p : Program} {l : Launch} {e : Env} {s : State} {m : MethodId} {args : Array Value} {below : List Frame} {meth : Method} {c : Code} {z0 u0 n : Nat} (C : Cx G p s m args meth c prog_4_method_4_code 1 "BellPlate$Doubt" ((some FieldType.int))) (IH : I_Db_fewestWrong G p l e s m args below meth c z0 u0 n) (v0R : Nat) (σ : AM) : VX (QM eI G args s below z0 u0) G p l e s m args below meth c 0 z0 u0 1 (lpK (lpn F_Db_fewestWrong n) (T_Db_fewestWrong_0 v0R σ)) 0 [(0, .ref v0R)] [] σ := by
  unfold T_Db_fewestWrong_0
  refine x_aload_n C d_Db_fewestWrong_0 0 rfl ?_
  refine x_gd (fun h1 => ?_)
  refine x_getI (k := 7) C (okO_iff.mp h1) rfl j8_ok (by decide) rfl w543 d_Db_fewestWrong_1 ?_
  exact x_iret C d_Db_fewestWrong_4
theorem i_Db_fewestWrong {G : GX} {p : Program} {l : Launch} {e : Env} {s : State} {m : MethodId} {args : Array Value} {below : List Frame} {meth : Method} {c : Code} {z0 u0 : Nat} (C : Cx G p s m args meth c prog_4_method_4_code 1 "BellPlate$Doubt" ((some FieldType.int))) (n : Nat) : I_Db_fewestWrong G p l e s m args below meth c z0 u0 n := by
  induction n with
  | zero => exact fun _ _ => x_none
  | succ n IH => exact fun v0R σ => s_Db_fewestWrong_0 C IH v0R σ
theorem c_Db_fewestWrong (G : GX) (l : Launch) (v0R : Nat) (σ : AM) : CT eI G l 0 y_Db_fewestWrong prog_4_method_4_code 1 ((some FieldType.int)) [.ref v0R] σ (M_Db_fewestWrong v0R σ) := by
  refine ct_of (by decide +kernel) (Nat.le_of_ble_eq_true rfl) (fun p e s m args below meth c C hin => ?_)
  refine x_lve (lv' := [(0, .ref v0R)]) rfl ?_
  intro r σ' h
  obtain ⟨n, hn⟩ := (lp_iff _ _ _).mp h
  exact (i_Db_fewestWrong C n) v0R σ r σ' hn
/-! BellPlate$Doubt.weightsWith(I)I -/
abbrev y_Db_weightsWith : MethodName := ⟨"BellPlate$Doubt", "weightsWith", "(I)I"⟩
theorem k_Db_weightsWith : y_Db_weightsWith.cls ≠ "java/lang/invoke/MethodHandle" ∧ y_Db_weightsWith.cls ≠ "java/lang/invoke/VarHandle" ∧ (parseMethodDescriptor y_Db_weightsWith.desc).map (fun d => d.parameters.length) = some 1 := by decide +kernel
theorem d_Db_weightsWith_0 : decode prog_4_method_5_code 0 = .ok (.iconst 0, 1) := by decide +kernel
theorem d_Db_weightsWith_1 : decode prog_4_method_5_code 1 = .ok (.istore_n 2, 1) := by decide +kernel
theorem d_Db_weightsWith_2 : decode prog_4_method_5_code 2 = .ok (.iconst 0, 1) := by decide +kernel
theorem d_Db_weightsWith_3 : decode prog_4_method_5_code 3 = .ok (.istore_n 3, 1) := by decide +kernel
theorem d_Db_weightsWith_4 : decode prog_4_method_5_code 4 = .ok (.iload_n 3, 1) := by decide +kernel
theorem d_Db_weightsWith_5 : decode prog_4_method_5_code 5 = .ok (.iload_n 1, 1) := by decide +kernel
theorem d_Db_weightsWith_6 : decode prog_4_method_5_code 6 = .ok (.if_icmp .gt 27, 3) := by decide +kernel
theorem d_Db_weightsWith_9 : decode prog_4_method_5_code 9 = .ok (.iload_n 3, 1) := by decide +kernel
theorem d_Db_weightsWith_10 : decode prog_4_method_5_code 10 = .ok (.aload_n 0, 1) := by decide +kernel
theorem d_Db_weightsWith_11 : decode prog_4_method_5_code 11 = .ok (.getfield 32, 3) := by decide +kernel
theorem d_Db_weightsWith_14 : decode prog_4_method_5_code 14 = .ok (.arraylength, 1) := by decide +kernel
theorem d_Db_weightsWith_15 : decode prog_4_method_5_code 15 = .ok (.if_icmp .ge 18, 3) := by decide +kernel
theorem d_Db_weightsWith_18 : decode prog_4_method_5_code 18 = .ok (.iload_n 2, 1) := by decide +kernel
theorem d_Db_weightsWith_19 : decode prog_4_method_5_code 19 = .ok (.aload_n 0, 1) := by decide +kernel
theorem d_Db_weightsWith_20 : decode prog_4_method_5_code 20 = .ok (.getfield 32, 3) := by decide +kernel
theorem d_Db_weightsWith_23 : decode prog_4_method_5_code 23 = .ok (.iload_n 3, 1) := by decide +kernel
theorem d_Db_weightsWith_24 : decode prog_4_method_5_code 24 = .ok (.iaload, 1) := by decide +kernel
theorem d_Db_weightsWith_25 : decode prog_4_method_5_code 25 = .ok (.iadd, 1) := by decide +kernel
theorem d_Db_weightsWith_26 : decode prog_4_method_5_code 26 = .ok (.istore_n 2, 1) := by decide +kernel
theorem d_Db_weightsWith_27 : decode prog_4_method_5_code 27 = .ok (.iinc 3 1, 3) := by decide +kernel
theorem d_Db_weightsWith_30 : decode prog_4_method_5_code 30 = .ok (.goto (-26), 3) := by decide +kernel
theorem d_Db_weightsWith_33 : decode prog_4_method_5_code 33 = .ok (.iload_n 2, 1) := by decide +kernel
theorem d_Db_weightsWith_34 : decode prog_4_method_5_code 34 = .ok (.ireturn, 1) := by decide +kernel
abbrev S_Db_weightsWith : Type := Nat × Nat × Int32 × Int32 × Int32 × AM
noncomputable def T_Db_weightsWith_0 (v0R : Nat) (v1I : Int32) (σ : AM) : S_Db_weightsWith ⊕ Option (Int32 × AM) :=
  .inl (1, v0R, v1I, (0 : Int32), (0 : Int32), σ)
noncomputable def T_Db_weightsWith_1 (v0R : Nat) (v1I : Int32) (v2I : Int32) (v3I : Int32) (σ : AM) : S_Db_weightsWith ⊕ Option (Int32 × AM) :=
  if v1I < v3I then (.inl (2, 0, 0, v2I, 0, σ)) else (gdT (okO σ v0R 9) <| gdT (okO σ (aR σ v0R 5) 101) <| if v3I < (nI (aN σ (aR σ v0R 5))) then (gdT (inB v3I (aN σ (aR σ v0R 5))) <| letT (v2I + (aI σ (aR σ v0R 5) v3I.toNatClampNeg)) fun x4 => .inl (1, v0R, v1I, x4, v3I + (1 : Int32), σ)) else (.inl (2, 0, 0, v2I, 0, σ)))
noncomputable def T_Db_weightsWith_2 (v2I : Int32) (σ : AM) : S_Db_weightsWith ⊕ Option (Int32 × AM) :=
  .inr (some (v2I, σ))
noncomputable def F_Db_weightsWith : S_Db_weightsWith → S_Db_weightsWith ⊕ Option (Int32 × AM) := fun s => match s.1 with
  | 0 => T_Db_weightsWith_0 (s.2.1) (s.2.2.1) (s.2.2.2.2.2)
  | 1 => T_Db_weightsWith_1 (s.2.1) (s.2.2.1) (s.2.2.2.1) (s.2.2.2.2.1) (s.2.2.2.2.2)
  | _ => T_Db_weightsWith_2 (s.2.2.2.1) (s.2.2.2.2.2)
noncomputable def L_Db_weightsWith_0 (v0R : Nat) (v1I : Int32) (σ : AM) : Option (Int32 × AM) := lp F_Db_weightsWith (0, v0R, v1I, 0, 0, σ)
noncomputable def L_Db_weightsWith_1 (v0R : Nat) (v1I : Int32) (v2I : Int32) (v3I : Int32) (σ : AM) : Option (Int32 × AM) := lp F_Db_weightsWith (1, v0R, v1I, v2I, v3I, σ)
noncomputable def L_Db_weightsWith_2 (v2I : Int32) (σ : AM) : Option (Int32 × AM) := lp F_Db_weightsWith (2, 0, 0, v2I, 0, σ)
set_option maxRecDepth 20000 in
theorem E_Db_weightsWith_0 (v0R : Nat) (v1I : Int32) (σ : AM) : L_Db_weightsWith_0 v0R v1I σ = (L_Db_weightsWith_1 v0R v1I ((0 : Int32)) ((0 : Int32)) σ) := by
  unfold L_Db_weightsWith_0
  rw [lp_eq]
  show lpK (lp F_Db_weightsWith) (T_Db_weightsWith_0 v0R v1I σ) = _
  unfold T_Db_weightsWith_0
  simp only [lpK_ite, lq_inl, lq_inr, lpK_bnd, lpK_gd, lq_let]
  try rfl
set_option maxRecDepth 20000 in
theorem E_Db_weightsWith_1 (v0R : Nat) (v1I : Int32) (v2I : Int32) (v3I : Int32) (σ : AM) : L_Db_weightsWith_1 v0R v1I v2I v3I σ = (if v1I < v3I then (L_Db_weightsWith_2 v2I σ) else (gd (okO σ v0R 9) <| gd (okO σ (aR σ v0R 5) 101) <| if v3I < (nI (aN σ (aR σ v0R 5))) then (gd (inB v3I (aN σ (aR σ v0R 5))) <| letT (v2I + (aI σ (aR σ v0R 5) v3I.toNatClampNeg)) fun x4 => L_Db_weightsWith_1 v0R v1I x4 (v3I + (1 : Int32)) σ) else (L_Db_weightsWith_2 v2I σ))) := by
  unfold L_Db_weightsWith_1
  rw [lp_eq]
  show lpK (lp F_Db_weightsWith) (T_Db_weightsWith_1 v0R v1I v2I v3I σ) = _
  unfold T_Db_weightsWith_1
  simp only [lpK_ite, lq_inl, lq_inr, lpK_bnd, lpK_gd, lq_let]
  try rfl
set_option maxRecDepth 20000 in
theorem E_Db_weightsWith_2 (v2I : Int32) (σ : AM) : L_Db_weightsWith_2 v2I σ = ((some (v2I, σ))) := by
  unfold L_Db_weightsWith_2
  rw [lp_eq]
  show lpK (lp F_Db_weightsWith) (T_Db_weightsWith_2 v2I σ) = _
  unfold T_Db_weightsWith_2
  simp only [lpK_ite, lq_inl, lq_inr, lpK_bnd, lpK_gd, lq_let]
  try rfl
noncomputable def M_Db_weightsWith (v0R : Nat) (v1I : Int32) (σ : AM) : Option (Int32 × AM) := mw σ (L_Db_weightsWith_0 v0R v1I σ)
def I_Db_weightsWith (G : GX) (p : Program) (l : Launch) (e : Env) (s : State) (m : MethodId) (args : Array Value) (below : List Frame) (meth : Method) (c : Code) (z0 u0 n : Nat) : Prop :=
  (∀ (v0R : Nat) (v1I : Int32) (σ : AM), VX (QM eI G args s below z0 u0) G p l e s m args below meth c 0 z0 u0 4 (lpn F_Db_weightsWith n (0, v0R, v1I, 0, 0, σ)) 0 [(0, .ref v0R), (1, .int v1I)] [] σ) ∧
  (∀ (v0R : Nat) (v1I : Int32) (v2I : Int32) (v3I : Int32) (σ : AM), VX (QM eI G args s below z0 u0) G p l e s m args below meth c 0 z0 u0 4 (lpn F_Db_weightsWith n (1, v0R, v1I, v2I, v3I, σ)) 4 [(0, .ref v0R), (1, .int v1I), (2, .int v2I), (3, .int v3I)] [] σ) ∧
  (∀ (v2I : Int32) (σ : AM), VX (QM eI G args s below z0 u0) G p l e s m args below meth c 0 z0 u0 4 (lpn F_Db_weightsWith n (2, 0, 0, v2I, 0, σ)) 33 [(2, .int v2I)] [] σ)
set_option maxRecDepth 20000 in
theorem s_Db_weightsWith_0 {G : GX} {p : Program} {l : Launch} {e : Env} {s : State} {m : MethodId} {args : Array Value} {below : List Frame} {meth : Method} {c : Code} {z0 u0 n : Nat} (C : Cx G p s m args meth c prog_4_method_5_code 4 "BellPlate$Doubt" ((some FieldType.int))) (IH : I_Db_weightsWith G p l e s m args below meth c z0 u0 n) (v0R : Nat) (v1I : Int32) (σ : AM) : VX (QM eI G args s below z0 u0) G p l e s m args below meth c 0 z0 u0 4 (lpK (lpn F_Db_weightsWith n) (T_Db_weightsWith_0 v0R v1I σ)) 0 [(0, .ref v0R), (1, .int v1I)] [] σ := by
  unfold T_Db_weightsWith_0
  refine x_iconst (v := (0 : Int32)) C d_Db_weightsWith_0 (by decide) ?_
  refine x_istore_n (lv' := [(2, .int (0 : Int32)), (0, .ref v0R), (1, .int v1I)]) C d_Db_weightsWith_1 (by decide) rfl rfl ?_
  refine x_iconst (v := (0 : Int32)) C d_Db_weightsWith_2 (by decide) ?_
  refine x_istore_n (lv' := [(3, .int (0 : Int32)), (2, .int (0 : Int32)), (0, .ref v0R), (1, .int v1I)]) C d_Db_weightsWith_3 (by decide) rfl rfl ?_
  refine x_lv [2, 3, 1, 0] rfl ?_
  exact IH.2.1 v0R v1I ((0 : Int32)) ((0 : Int32)) (σ)
set_option maxRecDepth 20000 in
theorem s_Db_weightsWith_1 {G : GX} {p : Program} {l : Launch} {e : Env} {s : State} {m : MethodId} {args : Array Value} {below : List Frame} {meth : Method} {c : Code} {z0 u0 n : Nat} (C : Cx G p s m args meth c prog_4_method_5_code 4 "BellPlate$Doubt" ((some FieldType.int))) (IH : I_Db_weightsWith G p l e s m args below meth c z0 u0 n) (v0R : Nat) (v1I : Int32) (v2I : Int32) (v3I : Int32) (σ : AM) : VX (QM eI G args s below z0 u0) G p l e s m args below meth c 0 z0 u0 4 (lpK (lpn F_Db_weightsWith n) (T_Db_weightsWith_1 v0R v1I v2I v3I σ)) 4 [(0, .ref v0R), (1, .int v1I), (2, .int v2I), (3, .int v3I)] [] σ := by
  unfold T_Db_weightsWith_1
  refine x_iload_n C d_Db_weightsWith_4 3 rfl ?_
  refine x_iload_n C d_Db_weightsWith_5 1 rfl ?_
  refine x_icmp_gt (tgt := 33) C d_Db_weightsWith_6 (by decide) (fun _ => ?_) (fun _ => ?_)
  · refine x_lv [2] rfl ?_
    exact IH.2.2 v2I (σ)
  · refine x_iload_n C d_Db_weightsWith_9 3 rfl ?_
    refine x_aload_n C d_Db_weightsWith_10 0 rfl ?_
    refine x_gd (fun h1 => ?_)
    refine x_gd (fun h2 => ?_)
    refine x_getR (k := 5) (kv := 101) C (okO_iff.mp h1) rfl j8_ok (by decide) rfl (okO_iff.mp h2) (by decide) w541 d_Db_weightsWith_11 ?_
    refine x_alen (t := 0) C (okO_iff.mp h2) (by decide) d_Db_weightsWith_14 ?_
    refine x_icmp_ge (tgt := 33) C d_Db_weightsWith_15 (by decide) (fun _ => ?_) (fun _ => ?_)
    · refine x_iload_n C d_Db_weightsWith_18 2 rfl ?_
      refine x_aload_n C d_Db_weightsWith_19 0 rfl ?_
      refine x_getR (k := 5) (kv := 101) C (okO_iff.mp h1) rfl j8_ok (by decide) rfl (okO_iff.mp h2) (by decide) w541 d_Db_weightsWith_20 ?_
      refine x_iload_n C d_Db_weightsWith_23 3 rfl ?_
      refine x_gd (fun h3 => ?_)
      refine x_aldI C (okO_iff.mp h2) (inB_iff.mp h3) d_Db_weightsWith_24 ?_
      refine x_iadd C d_Db_weightsWith_25 ?_
      refine x_letI (fun x4 _ => ?_)
      refine x_istore_n (lv' := [(2, .int x4), (0, .ref v0R), (1, .int v1I), (3, .int v3I)]) C d_Db_weightsWith_26 (by decide) rfl rfl ?_
      refine x_iinc (v := v3I + (1 : Int32)) (lv' := [(3, .int (v3I + (1 : Int32))), (2, .int x4), (0, .ref v0R), (1, .int v1I)]) C d_Db_weightsWith_27 3 rfl rfl (by decide) rfl ?_
      refine x_goto (tgt := 4) C d_Db_weightsWith_30 (by decide) ?_
      refine x_lv [2, 3, 1, 0] rfl ?_
      exact IH.2.1 v0R v1I x4 (v3I + (1 : Int32)) (σ)
    · refine x_lv [2] rfl ?_
      exact IH.2.2 v2I (σ)
set_option maxRecDepth 20000 in
theorem s_Db_weightsWith_2 {G : GX} {p : Program} {l : Launch} {e : Env} {s : State} {m : MethodId} {args : Array Value} {below : List Frame} {meth : Method} {c : Code} {z0 u0 n : Nat} (C : Cx G p s m args meth c prog_4_method_5_code 4 "BellPlate$Doubt" ((some FieldType.int))) (IH : I_Db_weightsWith G p l e s m args below meth c z0 u0 n) (v2I : Int32) (σ : AM) : VX (QM eI G args s below z0 u0) G p l e s m args below meth c 0 z0 u0 4 (lpK (lpn F_Db_weightsWith n) (T_Db_weightsWith_2 v2I σ)) 33 [(2, .int v2I)] [] σ := by
  unfold T_Db_weightsWith_2
  refine x_iload_n C d_Db_weightsWith_33 0 rfl ?_
  exact x_iret C d_Db_weightsWith_34
theorem i_Db_weightsWith {G : GX} {p : Program} {l : Launch} {e : Env} {s : State} {m : MethodId} {args : Array Value} {below : List Frame} {meth : Method} {c : Code} {z0 u0 : Nat} (C : Cx G p s m args meth c prog_4_method_5_code 4 "BellPlate$Doubt" ((some FieldType.int))) (n : Nat) : I_Db_weightsWith G p l e s m args below meth c z0 u0 n := by
  induction n with
  | zero => exact ⟨fun _ _ _ => x_none, fun _ _ _ _ _ => x_none, fun _ _ => x_none⟩
  | succ n IH => exact ⟨fun v0R v1I σ => s_Db_weightsWith_0 C IH v0R v1I σ, fun v0R v1I v2I v3I σ => s_Db_weightsWith_1 C IH v0R v1I v2I v3I σ, fun v2I σ => s_Db_weightsWith_2 C IH v2I σ⟩
theorem c_Db_weightsWith (G : GX) (l : Launch) (v0R : Nat) (v1I : Int32) (σ : AM) : CT eI G l 0 y_Db_weightsWith prog_4_method_5_code 4 ((some FieldType.int)) [.ref v0R, .int v1I] σ (M_Db_weightsWith v0R v1I σ) := by
  refine ct_of (by decide +kernel) (Nat.le_of_ble_eq_true rfl) (fun p e s m args below meth c C hin => ?_)
  refine x_lve (lv' := [(0, .ref v0R), (1, .int v1I)]) rfl ?_
  intro r σ' h
  obtain ⟨n, hn⟩ := (lp_iff _ _ _).mp h
  exact (i_Db_weightsWith C n).1 v0R v1I σ r σ' hn
/-! BellPlate$Doubt.alwaysWrong(I)Z -/
abbrev y_Db_alwaysWrong : MethodName := ⟨"BellPlate$Doubt", "alwaysWrong", "(I)Z"⟩
theorem k_Db_alwaysWrong : y_Db_alwaysWrong.cls ≠ "java/lang/invoke/MethodHandle" ∧ y_Db_alwaysWrong.cls ≠ "java/lang/invoke/VarHandle" ∧ (parseMethodDescriptor y_Db_alwaysWrong.desc).map (fun d => d.parameters.length) = some 1 := by decide +kernel
theorem d_Db_alwaysWrong_0 : decode prog_4_method_6_code 0 = .ok (.aload_n 0, 1) := by decide +kernel
theorem d_Db_alwaysWrong_1 : decode prog_4_method_6_code 1 = .ok (.getfield 19, 3) := by decide +kernel
theorem d_Db_alwaysWrong_4 : decode prog_4_method_6_code 4 = .ok (.iload_n 1, 1) := by decide +kernel
theorem d_Db_alwaysWrong_5 : decode prog_4_method_6_code 5 = .ok (.invokevirtual 64, 3) := by decide +kernel
theorem d_Db_alwaysWrong_8 : decode prog_4_method_6_code 8 = .ok (.istore_n 2, 1) := by decide +kernel
theorem d_Db_alwaysWrong_9 : decode prog_4_method_6_code 9 = .ok (.aload_n 0, 1) := by decide +kernel
theorem d_Db_alwaysWrong_10 : decode prog_4_method_6_code 10 = .ok (.getfield 19, 3) := by decide +kernel
theorem d_Db_alwaysWrong_13 : decode prog_4_method_6_code 13 = .ok (.iload_n 1, 1) := by decide +kernel
theorem d_Db_alwaysWrong_14 : decode prog_4_method_6_code 14 = .ok (.invokevirtual 60, 3) := by decide +kernel
theorem d_Db_alwaysWrong_17 : decode prog_4_method_6_code 17 = .ok (.ifCond .eq 22, 3) := by decide +kernel
theorem d_Db_alwaysWrong_20 : decode prog_4_method_6_code 20 = .ok (.aload_n 0, 1) := by decide +kernel
theorem d_Db_alwaysWrong_21 : decode prog_4_method_6_code 21 = .ok (.getfield 80, 3) := by decide +kernel
theorem d_Db_alwaysWrong_24 : decode prog_4_method_6_code 24 = .ok (.iload_n 2, 1) := by decide +kernel
theorem d_Db_alwaysWrong_25 : decode prog_4_method_6_code 25 = .ok (.invokestatic 111, 3) := by decide +kernel
theorem d_Db_alwaysWrong_28 : decode prog_4_method_6_code 28 = .ok (.ifCond .ne 7, 3) := by decide +kernel
theorem d_Db_alwaysWrong_31 : decode prog_4_method_6_code 31 = .ok (.iconst 1, 1) := by decide +kernel
theorem d_Db_alwaysWrong_32 : decode prog_4_method_6_code 32 = .ok (.goto 15, 3) := by decide +kernel
theorem d_Db_alwaysWrong_35 : decode prog_4_method_6_code 35 = .ok (.iconst 0, 1) := by decide +kernel
theorem d_Db_alwaysWrong_36 : decode prog_4_method_6_code 36 = .ok (.goto 11, 3) := by decide +kernel
theorem d_Db_alwaysWrong_39 : decode prog_4_method_6_code 39 = .ok (.aload_n 0, 1) := by decide +kernel
theorem d_Db_alwaysWrong_40 : decode prog_4_method_6_code 40 = .ok (.getfield 86, 3) := by decide +kernel
theorem d_Db_alwaysWrong_43 : decode prog_4_method_6_code 43 = .ok (.iload_n 2, 1) := by decide +kernel
theorem d_Db_alwaysWrong_44 : decode prog_4_method_6_code 44 = .ok (.invokestatic 111, 3) := by decide +kernel
theorem d_Db_alwaysWrong_47 : decode prog_4_method_6_code 47 = .ok (.ireturn, 1) := by decide +kernel
abbrev S_Db_alwaysWrong : Type := Nat × Nat × Int32 × Int32 × AM
noncomputable def T_Db_alwaysWrong_0 (v0R : Nat) (v1I : Int32) (σ : AM) : S_Db_alwaysWrong ⊕ Option (Int32 × AM) :=
  gdT (okO σ v0R 9) <| gdT (okO σ (aR σ v0R 2) 4) <| bndT (M_Bk_setAt (aR σ v0R 2) v1I σ) fun r3 σ4 => gdT (okO σ4 v0R 9) <| gdT (okO σ4 (aR σ4 v0R 2) 4) <| bndT (M_Bk_rangAt (aR σ4 v0R 2) v1I σ4) fun r7 σ8 => if r7 = 0 then (gdT (okO σ8 v0R 9) <| bndT (M_St_has (aL σ8 v0R 9) r3 σ8) fun r10 σ11 => .inl (1, 0, 0, r10, σ11)) else (gdT (okO σ8 v0R 9) <| bndT (M_St_has (aL σ8 v0R 8) r3 σ8) fun r13 σ14 => if r13 = 0 then (.inl (1, 0, 0, (1 : Int32), σ14)) else (.inl (1, 0, 0, (0 : Int32), σ14)))
noncomputable def T_Db_alwaysWrong_1 (s0I : Int32) (σ : AM) : S_Db_alwaysWrong ⊕ Option (Int32 × AM) :=
  gdT (isB s0I) <| .inr (some (s0I, σ))
noncomputable def F_Db_alwaysWrong : S_Db_alwaysWrong → S_Db_alwaysWrong ⊕ Option (Int32 × AM) := fun s => match s.1 with
  | 0 => T_Db_alwaysWrong_0 (s.2.1) (s.2.2.1) (s.2.2.2.2)
  | _ => T_Db_alwaysWrong_1 (s.2.2.2.1) (s.2.2.2.2)
noncomputable def L_Db_alwaysWrong_0 (v0R : Nat) (v1I : Int32) (σ : AM) : Option (Int32 × AM) := lp F_Db_alwaysWrong (0, v0R, v1I, 0, σ)
noncomputable def L_Db_alwaysWrong_1 (s0I : Int32) (σ : AM) : Option (Int32 × AM) := lp F_Db_alwaysWrong (1, 0, 0, s0I, σ)
set_option maxRecDepth 20000 in
theorem E_Db_alwaysWrong_0 (v0R : Nat) (v1I : Int32) (σ : AM) : L_Db_alwaysWrong_0 v0R v1I σ = (gd (okO σ v0R 9) <| gd (okO σ (aR σ v0R 2) 4) <| bnd (M_Bk_setAt (aR σ v0R 2) v1I σ) fun r3 σ4 => gd (okO σ4 v0R 9) <| gd (okO σ4 (aR σ4 v0R 2) 4) <| bnd (M_Bk_rangAt (aR σ4 v0R 2) v1I σ4) fun r7 σ8 => if r7 = 0 then (gd (okO σ8 v0R 9) <| bnd (M_St_has (aL σ8 v0R 9) r3 σ8) fun r10 σ11 => L_Db_alwaysWrong_1 r10 σ11) else (gd (okO σ8 v0R 9) <| bnd (M_St_has (aL σ8 v0R 8) r3 σ8) fun r13 σ14 => if r13 = 0 then (L_Db_alwaysWrong_1 ((1 : Int32)) σ14) else (L_Db_alwaysWrong_1 ((0 : Int32)) σ14))) := by
  unfold L_Db_alwaysWrong_0
  rw [lp_eq]
  show lpK (lp F_Db_alwaysWrong) (T_Db_alwaysWrong_0 v0R v1I σ) = _
  unfold T_Db_alwaysWrong_0
  simp only [lpK_ite, lq_inl, lq_inr, lpK_bnd, lpK_gd, lq_let]
  try rfl
set_option maxRecDepth 20000 in
theorem E_Db_alwaysWrong_1 (s0I : Int32) (σ : AM) : L_Db_alwaysWrong_1 s0I σ = (gd (isB s0I) <| (some (s0I, σ))) := by
  unfold L_Db_alwaysWrong_1
  rw [lp_eq]
  show lpK (lp F_Db_alwaysWrong) (T_Db_alwaysWrong_1 s0I σ) = _
  unfold T_Db_alwaysWrong_1
  simp only [lpK_ite, lq_inl, lq_inr, lpK_bnd, lpK_gd, lq_let]
  try rfl
noncomputable def M_Db_alwaysWrong (v0R : Nat) (v1I : Int32) (σ : AM) : Option (Int32 × AM) := mw σ (L_Db_alwaysWrong_0 v0R v1I σ)
def I_Db_alwaysWrong (G : GX) (p : Program) (l : Launch) (e : Env) (s : State) (m : MethodId) (args : Array Value) (below : List Frame) (meth : Method) (c : Code) (z0 u0 n : Nat) : Prop :=
  (∀ (v0R : Nat) (v1I : Int32) (σ : AM), VX (QM eI G args s below z0 u0) G p l e s m args below meth c 2 z0 u0 3 (lpn F_Db_alwaysWrong n (0, v0R, v1I, 0, σ)) 0 [(0, .ref v0R), (1, .int v1I)] [] σ) ∧
  (∀ (s0I : Int32) (σ : AM), VX (QM eI G args s below z0 u0) G p l e s m args below meth c 2 z0 u0 3 (lpn F_Db_alwaysWrong n (1, 0, 0, s0I, σ)) 47 [] [.int s0I] σ)
set_option maxRecDepth 20000 in
theorem s_Db_alwaysWrong_0 {G : GX} {p : Program} {l : Launch} {e : Env} {s : State} {m : MethodId} {args : Array Value} {below : List Frame} {meth : Method} {c : Code} {z0 u0 n : Nat} (C : Cx G p s m args meth c prog_4_method_6_code 3 "BellPlate$Doubt" ((some FieldType.boolean))) (IH : I_Db_alwaysWrong G p l e s m args below meth c z0 u0 n) (v0R : Nat) (v1I : Int32) (σ : AM) : VX (QM eI G args s below z0 u0) G p l e s m args below meth c 2 z0 u0 3 (lpK (lpn F_Db_alwaysWrong n) (T_Db_alwaysWrong_0 v0R v1I σ)) 0 [(0, .ref v0R), (1, .int v1I)] [] σ := by
  unfold T_Db_alwaysWrong_0
  refine x_aload_n C d_Db_alwaysWrong_0 0 rfl ?_
  refine x_gd (fun h1 => ?_)
  refine x_gd (fun h2 => ?_)
  refine x_getR (k := 2) (kv := 4) C (okO_iff.mp h1) rfl j8_ok (by decide) rfl (okO_iff.mp h2) (by decide) w538 d_Db_alwaysWrong_1 ?_
  refine x_iload_n C d_Db_alwaysWrong_4 1 rfl ?_
  refine x_callVI (As := [.int v1I]) C (c_Bk_setAt G l (aR σ v0R 2) v1I σ) (okO_iff.mp h2) rfl w1371 w1372 w1415 w1373 w124 k_Bk_setAt rfl (by decide) (by decide) rfl (Nat.le_of_ble_eq_true rfl) d_Db_alwaysWrong_5 (fun r3 σ4 => ?_)
  refine x_istore_n (lv' := [(2, .int r3), (0, .ref v0R), (1, .int v1I)]) C d_Db_alwaysWrong_8 (by decide) rfl rfl ?_
  refine x_aload_n C d_Db_alwaysWrong_9 1 rfl ?_
  refine x_gd (fun h5 => ?_)
  refine x_gd (fun h6 => ?_)
  refine x_getR (k := 2) (kv := 4) C (okO_iff.mp h5) rfl j8_ok (by decide) rfl (okO_iff.mp h6) (by decide) w538 d_Db_alwaysWrong_10 ?_
  refine x_iload_n C d_Db_alwaysWrong_13 2 rfl ?_
  refine x_callVI (As := [.int v1I]) C (c_Bk_rangAt G l (aR σ4 v0R 2) v1I σ4) (okO_iff.mp h6) rfl w1379 w1380 w1414 w1381 w124 k_Bk_rangAt rfl (by decide) (by decide) rfl (Nat.le_of_ble_eq_true rfl) d_Db_alwaysWrong_14 (fun r7 σ8 => ?_)
  refine x_if_eq (tgt := 39) C d_Db_alwaysWrong_17 (by decide) (fun _ => ?_) (fun _ => ?_)
  · refine x_aload_n C d_Db_alwaysWrong_39 1 rfl ?_
    refine x_gd (fun h9 => ?_)
    refine x_getJ (k := 9) C (okO_iff.mp h9) rfl j8_ok (by decide) rfl w545 d_Db_alwaysWrong_40 ?_
    refine x_iload_n C d_Db_alwaysWrong_43 0 rfl ?_
    refine x_callSI (As := [.long (aL σ8 v0R 9), .int r3]) C (c_St_has G l (aL σ8 v0R 9) r3 σ8) w1101 w1444 w1102 w141 k_St_has rfl (by decide) (by decide) rfl (Nat.le_of_ble_eq_true rfl) d_Db_alwaysWrong_44 (fun r10 σ11 => ?_)
    refine x_lv [] rfl ?_
    exact IH.2 r10 (σ11)
  · refine x_aload_n C d_Db_alwaysWrong_20 1 rfl ?_
    refine x_gd (fun h12 => ?_)
    refine x_getJ (k := 8) C (okO_iff.mp h12) rfl j8_ok (by decide) rfl w544 d_Db_alwaysWrong_21 ?_
    refine x_iload_n C d_Db_alwaysWrong_24 0 rfl ?_
    refine x_callSI (As := [.long (aL σ8 v0R 8), .int r3]) C (c_St_has G l (aL σ8 v0R 8) r3 σ8) w1101 w1444 w1102 w141 k_St_has rfl (by decide) (by decide) rfl (Nat.le_of_ble_eq_true rfl) d_Db_alwaysWrong_25 (fun r13 σ14 => ?_)
    refine x_if_ne (tgt := 35) C d_Db_alwaysWrong_28 (by decide) (fun _ => ?_) (fun _ => ?_)
    · refine x_iconst (v := (1 : Int32)) C d_Db_alwaysWrong_31 (by decide) ?_
      refine x_goto (tgt := 47) C d_Db_alwaysWrong_32 (by decide) ?_
      refine x_lv [] rfl ?_
      exact IH.2 ((1 : Int32)) (σ14)
    · refine x_iconst (v := (0 : Int32)) C d_Db_alwaysWrong_35 (by decide) ?_
      refine x_goto (tgt := 47) C d_Db_alwaysWrong_36 (by decide) ?_
      refine x_lv [] rfl ?_
      exact IH.2 ((0 : Int32)) (σ14)
set_option maxRecDepth 20000 in
theorem s_Db_alwaysWrong_1 {G : GX} {p : Program} {l : Launch} {e : Env} {s : State} {m : MethodId} {args : Array Value} {below : List Frame} {meth : Method} {c : Code} {z0 u0 n : Nat} (C : Cx G p s m args meth c prog_4_method_6_code 3 "BellPlate$Doubt" ((some FieldType.boolean))) (IH : I_Db_alwaysWrong G p l e s m args below meth c z0 u0 n) (s0I : Int32) (σ : AM) : VX (QM eI G args s below z0 u0) G p l e s m args below meth c 2 z0 u0 3 (lpK (lpn F_Db_alwaysWrong n) (T_Db_alwaysWrong_1 s0I σ)) 47 [] [.int s0I] σ := by
  unfold T_Db_alwaysWrong_1
  refine x_gd (fun h1 => ?_)
  exact x_zret C (isB_narrow h1) d_Db_alwaysWrong_47
theorem i_Db_alwaysWrong {G : GX} {p : Program} {l : Launch} {e : Env} {s : State} {m : MethodId} {args : Array Value} {below : List Frame} {meth : Method} {c : Code} {z0 u0 : Nat} (C : Cx G p s m args meth c prog_4_method_6_code 3 "BellPlate$Doubt" ((some FieldType.boolean))) (n : Nat) : I_Db_alwaysWrong G p l e s m args below meth c z0 u0 n := by
  induction n with
  | zero => exact ⟨fun _ _ _ => x_none, fun _ _ => x_none⟩
  | succ n IH => exact ⟨fun v0R v1I σ => s_Db_alwaysWrong_0 C IH v0R v1I σ, fun s0I σ => s_Db_alwaysWrong_1 C IH s0I σ⟩
theorem c_Db_alwaysWrong (G : GX) (l : Launch) (v0R : Nat) (v1I : Int32) (σ : AM) : CT eI G l 2 y_Db_alwaysWrong prog_4_method_6_code 3 ((some FieldType.boolean)) [.ref v0R, .int v1I] σ (M_Db_alwaysWrong v0R v1I σ) := by
  refine ct_of (by decide +kernel) (Nat.le_of_ble_eq_true rfl) (fun p e s m args below meth c C hin => ?_)
  refine x_lve (lv' := [(0, .ref v0R), (1, .int v1I)]) rfl ?_
  intro r σ' h
  obtain ⟨n, hn⟩ := (lp_iff _ _ _).mp h
  exact (i_Db_alwaysWrong C n).1 v0R v1I σ r σ' hn
/-! BellPlate$Doubt.firstWrong(J)I -/
abbrev y_Db_firstWrong : MethodName := ⟨"BellPlate$Doubt", "firstWrong", "(J)I"⟩
theorem k_Db_firstWrong : y_Db_firstWrong.cls ≠ "java/lang/invoke/MethodHandle" ∧ y_Db_firstWrong.cls ≠ "java/lang/invoke/VarHandle" ∧ (parseMethodDescriptor y_Db_firstWrong.desc).map (fun d => d.parameters.length) = some 1 := by decide +kernel
theorem d_Db_firstWrong_0 : decode prog_4_method_8_code 0 = .ok (.iconst 0, 1) := by decide +kernel
theorem d_Db_firstWrong_1 : decode prog_4_method_8_code 1 = .ok (.istore_n 3, 1) := by decide +kernel
theorem d_Db_firstWrong_2 : decode prog_4_method_8_code 2 = .ok (.iload_n 3, 1) := by decide +kernel
theorem d_Db_firstWrong_3 : decode prog_4_method_8_code 3 = .ok (.aload_n 0, 1) := by decide +kernel
theorem d_Db_firstWrong_4 : decode prog_4_method_8_code 4 = .ok (.getfield 19, 3) := by decide +kernel
theorem d_Db_firstWrong_7 : decode prog_4_method_8_code 7 = .ok (.invokevirtual 57, 3) := by decide +kernel
theorem d_Db_firstWrong_10 : decode prog_4_method_8_code 10 = .ok (.if_icmp .ge 34, 3) := by decide +kernel
theorem d_Db_firstWrong_13 : decode prog_4_method_8_code 13 = .ok (.lload_n 1, 1) := by decide +kernel
theorem d_Db_firstWrong_14 : decode prog_4_method_8_code 14 = .ok (.aload_n 0, 1) := by decide +kernel
theorem d_Db_firstWrong_15 : decode prog_4_method_8_code 15 = .ok (.getfield 19, 3) := by decide +kernel
theorem d_Db_firstWrong_18 : decode prog_4_method_8_code 18 = .ok (.iload_n 3, 1) := by decide +kernel
theorem d_Db_firstWrong_19 : decode prog_4_method_8_code 19 = .ok (.invokevirtual 64, 3) := by decide +kernel
theorem d_Db_firstWrong_22 : decode prog_4_method_8_code 22 = .ok (.invokestatic 111, 3) := by decide +kernel
theorem d_Db_firstWrong_25 : decode prog_4_method_8_code 25 = .ok (.aload_n 0, 1) := by decide +kernel
theorem d_Db_firstWrong_26 : decode prog_4_method_8_code 26 = .ok (.getfield 19, 3) := by decide +kernel
theorem d_Db_firstWrong_29 : decode prog_4_method_8_code 29 = .ok (.iload_n 3, 1) := by decide +kernel
theorem d_Db_firstWrong_30 : decode prog_4_method_8_code 30 = .ok (.invokevirtual 60, 3) := by decide +kernel
theorem d_Db_firstWrong_33 : decode prog_4_method_8_code 33 = .ok (.if_icmp .eq 5, 3) := by decide +kernel
theorem d_Db_firstWrong_36 : decode prog_4_method_8_code 36 = .ok (.iload_n 3, 1) := by decide +kernel
theorem d_Db_firstWrong_37 : decode prog_4_method_8_code 37 = .ok (.ireturn, 1) := by decide +kernel
theorem d_Db_firstWrong_38 : decode prog_4_method_8_code 38 = .ok (.iinc 3 1, 3) := by decide +kernel
theorem d_Db_firstWrong_41 : decode prog_4_method_8_code 41 = .ok (.goto (-39), 3) := by decide +kernel
theorem d_Db_firstWrong_44 : decode prog_4_method_8_code 44 = .ok (.iconst (-1), 1) := by decide +kernel
theorem d_Db_firstWrong_45 : decode prog_4_method_8_code 45 = .ok (.ireturn, 1) := by decide +kernel
abbrev S_Db_firstWrong : Type := Nat × Nat × Int64 × Int32 × AM
noncomputable def T_Db_firstWrong_0 (v0R : Nat) (v1J : Int64) (σ : AM) : S_Db_firstWrong ⊕ Option (Int32 × AM) :=
  .inl (1, v0R, v1J, (0 : Int32), σ)
noncomputable def T_Db_firstWrong_1 (v0R : Nat) (v1J : Int64) (v3I : Int32) (σ : AM) : S_Db_firstWrong ⊕ Option (Int32 × AM) :=
  gdT (okO σ v0R 9) <| gdT (okO σ (aR σ v0R 2) 4) <| bndT (M_Bk_trials (aR σ v0R 2) σ) fun r3 σ4 => if v3I < r3 then (gdT (okO σ4 v0R 9) <| gdT (okO σ4 (aR σ4 v0R 2) 4) <| bndT (M_Bk_setAt (aR σ4 v0R 2) v3I σ4) fun r7 σ8 => bndT (M_St_has v1J r7 σ8) fun r9 σ10 => gdT (okO σ10 v0R 9) <| gdT (okO σ10 (aR σ10 v0R 2) 4) <| bndT (M_Bk_rangAt (aR σ10 v0R 2) v3I σ10) fun r13 σ14 => if r9 = r13 then (.inl (1, v0R, v1J, v3I + (1 : Int32), σ14)) else (.inr (some (v3I, σ14)))) else (.inr (some (((-1) : Int32), σ4)))
noncomputable def F_Db_firstWrong : S_Db_firstWrong → S_Db_firstWrong ⊕ Option (Int32 × AM) := fun s => match s.1 with
  | 0 => T_Db_firstWrong_0 (s.2.1) (s.2.2.1) (s.2.2.2.2)
  | _ => T_Db_firstWrong_1 (s.2.1) (s.2.2.1) (s.2.2.2.1) (s.2.2.2.2)
noncomputable def L_Db_firstWrong_0 (v0R : Nat) (v1J : Int64) (σ : AM) : Option (Int32 × AM) := lp F_Db_firstWrong (0, v0R, v1J, 0, σ)
noncomputable def L_Db_firstWrong_1 (v0R : Nat) (v1J : Int64) (v3I : Int32) (σ : AM) : Option (Int32 × AM) := lp F_Db_firstWrong (1, v0R, v1J, v3I, σ)
set_option maxRecDepth 20000 in
theorem E_Db_firstWrong_0 (v0R : Nat) (v1J : Int64) (σ : AM) : L_Db_firstWrong_0 v0R v1J σ = (L_Db_firstWrong_1 v0R v1J ((0 : Int32)) σ) := by
  unfold L_Db_firstWrong_0
  rw [lp_eq]
  show lpK (lp F_Db_firstWrong) (T_Db_firstWrong_0 v0R v1J σ) = _
  unfold T_Db_firstWrong_0
  simp only [lpK_ite, lq_inl, lq_inr, lpK_bnd, lpK_gd, lq_let]
  try rfl
set_option maxRecDepth 20000 in
theorem E_Db_firstWrong_1 (v0R : Nat) (v1J : Int64) (v3I : Int32) (σ : AM) : L_Db_firstWrong_1 v0R v1J v3I σ = (gd (okO σ v0R 9) <| gd (okO σ (aR σ v0R 2) 4) <| bnd (M_Bk_trials (aR σ v0R 2) σ) fun r3 σ4 => if v3I < r3 then (gd (okO σ4 v0R 9) <| gd (okO σ4 (aR σ4 v0R 2) 4) <| bnd (M_Bk_setAt (aR σ4 v0R 2) v3I σ4) fun r7 σ8 => bnd (M_St_has v1J r7 σ8) fun r9 σ10 => gd (okO σ10 v0R 9) <| gd (okO σ10 (aR σ10 v0R 2) 4) <| bnd (M_Bk_rangAt (aR σ10 v0R 2) v3I σ10) fun r13 σ14 => if r9 = r13 then (L_Db_firstWrong_1 v0R v1J (v3I + (1 : Int32)) σ14) else ((some (v3I, σ14)))) else ((some (((-1) : Int32), σ4)))) := by
  unfold L_Db_firstWrong_1
  rw [lp_eq]
  show lpK (lp F_Db_firstWrong) (T_Db_firstWrong_1 v0R v1J v3I σ) = _
  unfold T_Db_firstWrong_1
  simp only [lpK_ite, lq_inl, lq_inr, lpK_bnd, lpK_gd, lq_let]
  try rfl
noncomputable def M_Db_firstWrong (v0R : Nat) (v1J : Int64) (σ : AM) : Option (Int32 × AM) := mw σ (L_Db_firstWrong_0 v0R v1J σ)
def I_Db_firstWrong (G : GX) (p : Program) (l : Launch) (e : Env) (s : State) (m : MethodId) (args : Array Value) (below : List Frame) (meth : Method) (c : Code) (z0 u0 n : Nat) : Prop :=
  (∀ (v0R : Nat) (v1J : Int64) (σ : AM), VX (QM eI G args s below z0 u0) G p l e s m args below meth c 2 z0 u0 4 (lpn F_Db_firstWrong n (0, v0R, v1J, 0, σ)) 0 [(0, .ref v0R), (1, .long v1J)] [] σ) ∧
  (∀ (v0R : Nat) (v1J : Int64) (v3I : Int32) (σ : AM), VX (QM eI G args s below z0 u0) G p l e s m args below meth c 2 z0 u0 4 (lpn F_Db_firstWrong n (1, v0R, v1J, v3I, σ)) 2 [(0, .ref v0R), (1, .long v1J), (3, .int v3I)] [] σ)
set_option maxRecDepth 20000 in
theorem s_Db_firstWrong_0 {G : GX} {p : Program} {l : Launch} {e : Env} {s : State} {m : MethodId} {args : Array Value} {below : List Frame} {meth : Method} {c : Code} {z0 u0 n : Nat} (C : Cx G p s m args meth c prog_4_method_8_code 4 "BellPlate$Doubt" ((some FieldType.int))) (IH : I_Db_firstWrong G p l e s m args below meth c z0 u0 n) (v0R : Nat) (v1J : Int64) (σ : AM) : VX (QM eI G args s below z0 u0) G p l e s m args below meth c 2 z0 u0 4 (lpK (lpn F_Db_firstWrong n) (T_Db_firstWrong_0 v0R v1J σ)) 0 [(0, .ref v0R), (1, .long v1J)] [] σ := by
  unfold T_Db_firstWrong_0
  refine x_iconst (v := (0 : Int32)) C d_Db_firstWrong_0 (by decide) ?_
  refine x_istore_n (lv' := [(3, .int (0 : Int32)), (0, .ref v0R), (1, .long v1J)]) C d_Db_firstWrong_1 (by decide) rfl rfl ?_
  refine x_lv [1, 2, 0] rfl ?_
  exact IH.2 v0R v1J ((0 : Int32)) (σ)
set_option maxRecDepth 20000 in
theorem s_Db_firstWrong_1 {G : GX} {p : Program} {l : Launch} {e : Env} {s : State} {m : MethodId} {args : Array Value} {below : List Frame} {meth : Method} {c : Code} {z0 u0 n : Nat} (C : Cx G p s m args meth c prog_4_method_8_code 4 "BellPlate$Doubt" ((some FieldType.int))) (IH : I_Db_firstWrong G p l e s m args below meth c z0 u0 n) (v0R : Nat) (v1J : Int64) (v3I : Int32) (σ : AM) : VX (QM eI G args s below z0 u0) G p l e s m args below meth c 2 z0 u0 4 (lpK (lpn F_Db_firstWrong n) (T_Db_firstWrong_1 v0R v1J v3I σ)) 2 [(0, .ref v0R), (1, .long v1J), (3, .int v3I)] [] σ := by
  unfold T_Db_firstWrong_1
  refine x_iload_n C d_Db_firstWrong_2 2 rfl ?_
  refine x_aload_n C d_Db_firstWrong_3 0 rfl ?_
  refine x_gd (fun h1 => ?_)
  refine x_gd (fun h2 => ?_)
  refine x_getR (k := 2) (kv := 4) C (okO_iff.mp h1) rfl j8_ok (by decide) rfl (okO_iff.mp h2) (by decide) w538 d_Db_firstWrong_4 ?_
  refine x_callVI (As := []) C (c_Bk_trials G l (aR σ v0R 2)  σ) (okO_iff.mp h2) rfl w1367 w1368 w1413 w1369 w124 k_Bk_trials rfl (by decide) (by decide) rfl (Nat.le_of_ble_eq_true rfl) d_Db_firstWrong_7 (fun r3 σ4 => ?_)
  refine x_icmp_ge (tgt := 44) C d_Db_firstWrong_10 (by decide) (fun _ => ?_) (fun _ => ?_)
  · refine x_lload_n C d_Db_firstWrong_13 1 rfl ?_
    refine x_aload_n C d_Db_firstWrong_14 0 rfl ?_
    refine x_gd (fun h5 => ?_)
    refine x_gd (fun h6 => ?_)
    refine x_getR (k := 2) (kv := 4) C (okO_iff.mp h5) rfl j8_ok (by decide) rfl (okO_iff.mp h6) (by decide) w538 d_Db_firstWrong_15 ?_
    refine x_iload_n C d_Db_firstWrong_18 2 rfl ?_
    refine x_callVI (As := [.int v3I]) C (c_Bk_setAt G l (aR σ4 v0R 2) v3I σ4) (okO_iff.mp h6) rfl w1371 w1372 w1415 w1373 w124 k_Bk_setAt rfl (by decide) (by decide) rfl (Nat.le_of_ble_eq_true rfl) d_Db_firstWrong_19 (fun r7 σ8 => ?_)
    refine x_callSI (As := [.long v1J, .int r7]) C (c_St_has G l v1J r7 σ8) w1101 w1444 w1102 w141 k_St_has rfl (by decide) (by decide) rfl (Nat.le_of_ble_eq_true rfl) d_Db_firstWrong_22 (fun r9 σ10 => ?_)
    refine x_aload_n C d_Db_firstWrong_25 0 rfl ?_
    refine x_gd (fun h11 => ?_)
    refine x_gd (fun h12 => ?_)
    refine x_getR (k := 2) (kv := 4) C (okO_iff.mp h11) rfl j8_ok (by decide) rfl (okO_iff.mp h12) (by decide) w538 d_Db_firstWrong_26 ?_
    refine x_iload_n C d_Db_firstWrong_29 2 rfl ?_
    refine x_callVI (As := [.int v3I]) C (c_Bk_rangAt G l (aR σ10 v0R 2) v3I σ10) (okO_iff.mp h12) rfl w1379 w1380 w1414 w1381 w124 k_Bk_rangAt rfl (by decide) (by decide) rfl (Nat.le_of_ble_eq_true rfl) d_Db_firstWrong_30 (fun r13 σ14 => ?_)
    refine x_icmp_eq (tgt := 38) C d_Db_firstWrong_33 (by decide) (fun _ => ?_) (fun _ => ?_)
    · refine x_iinc (v := v3I + (1 : Int32)) (lv' := [(3, .int (v3I + (1 : Int32))), (0, .ref v0R), (1, .long v1J)]) C d_Db_firstWrong_38 2 rfl rfl (by decide) rfl ?_
      refine x_goto (tgt := 2) C d_Db_firstWrong_41 (by decide) ?_
      refine x_lv [1, 2, 0] rfl ?_
      exact IH.2 v0R v1J (v3I + (1 : Int32)) (σ14)
    · refine x_iload_n C d_Db_firstWrong_36 2 rfl ?_
      exact x_iret C d_Db_firstWrong_37
  · refine x_iconst (v := ((-1) : Int32)) C d_Db_firstWrong_44 (by decide) ?_
    exact x_iret C d_Db_firstWrong_45
theorem i_Db_firstWrong {G : GX} {p : Program} {l : Launch} {e : Env} {s : State} {m : MethodId} {args : Array Value} {below : List Frame} {meth : Method} {c : Code} {z0 u0 : Nat} (C : Cx G p s m args meth c prog_4_method_8_code 4 "BellPlate$Doubt" ((some FieldType.int))) (n : Nat) : I_Db_firstWrong G p l e s m args below meth c z0 u0 n := by
  induction n with
  | zero => exact ⟨fun _ _ _ => x_none, fun _ _ _ _ => x_none⟩
  | succ n IH => exact ⟨fun v0R v1J σ => s_Db_firstWrong_0 C IH v0R v1J σ, fun v0R v1J v3I σ => s_Db_firstWrong_1 C IH v0R v1J v3I σ⟩
theorem c_Db_firstWrong (G : GX) (l : Launch) (v0R : Nat) (v1J : Int64) (σ : AM) : CT eI G l 2 y_Db_firstWrong prog_4_method_8_code 4 ((some FieldType.int)) [.ref v0R, .long v1J] σ (M_Db_firstWrong v0R v1J σ) := by
  refine ct_of (by decide +kernel) (Nat.le_of_ble_eq_true rfl) (fun p e s m args below meth c C hin => ?_)
  refine x_lve (lv' := [(0, .ref v0R), (1, .long v1J)]) rfl ?_
  intro r σ' h
  obtain ⟨n, hn⟩ := (lp_iff _ _ _).mp h
  exact (i_Db_firstWrong C n).1 v0R v1J σ r σ' hn
/-! BellPlate$Doubt.isBetter(III)Z -/
abbrev y_Db_isBetter : MethodName := ⟨"BellPlate$Doubt", "isBetter", "(III)Z"⟩
theorem k_Db_isBetter : y_Db_isBetter.cls ≠ "java/lang/invoke/MethodHandle" ∧ y_Db_isBetter.cls ≠ "java/lang/invoke/VarHandle" ∧ (parseMethodDescriptor y_Db_isBetter.desc).map (fun d => d.parameters.length) = some 3 := by decide +kernel
theorem d_Db_isBetter_0 : decode prog_4_method_10_code 0 = .ok (.aload_n 0, 1) := by decide +kernel
theorem d_Db_isBetter_1 : decode prog_4_method_10_code 1 = .ok (.getfield 115, 3) := by decide +kernel
theorem d_Db_isBetter_4 : decode prog_4_method_10_code 4 = .ok (.iconst (-1), 1) := by decide +kernel
theorem d_Db_isBetter_5 : decode prog_4_method_10_code 5 = .ok (.if_icmp .eq 11, 3) := by decide +kernel
theorem d_Db_isBetter_8 : decode prog_4_method_10_code 8 = .ok (.iload_n 1, 1) := by decide +kernel
theorem d_Db_isBetter_9 : decode prog_4_method_10_code 9 = .ok (.aload_n 0, 1) := by decide +kernel
theorem d_Db_isBetter_10 : decode prog_4_method_10_code 10 = .ok (.getfield 115, 3) := by decide +kernel
theorem d_Db_isBetter_13 : decode prog_4_method_10_code 13 = .ok (.if_icmp .eq 25, 3) := by decide +kernel
theorem d_Db_isBetter_16 : decode prog_4_method_10_code 16 = .ok (.aload_n 0, 1) := by decide +kernel
theorem d_Db_isBetter_17 : decode prog_4_method_10_code 17 = .ok (.getfield 115, 3) := by decide +kernel
theorem d_Db_isBetter_20 : decode prog_4_method_10_code 20 = .ok (.iconst (-1), 1) := by decide +kernel
theorem d_Db_isBetter_21 : decode prog_4_method_10_code 21 = .ok (.if_icmp .eq 11, 3) := by decide +kernel
theorem d_Db_isBetter_24 : decode prog_4_method_10_code 24 = .ok (.iload_n 1, 1) := by decide +kernel
theorem d_Db_isBetter_25 : decode prog_4_method_10_code 25 = .ok (.aload_n 0, 1) := by decide +kernel
theorem d_Db_isBetter_26 : decode prog_4_method_10_code 26 = .ok (.getfield 115, 3) := by decide +kernel
theorem d_Db_isBetter_29 : decode prog_4_method_10_code 29 = .ok (.if_icmp .ge 7, 3) := by decide +kernel
theorem d_Db_isBetter_32 : decode prog_4_method_10_code 32 = .ok (.iconst 1, 1) := by decide +kernel
theorem d_Db_isBetter_33 : decode prog_4_method_10_code 33 = .ok (.goto 4, 3) := by decide +kernel
theorem d_Db_isBetter_36 : decode prog_4_method_10_code 36 = .ok (.iconst 0, 1) := by decide +kernel
theorem d_Db_isBetter_37 : decode prog_4_method_10_code 37 = .ok (.ireturn, 1) := by decide +kernel
theorem d_Db_isBetter_38 : decode prog_4_method_10_code 38 = .ok (.iload_n 2, 1) := by decide +kernel
theorem d_Db_isBetter_39 : decode prog_4_method_10_code 39 = .ok (.aload_n 0, 1) := by decide +kernel
theorem d_Db_isBetter_40 : decode prog_4_method_10_code 40 = .ok (.getfield 127, 3) := by decide +kernel
theorem d_Db_isBetter_43 : decode prog_4_method_10_code 43 = .ok (.if_icmp .eq 19, 3) := by decide +kernel
theorem d_Db_isBetter_46 : decode prog_4_method_10_code 46 = .ok (.iload_n 2, 1) := by decide +kernel
theorem d_Db_isBetter_47 : decode prog_4_method_10_code 47 = .ok (.aload_n 0, 1) := by decide +kernel
theorem d_Db_isBetter_48 : decode prog_4_method_10_code 48 = .ok (.getfield 127, 3) := by decide +kernel
theorem d_Db_isBetter_51 : decode prog_4_method_10_code 51 = .ok (.if_icmp .le 7, 3) := by decide +kernel
theorem d_Db_isBetter_54 : decode prog_4_method_10_code 54 = .ok (.iconst 1, 1) := by decide +kernel
theorem d_Db_isBetter_55 : decode prog_4_method_10_code 55 = .ok (.goto 20, 3) := by decide +kernel
theorem d_Db_isBetter_58 : decode prog_4_method_10_code 58 = .ok (.iconst 0, 1) := by decide +kernel
theorem d_Db_isBetter_59 : decode prog_4_method_10_code 59 = .ok (.goto 16, 3) := by decide +kernel
theorem d_Db_isBetter_62 : decode prog_4_method_10_code 62 = .ok (.iload_n 3, 1) := by decide +kernel
theorem d_Db_isBetter_63 : decode prog_4_method_10_code 63 = .ok (.aload_n 0, 1) := by decide +kernel
theorem d_Db_isBetter_64 : decode prog_4_method_10_code 64 = .ok (.getfield 161, 3) := by decide +kernel
theorem d_Db_isBetter_67 : decode prog_4_method_10_code 67 = .ok (.if_icmp .ge 7, 3) := by decide +kernel
theorem d_Db_isBetter_70 : decode prog_4_method_10_code 70 = .ok (.iconst 1, 1) := by decide +kernel
theorem d_Db_isBetter_71 : decode prog_4_method_10_code 71 = .ok (.goto 4, 3) := by decide +kernel
theorem d_Db_isBetter_74 : decode prog_4_method_10_code 74 = .ok (.iconst 0, 1) := by decide +kernel
theorem d_Db_isBetter_75 : decode prog_4_method_10_code 75 = .ok (.ireturn, 1) := by decide +kernel
abbrev S_Db_isBetter : Type := Nat × Nat × Int32 × Int32 × Int32 × Int32 × AM
noncomputable def T_Db_isBetter_0 (v0R : Nat) (v1I : Int32) (v2I : Int32) (v3I : Int32) (σ : AM) : S_Db_isBetter ⊕ Option (Int32 × AM) :=
  gdT (okO σ v0R 9) <| if (aI σ v0R 12) = ((-1) : Int32) then (.inl (1, v0R, v1I, 0, 0, 0, σ)) else (if v1I = (aI σ v0R 12) then (if v2I = (aI σ v0R 13) then (if v3I < (aI σ v0R 14) then (.inl (4, 0, 0, 0, 0, (1 : Int32), σ)) else (.inl (4, 0, 0, 0, 0, (0 : Int32), σ))) else (if (aI σ v0R 13) < v2I then (.inl (4, 0, 0, 0, 0, (1 : Int32), σ)) else (.inl (4, 0, 0, 0, 0, (0 : Int32), σ)))) else (.inl (1, v0R, v1I, 0, 0, 0, σ)))
noncomputable def T_Db_isBetter_1 (v0R : Nat) (v1I : Int32) (σ : AM) : S_Db_isBetter ⊕ Option (Int32 × AM) :=
  gdT (okO σ v0R 9) <| if (aI σ v0R 12) = ((-1) : Int32) then (.inl (2, 0, 0, 0, 0, 0, σ)) else (if v1I < (aI σ v0R 12) then (.inl (2, 0, 0, 0, 0, 0, σ)) else (.inl (3, 0, 0, 0, 0, (0 : Int32), σ)))
noncomputable def T_Db_isBetter_2  (σ : AM) : S_Db_isBetter ⊕ Option (Int32 × AM) :=
  .inl (3, 0, 0, 0, 0, (1 : Int32), σ)
noncomputable def T_Db_isBetter_3 (s0I : Int32) (σ : AM) : S_Db_isBetter ⊕ Option (Int32 × AM) :=
  gdT (isB s0I) <| .inr (some (s0I, σ))
noncomputable def T_Db_isBetter_4 (s0I : Int32) (σ : AM) : S_Db_isBetter ⊕ Option (Int32 × AM) :=
  gdT (isB s0I) <| .inr (some (s0I, σ))
noncomputable def F_Db_isBetter : S_Db_isBetter → S_Db_isBetter ⊕ Option (Int32 × AM) := fun s => match s.1 with
  | 0 => T_Db_isBetter_0 (s.2.1) (s.2.2.1) (s.2.2.2.1) (s.2.2.2.2.1) (s.2.2.2.2.2.2)
  | 1 => T_Db_isBetter_1 (s.2.1) (s.2.2.1) (s.2.2.2.2.2.2)
  | 2 => T_Db_isBetter_2  (s.2.2.2.2.2.2)
  | 3 => T_Db_isBetter_3 (s.2.2.2.2.2.1) (s.2.2.2.2.2.2)
  | _ => T_Db_isBetter_4 (s.2.2.2.2.2.1) (s.2.2.2.2.2.2)
noncomputable def L_Db_isBetter_0 (v0R : Nat) (v1I : Int32) (v2I : Int32) (v3I : Int32) (σ : AM) : Option (Int32 × AM) := lp F_Db_isBetter (0, v0R, v1I, v2I, v3I, 0, σ)
noncomputable def L_Db_isBetter_1 (v0R : Nat) (v1I : Int32) (σ : AM) : Option (Int32 × AM) := lp F_Db_isBetter (1, v0R, v1I, 0, 0, 0, σ)
noncomputable def L_Db_isBetter_2  (σ : AM) : Option (Int32 × AM) := lp F_Db_isBetter (2, 0, 0, 0, 0, 0, σ)
noncomputable def L_Db_isBetter_3 (s0I : Int32) (σ : AM) : Option (Int32 × AM) := lp F_Db_isBetter (3, 0, 0, 0, 0, s0I, σ)
noncomputable def L_Db_isBetter_4 (s0I : Int32) (σ : AM) : Option (Int32 × AM) := lp F_Db_isBetter (4, 0, 0, 0, 0, s0I, σ)
set_option maxRecDepth 20000 in
theorem E_Db_isBetter_0 (v0R : Nat) (v1I : Int32) (v2I : Int32) (v3I : Int32) (σ : AM) : L_Db_isBetter_0 v0R v1I v2I v3I σ = (gd (okO σ v0R 9) <| if (aI σ v0R 12) = ((-1) : Int32) then (L_Db_isBetter_1 v0R v1I σ) else (if v1I = (aI σ v0R 12) then (if v2I = (aI σ v0R 13) then (if v3I < (aI σ v0R 14) then (L_Db_isBetter_4 ((1 : Int32)) σ) else (L_Db_isBetter_4 ((0 : Int32)) σ)) else (if (aI σ v0R 13) < v2I then (L_Db_isBetter_4 ((1 : Int32)) σ) else (L_Db_isBetter_4 ((0 : Int32)) σ))) else (L_Db_isBetter_1 v0R v1I σ))) := by
  unfold L_Db_isBetter_0
  rw [lp_eq]
  show lpK (lp F_Db_isBetter) (T_Db_isBetter_0 v0R v1I v2I v3I σ) = _
  unfold T_Db_isBetter_0
  simp only [lpK_ite, lq_inl, lq_inr, lpK_bnd, lpK_gd, lq_let]
  try rfl
set_option maxRecDepth 20000 in
theorem E_Db_isBetter_1 (v0R : Nat) (v1I : Int32) (σ : AM) : L_Db_isBetter_1 v0R v1I σ = (gd (okO σ v0R 9) <| if (aI σ v0R 12) = ((-1) : Int32) then (L_Db_isBetter_2 σ) else (if v1I < (aI σ v0R 12) then (L_Db_isBetter_2 σ) else (L_Db_isBetter_3 ((0 : Int32)) σ))) := by
  unfold L_Db_isBetter_1
  rw [lp_eq]
  show lpK (lp F_Db_isBetter) (T_Db_isBetter_1 v0R v1I σ) = _
  unfold T_Db_isBetter_1
  simp only [lpK_ite, lq_inl, lq_inr, lpK_bnd, lpK_gd, lq_let]
  try rfl
set_option maxRecDepth 20000 in
theorem E_Db_isBetter_2  (σ : AM) : L_Db_isBetter_2  σ = (L_Db_isBetter_3 ((1 : Int32)) σ) := by
  unfold L_Db_isBetter_2
  rw [lp_eq]
  show lpK (lp F_Db_isBetter) (T_Db_isBetter_2  σ) = _
  unfold T_Db_isBetter_2
  simp only [lpK_ite, lq_inl, lq_inr, lpK_bnd, lpK_gd, lq_let]
  try rfl
set_option maxRecDepth 20000 in
theorem E_Db_isBetter_3 (s0I : Int32) (σ : AM) : L_Db_isBetter_3 s0I σ = (gd (isB s0I) <| (some (s0I, σ))) := by
  unfold L_Db_isBetter_3
  rw [lp_eq]
  show lpK (lp F_Db_isBetter) (T_Db_isBetter_3 s0I σ) = _
  unfold T_Db_isBetter_3
  simp only [lpK_ite, lq_inl, lq_inr, lpK_bnd, lpK_gd, lq_let]
  try rfl
set_option maxRecDepth 20000 in
theorem E_Db_isBetter_4 (s0I : Int32) (σ : AM) : L_Db_isBetter_4 s0I σ = (gd (isB s0I) <| (some (s0I, σ))) := by
  unfold L_Db_isBetter_4
  rw [lp_eq]
  show lpK (lp F_Db_isBetter) (T_Db_isBetter_4 s0I σ) = _
  unfold T_Db_isBetter_4
  simp only [lpK_ite, lq_inl, lq_inr, lpK_bnd, lpK_gd, lq_let]
  try rfl
noncomputable def M_Db_isBetter (v0R : Nat) (v1I : Int32) (v2I : Int32) (v3I : Int32) (σ : AM) : Option (Int32 × AM) := mw σ (L_Db_isBetter_0 v0R v1I v2I v3I σ)
def I_Db_isBetter (G : GX) (p : Program) (l : Launch) (e : Env) (s : State) (m : MethodId) (args : Array Value) (below : List Frame) (meth : Method) (c : Code) (z0 u0 n : Nat) : Prop :=
  (∀ (v0R : Nat) (v1I : Int32) (v2I : Int32) (v3I : Int32) (σ : AM), VX (QM eI G args s below z0 u0) G p l e s m args below meth c 0 z0 u0 4 (lpn F_Db_isBetter n (0, v0R, v1I, v2I, v3I, 0, σ)) 0 [(0, .ref v0R), (1, .int v1I), (2, .int v2I), (3, .int v3I)] [] σ) ∧
  (∀ (v0R : Nat) (v1I : Int32) (σ : AM), VX (QM eI G args s below z0 u0) G p l e s m args below meth c 0 z0 u0 4 (lpn F_Db_isBetter n (1, v0R, v1I, 0, 0, 0, σ)) 16 [(0, .ref v0R), (1, .int v1I)] [] σ) ∧
  (∀ (σ : AM), VX (QM eI G args s below z0 u0) G p l e s m args below meth c 0 z0 u0 4 (lpn F_Db_isBetter n (2, 0, 0, 0, 0, 0, σ)) 32 [] [] σ) ∧
  (∀ (s0I : Int32) (σ : AM), VX (QM eI G args s below z0 u0) G p l e s m args below meth c 0 z0 u0 4 (lpn F_Db_isBetter n (3, 0, 0, 0, 0, s0I, σ)) 37 [] [.int s0I] σ) ∧
  (∀ (s0I : Int32) (σ : AM), VX (QM eI G args s below z0 u0) G p l e s m args below meth c 0 z0 u0 4 (lpn F_Db_isBetter n (4, 0, 0, 0, 0, s0I, σ)) 75 [] [.int s0I] σ)
set_option maxRecDepth 20000 in
theorem s_Db_isBetter_0 {G : GX} {p : Program} {l : Launch} {e : Env} {s : State} {m : MethodId} {args : Array Value} {below : List Frame} {meth : Method} {c : Code} {z0 u0 n : Nat} (C : Cx G p s m args meth c prog_4_method_10_code 4 "BellPlate$Doubt" ((some FieldType.boolean))) (IH : I_Db_isBetter G p l e s m args below meth c z0 u0 n) (v0R : Nat) (v1I : Int32) (v2I : Int32) (v3I : Int32) (σ : AM) : VX (QM eI G args s below z0 u0) G p l e s m args below meth c 0 z0 u0 4 (lpK (lpn F_Db_isBetter n) (T_Db_isBetter_0 v0R v1I v2I v3I σ)) 0 [(0, .ref v0R), (1, .int v1I), (2, .int v2I), (3, .int v3I)] [] σ := by
  unfold T_Db_isBetter_0
  refine x_aload_n C d_Db_isBetter_0 0 rfl ?_
  refine x_gd (fun h1 => ?_)
  refine x_getI (k := 12) C (okO_iff.mp h1) rfl j8_ok (by decide) rfl w548 d_Db_isBetter_1 ?_
  refine x_iconst (v := ((-1) : Int32)) C d_Db_isBetter_4 (by decide) ?_
  refine x_icmp_eq (tgt := 16) C d_Db_isBetter_5 (by decide) (fun _ => ?_) (fun _ => ?_)
  · refine x_lv [0, 1] rfl ?_
    exact IH.2.1 v0R v1I (σ)
  · refine x_iload_n C d_Db_isBetter_8 1 rfl ?_
    refine x_aload_n C d_Db_isBetter_9 0 rfl ?_
    refine x_getI (k := 12) C (okO_iff.mp h1) rfl j8_ok (by decide) rfl w548 d_Db_isBetter_10 ?_
    refine x_icmp_eq (tgt := 38) C d_Db_isBetter_13 (by decide) (fun _ => ?_) (fun _ => ?_)
    · refine x_iload_n C d_Db_isBetter_38 2 rfl ?_
      refine x_aload_n C d_Db_isBetter_39 0 rfl ?_
      refine x_getI (k := 13) C (okO_iff.mp h1) rfl j8_ok (by decide) rfl w549 d_Db_isBetter_40 ?_
      refine x_icmp_eq (tgt := 62) C d_Db_isBetter_43 (by decide) (fun _ => ?_) (fun _ => ?_)
      · refine x_iload_n C d_Db_isBetter_62 3 rfl ?_
        refine x_aload_n C d_Db_isBetter_63 0 rfl ?_
        refine x_getI (k := 14) C (okO_iff.mp h1) rfl j8_ok (by decide) rfl w550 d_Db_isBetter_64 ?_
        refine x_icmp_ge (tgt := 74) C d_Db_isBetter_67 (by decide) (fun _ => ?_) (fun _ => ?_)
        · refine x_iconst (v := (1 : Int32)) C d_Db_isBetter_70 (by decide) ?_
          refine x_goto (tgt := 75) C d_Db_isBetter_71 (by decide) ?_
          refine x_lv [] rfl ?_
          exact IH.2.2.2.2 ((1 : Int32)) (σ)
        · refine x_iconst (v := (0 : Int32)) C d_Db_isBetter_74 (by decide) ?_
          refine x_lv [] rfl ?_
          exact IH.2.2.2.2 ((0 : Int32)) (σ)
      · refine x_iload_n C d_Db_isBetter_46 2 rfl ?_
        refine x_aload_n C d_Db_isBetter_47 0 rfl ?_
        refine x_getI (k := 13) C (okO_iff.mp h1) rfl j8_ok (by decide) rfl w549 d_Db_isBetter_48 ?_
        refine x_icmp_le (tgt := 58) C d_Db_isBetter_51 (by decide) (fun _ => ?_) (fun _ => ?_)
        · refine x_iconst (v := (1 : Int32)) C d_Db_isBetter_54 (by decide) ?_
          refine x_goto (tgt := 75) C d_Db_isBetter_55 (by decide) ?_
          refine x_lv [] rfl ?_
          exact IH.2.2.2.2 ((1 : Int32)) (σ)
        · refine x_iconst (v := (0 : Int32)) C d_Db_isBetter_58 (by decide) ?_
          refine x_goto (tgt := 75) C d_Db_isBetter_59 (by decide) ?_
          refine x_lv [] rfl ?_
          exact IH.2.2.2.2 ((0 : Int32)) (σ)
    · refine x_lv [0, 1] rfl ?_
      exact IH.2.1 v0R v1I (σ)
set_option maxRecDepth 20000 in
theorem s_Db_isBetter_1 {G : GX} {p : Program} {l : Launch} {e : Env} {s : State} {m : MethodId} {args : Array Value} {below : List Frame} {meth : Method} {c : Code} {z0 u0 n : Nat} (C : Cx G p s m args meth c prog_4_method_10_code 4 "BellPlate$Doubt" ((some FieldType.boolean))) (IH : I_Db_isBetter G p l e s m args below meth c z0 u0 n) (v0R : Nat) (v1I : Int32) (σ : AM) : VX (QM eI G args s below z0 u0) G p l e s m args below meth c 0 z0 u0 4 (lpK (lpn F_Db_isBetter n) (T_Db_isBetter_1 v0R v1I σ)) 16 [(0, .ref v0R), (1, .int v1I)] [] σ := by
  unfold T_Db_isBetter_1
  refine x_aload_n C d_Db_isBetter_16 0 rfl ?_
  refine x_gd (fun h1 => ?_)
  refine x_getI (k := 12) C (okO_iff.mp h1) rfl j8_ok (by decide) rfl w548 d_Db_isBetter_17 ?_
  refine x_iconst (v := ((-1) : Int32)) C d_Db_isBetter_20 (by decide) ?_
  refine x_icmp_eq (tgt := 32) C d_Db_isBetter_21 (by decide) (fun _ => ?_) (fun _ => ?_)
  · refine x_lv [] rfl ?_
    exact IH.2.2.1  (σ)
  · refine x_iload_n C d_Db_isBetter_24 1 rfl ?_
    refine x_aload_n C d_Db_isBetter_25 0 rfl ?_
    refine x_getI (k := 12) C (okO_iff.mp h1) rfl j8_ok (by decide) rfl w548 d_Db_isBetter_26 ?_
    refine x_icmp_ge (tgt := 36) C d_Db_isBetter_29 (by decide) (fun _ => ?_) (fun _ => ?_)
    · refine x_lv [] rfl ?_
      exact IH.2.2.1  (σ)
    · refine x_iconst (v := (0 : Int32)) C d_Db_isBetter_36 (by decide) ?_
      refine x_lv [] rfl ?_
      exact IH.2.2.2.1 ((0 : Int32)) (σ)
set_option maxRecDepth 20000 in
theorem s_Db_isBetter_2 {G : GX} {p : Program} {l : Launch} {e : Env} {s : State} {m : MethodId} {args : Array Value} {below : List Frame} {meth : Method} {c : Code} {z0 u0 n : Nat} (C : Cx G p s m args meth c prog_4_method_10_code 4 "BellPlate$Doubt" ((some FieldType.boolean))) (IH : I_Db_isBetter G p l e s m args below meth c z0 u0 n)  (σ : AM) : VX (QM eI G args s below z0 u0) G p l e s m args below meth c 0 z0 u0 4 (lpK (lpn F_Db_isBetter n) (T_Db_isBetter_2  σ)) 32 [] [] σ := by
  unfold T_Db_isBetter_2
  refine x_iconst (v := (1 : Int32)) C d_Db_isBetter_32 (by decide) ?_
  refine x_goto (tgt := 37) C d_Db_isBetter_33 (by decide) ?_
  exact IH.2.2.2.1 ((1 : Int32)) (σ)
set_option maxRecDepth 20000 in
theorem s_Db_isBetter_3 {G : GX} {p : Program} {l : Launch} {e : Env} {s : State} {m : MethodId} {args : Array Value} {below : List Frame} {meth : Method} {c : Code} {z0 u0 n : Nat} (C : Cx G p s m args meth c prog_4_method_10_code 4 "BellPlate$Doubt" ((some FieldType.boolean))) (IH : I_Db_isBetter G p l e s m args below meth c z0 u0 n) (s0I : Int32) (σ : AM) : VX (QM eI G args s below z0 u0) G p l e s m args below meth c 0 z0 u0 4 (lpK (lpn F_Db_isBetter n) (T_Db_isBetter_3 s0I σ)) 37 [] [.int s0I] σ := by
  unfold T_Db_isBetter_3
  refine x_gd (fun h1 => ?_)
  exact x_zret C (isB_narrow h1) d_Db_isBetter_37
set_option maxRecDepth 20000 in
theorem s_Db_isBetter_4 {G : GX} {p : Program} {l : Launch} {e : Env} {s : State} {m : MethodId} {args : Array Value} {below : List Frame} {meth : Method} {c : Code} {z0 u0 n : Nat} (C : Cx G p s m args meth c prog_4_method_10_code 4 "BellPlate$Doubt" ((some FieldType.boolean))) (IH : I_Db_isBetter G p l e s m args below meth c z0 u0 n) (s0I : Int32) (σ : AM) : VX (QM eI G args s below z0 u0) G p l e s m args below meth c 0 z0 u0 4 (lpK (lpn F_Db_isBetter n) (T_Db_isBetter_4 s0I σ)) 75 [] [.int s0I] σ := by
  unfold T_Db_isBetter_4
  refine x_gd (fun h1 => ?_)
  exact x_zret C (isB_narrow h1) d_Db_isBetter_75
theorem i_Db_isBetter {G : GX} {p : Program} {l : Launch} {e : Env} {s : State} {m : MethodId} {args : Array Value} {below : List Frame} {meth : Method} {c : Code} {z0 u0 : Nat} (C : Cx G p s m args meth c prog_4_method_10_code 4 "BellPlate$Doubt" ((some FieldType.boolean))) (n : Nat) : I_Db_isBetter G p l e s m args below meth c z0 u0 n := by
  induction n with
  | zero => exact ⟨fun _ _ _ _ _ => x_none, fun _ _ _ => x_none, fun _ => x_none, fun _ _ => x_none, fun _ _ => x_none⟩
  | succ n IH => exact ⟨fun v0R v1I v2I v3I σ => s_Db_isBetter_0 C IH v0R v1I v2I v3I σ, fun v0R v1I σ => s_Db_isBetter_1 C IH v0R v1I σ, fun σ => s_Db_isBetter_2 C IH σ, fun s0I σ => s_Db_isBetter_3 C IH s0I σ, fun s0I σ => s_Db_isBetter_4 C IH s0I σ⟩
theorem c_Db_isBetter (G : GX) (l : Launch) (v0R : Nat) (v1I : Int32) (v2I : Int32) (v3I : Int32) (σ : AM) : CT eI G l 0 y_Db_isBetter prog_4_method_10_code 4 ((some FieldType.boolean)) [.ref v0R, .int v1I, .int v2I, .int v3I] σ (M_Db_isBetter v0R v1I v2I v3I σ) := by
  refine ct_of (by decide +kernel) (Nat.le_of_ble_eq_true rfl) (fun p e s m args below meth c C hin => ?_)
  refine x_lve (lv' := [(0, .ref v0R), (1, .int v1I), (2, .int v2I), (3, .int v3I)]) rfl ?_
  intro r σ' h
  obtain ⟨n, hn⟩ := (lp_iff _ _ _).mp h
  exact (i_Db_isBetter C n).1 v0R v1I v2I v3I σ r σ' hn
/-! BellPlate$Doubt.holdsGrown(III)Z -/
abbrev y_Db_holdsGrown : MethodName := ⟨"BellPlate$Doubt", "holdsGrown", "(III)Z"⟩
theorem k_Db_holdsGrown : y_Db_holdsGrown.cls ≠ "java/lang/invoke/MethodHandle" ∧ y_Db_holdsGrown.cls ≠ "java/lang/invoke/VarHandle" ∧ (parseMethodDescriptor y_Db_holdsGrown.desc).map (fun d => d.parameters.length) = some 3 := by decide +kernel
theorem d_Db_holdsGrown_0 : decode prog_4_method_11_code 0 = .ok (.iload_n 1, 1) := by decide +kernel
theorem d_Db_holdsGrown_1 : decode prog_4_method_11_code 1 = .ok (.istore 4, 2) := by decide +kernel
theorem d_Db_holdsGrown_3 : decode prog_4_method_11_code 3 = .ok (.iload 4, 2) := by decide +kernel
theorem d_Db_holdsGrown_5 : decode prog_4_method_11_code 5 = .ok (.aload_n 0, 1) := by decide +kernel
theorem d_Db_holdsGrown_6 : decode prog_4_method_11_code 6 = .ok (.getfield 19, 3) := by decide +kernel
theorem d_Db_holdsGrown_9 : decode prog_4_method_11_code 9 = .ok (.invokevirtual 57, 3) := by decide +kernel
theorem d_Db_holdsGrown_12 : decode prog_4_method_11_code 12 = .ok (.if_icmp .ge 71, 3) := by decide +kernel
theorem d_Db_holdsGrown_15 : decode prog_4_method_11_code 15 = .ok (.aload_n 0, 1) := by decide +kernel
theorem d_Db_holdsGrown_16 : decode prog_4_method_11_code 16 = .ok (.getfield 19, 3) := by decide +kernel
theorem d_Db_holdsGrown_19 : decode prog_4_method_11_code 19 = .ok (.iload 4, 2) := by decide +kernel
theorem d_Db_holdsGrown_21 : decode prog_4_method_11_code 21 = .ok (.invokevirtual 64, 3) := by decide +kernel
theorem d_Db_holdsGrown_24 : decode prog_4_method_11_code 24 = .ok (.istore 5, 2) := by decide +kernel
theorem d_Db_holdsGrown_26 : decode prog_4_method_11_code 26 = .ok (.iload 5, 2) := by decide +kernel
theorem d_Db_holdsGrown_28 : decode prog_4_method_11_code 28 = .ok (.aload_n 0, 1) := by decide +kernel
theorem d_Db_holdsGrown_29 : decode prog_4_method_11_code 29 = .ok (.getfield 38, 3) := by decide +kernel
theorem d_Db_holdsGrown_32 : decode prog_4_method_11_code 32 = .ok (.invokestatic 141, 3) := by decide +kernel
theorem d_Db_holdsGrown_35 : decode prog_4_method_11_code 35 = .ok (.iload 5, 2) := by decide +kernel
theorem d_Db_holdsGrown_37 : decode prog_4_method_11_code 37 = .ok (.iload_n 2, 1) := by decide +kernel
theorem d_Db_holdsGrown_38 : decode prog_4_method_11_code 38 = .ok (.ishr, 1) := by decide +kernel
theorem d_Db_holdsGrown_39 : decode prog_4_method_11_code 39 = .ok (.iconst 1, 1) := by decide +kernel
theorem d_Db_holdsGrown_40 : decode prog_4_method_11_code 40 = .ok (.iand, 1) := by decide +kernel
theorem d_Db_holdsGrown_41 : decode prog_4_method_11_code 41 = .ok (.iload_n 3, 1) := by decide +kernel
theorem d_Db_holdsGrown_42 : decode prog_4_method_11_code 42 = .ok (.imul, 1) := by decide +kernel
theorem d_Db_holdsGrown_43 : decode prog_4_method_11_code 43 = .ok (.iadd, 1) := by decide +kernel
theorem d_Db_holdsGrown_44 : decode prog_4_method_11_code 44 = .ok (.istore 6, 2) := by decide +kernel
theorem d_Db_holdsGrown_46 : decode prog_4_method_11_code 46 = .ok (.iload 6, 2) := by decide +kernel
theorem d_Db_holdsGrown_48 : decode prog_4_method_11_code 48 = .ok (.aload_n 0, 1) := by decide +kernel
theorem d_Db_holdsGrown_49 : decode prog_4_method_11_code 49 = .ok (.getfield 9, 3) := by decide +kernel
theorem d_Db_holdsGrown_52 : decode prog_4_method_11_code 52 = .ok (.invokevirtual 138, 3) := by decide +kernel
theorem d_Db_holdsGrown_55 : decode prog_4_method_11_code 55 = .ok (.if_icmp .lt 7, 3) := by decide +kernel
theorem d_Db_holdsGrown_58 : decode prog_4_method_11_code 58 = .ok (.iconst 1, 1) := by decide +kernel
theorem d_Db_holdsGrown_59 : decode prog_4_method_11_code 59 = .ok (.goto 4, 3) := by decide +kernel
theorem d_Db_holdsGrown_62 : decode prog_4_method_11_code 62 = .ok (.iconst 0, 1) := by decide +kernel
theorem d_Db_holdsGrown_63 : decode prog_4_method_11_code 63 = .ok (.aload_n 0, 1) := by decide +kernel
theorem d_Db_holdsGrown_64 : decode prog_4_method_11_code 64 = .ok (.getfield 19, 3) := by decide +kernel
theorem d_Db_holdsGrown_67 : decode prog_4_method_11_code 67 = .ok (.iload 4, 2) := by decide +kernel
theorem d_Db_holdsGrown_69 : decode prog_4_method_11_code 69 = .ok (.invokevirtual 60, 3) := by decide +kernel
theorem d_Db_holdsGrown_72 : decode prog_4_method_11_code 72 = .ok (.if_icmp .eq 5, 3) := by decide +kernel
theorem d_Db_holdsGrown_75 : decode prog_4_method_11_code 75 = .ok (.iconst 0, 1) := by decide +kernel
theorem d_Db_holdsGrown_76 : decode prog_4_method_11_code 76 = .ok (.ireturn, 1) := by decide +kernel
theorem d_Db_holdsGrown_77 : decode prog_4_method_11_code 77 = .ok (.iinc 4 1, 3) := by decide +kernel
theorem d_Db_holdsGrown_80 : decode prog_4_method_11_code 80 = .ok (.goto (-77), 3) := by decide +kernel
theorem d_Db_holdsGrown_83 : decode prog_4_method_11_code 83 = .ok (.iconst 1, 1) := by decide +kernel
theorem d_Db_holdsGrown_84 : decode prog_4_method_11_code 84 = .ok (.ireturn, 1) := by decide +kernel
abbrev S_Db_holdsGrown : Type := Nat × Nat × Int32 × Int32 × Int32 × Int32 × Int32 × AM
noncomputable def T_Db_holdsGrown_0 (v0R : Nat) (v1I : Int32) (v2I : Int32) (v3I : Int32) (σ : AM) : S_Db_holdsGrown ⊕ Option (Int32 × AM) :=
  .inl (1, v0R, 0, v2I, v3I, v1I, 0, σ)
noncomputable def T_Db_holdsGrown_1 (v0R : Nat) (v2I : Int32) (v3I : Int32) (v4I : Int32) (σ : AM) : S_Db_holdsGrown ⊕ Option (Int32 × AM) :=
  gdT (okO σ v0R 9) <| gdT (okO σ (aR σ v0R 2) 4) <| bndT (M_Bk_trials (aR σ v0R 2) σ) fun r3 σ4 => if v4I < r3 then (gdT (okO σ4 v0R 9) <| gdT (okO σ4 (aR σ4 v0R 2) 4) <| bndT (M_Bk_setAt (aR σ4 v0R 2) v4I σ4) fun r7 σ8 => gdT (okO σ8 v0R 9) <| gdT (okO σ8 (aR σ8 v0R 6) 101) <| bndT (M_Tw_sumOf r7 (aR σ8 v0R 6) σ8) fun r11 σ12 => letT (r11 + (((r7 >>> (v2I &&& 31)) &&& (1 : Int32)) * v3I)) fun x13 => gdT (okO σ12 v0R 9) <| gdT (okO σ12 (aR σ12 v0R 0) 1) <| bndT (M_Tw_bar (aR σ12 v0R 0) σ12) fun r16 σ17 => if x13 < r16 then (.inl (2, v0R, 0, v2I, v3I, v4I, (0 : Int32), σ17)) else (.inl (2, v0R, 0, v2I, v3I, v4I, (1 : Int32), σ17))) else (.inr (some ((1 : Int32), σ4)))
noncomputable def T_Db_holdsGrown_2 (v0R : Nat) (v2I : Int32) (v3I : Int32) (v4I : Int32) (s0I : Int32) (σ : AM) : S_Db_holdsGrown ⊕ Option (Int32 × AM) :=
  gdT (okO σ v0R 9) <| gdT (okO σ (aR σ v0R 2) 4) <| bndT (M_Bk_rangAt (aR σ v0R 2) v4I σ) fun r3 σ4 => if s0I = r3 then (.inl (1, v0R, 0, v2I, v3I, v4I + (1 : Int32), 0, σ4)) else (.inr (some ((0 : Int32), σ4)))
noncomputable def F_Db_holdsGrown : S_Db_holdsGrown → S_Db_holdsGrown ⊕ Option (Int32 × AM) := fun s => match s.1 with
  | 0 => T_Db_holdsGrown_0 (s.2.1) (s.2.2.1) (s.2.2.2.1) (s.2.2.2.2.1) (s.2.2.2.2.2.2.2)
  | 1 => T_Db_holdsGrown_1 (s.2.1) (s.2.2.2.1) (s.2.2.2.2.1) (s.2.2.2.2.2.1) (s.2.2.2.2.2.2.2)
  | _ => T_Db_holdsGrown_2 (s.2.1) (s.2.2.2.1) (s.2.2.2.2.1) (s.2.2.2.2.2.1) (s.2.2.2.2.2.2.1) (s.2.2.2.2.2.2.2)
noncomputable def L_Db_holdsGrown_0 (v0R : Nat) (v1I : Int32) (v2I : Int32) (v3I : Int32) (σ : AM) : Option (Int32 × AM) := lp F_Db_holdsGrown (0, v0R, v1I, v2I, v3I, 0, 0, σ)
noncomputable def L_Db_holdsGrown_1 (v0R : Nat) (v2I : Int32) (v3I : Int32) (v4I : Int32) (σ : AM) : Option (Int32 × AM) := lp F_Db_holdsGrown (1, v0R, 0, v2I, v3I, v4I, 0, σ)
noncomputable def L_Db_holdsGrown_2 (v0R : Nat) (v2I : Int32) (v3I : Int32) (v4I : Int32) (s0I : Int32) (σ : AM) : Option (Int32 × AM) := lp F_Db_holdsGrown (2, v0R, 0, v2I, v3I, v4I, s0I, σ)
set_option maxRecDepth 20000 in
theorem E_Db_holdsGrown_0 (v0R : Nat) (v1I : Int32) (v2I : Int32) (v3I : Int32) (σ : AM) : L_Db_holdsGrown_0 v0R v1I v2I v3I σ = (L_Db_holdsGrown_1 v0R v2I v3I v1I σ) := by
  unfold L_Db_holdsGrown_0
  rw [lp_eq]
  show lpK (lp F_Db_holdsGrown) (T_Db_holdsGrown_0 v0R v1I v2I v3I σ) = _
  unfold T_Db_holdsGrown_0
  simp only [lpK_ite, lq_inl, lq_inr, lpK_bnd, lpK_gd, lq_let]
  try rfl
set_option maxRecDepth 20000 in
theorem E_Db_holdsGrown_1 (v0R : Nat) (v2I : Int32) (v3I : Int32) (v4I : Int32) (σ : AM) : L_Db_holdsGrown_1 v0R v2I v3I v4I σ = (gd (okO σ v0R 9) <| gd (okO σ (aR σ v0R 2) 4) <| bnd (M_Bk_trials (aR σ v0R 2) σ) fun r3 σ4 => if v4I < r3 then (gd (okO σ4 v0R 9) <| gd (okO σ4 (aR σ4 v0R 2) 4) <| bnd (M_Bk_setAt (aR σ4 v0R 2) v4I σ4) fun r7 σ8 => gd (okO σ8 v0R 9) <| gd (okO σ8 (aR σ8 v0R 6) 101) <| bnd (M_Tw_sumOf r7 (aR σ8 v0R 6) σ8) fun r11 σ12 => letT (r11 + (((r7 >>> (v2I &&& 31)) &&& (1 : Int32)) * v3I)) fun x13 => gd (okO σ12 v0R 9) <| gd (okO σ12 (aR σ12 v0R 0) 1) <| bnd (M_Tw_bar (aR σ12 v0R 0) σ12) fun r16 σ17 => if x13 < r16 then (L_Db_holdsGrown_2 v0R v2I v3I v4I ((0 : Int32)) σ17) else (L_Db_holdsGrown_2 v0R v2I v3I v4I ((1 : Int32)) σ17)) else ((some ((1 : Int32), σ4)))) := by
  unfold L_Db_holdsGrown_1
  rw [lp_eq]
  show lpK (lp F_Db_holdsGrown) (T_Db_holdsGrown_1 v0R v2I v3I v4I σ) = _
  unfold T_Db_holdsGrown_1
  simp only [lpK_ite, lq_inl, lq_inr, lpK_bnd, lpK_gd, lq_let]
  try rfl
set_option maxRecDepth 20000 in
theorem E_Db_holdsGrown_2 (v0R : Nat) (v2I : Int32) (v3I : Int32) (v4I : Int32) (s0I : Int32) (σ : AM) : L_Db_holdsGrown_2 v0R v2I v3I v4I s0I σ = (gd (okO σ v0R 9) <| gd (okO σ (aR σ v0R 2) 4) <| bnd (M_Bk_rangAt (aR σ v0R 2) v4I σ) fun r3 σ4 => if s0I = r3 then (L_Db_holdsGrown_1 v0R v2I v3I (v4I + (1 : Int32)) σ4) else ((some ((0 : Int32), σ4)))) := by
  unfold L_Db_holdsGrown_2
  rw [lp_eq]
  show lpK (lp F_Db_holdsGrown) (T_Db_holdsGrown_2 v0R v2I v3I v4I s0I σ) = _
  unfold T_Db_holdsGrown_2
  simp only [lpK_ite, lq_inl, lq_inr, lpK_bnd, lpK_gd, lq_let]
  try rfl
noncomputable def M_Db_holdsGrown (v0R : Nat) (v1I : Int32) (v2I : Int32) (v3I : Int32) (σ : AM) : Option (Int32 × AM) := mw σ (L_Db_holdsGrown_0 v0R v1I v2I v3I σ)
def I_Db_holdsGrown (G : GX) (p : Program) (l : Launch) (e : Env) (s : State) (m : MethodId) (args : Array Value) (below : List Frame) (meth : Method) (c : Code) (z0 u0 n : Nat) : Prop :=
  (∀ (v0R : Nat) (v1I : Int32) (v2I : Int32) (v3I : Int32) (σ : AM), VX (QM eI G args s below z0 u0) G p l e s m args below meth c 2 z0 u0 7 (lpn F_Db_holdsGrown n (0, v0R, v1I, v2I, v3I, 0, 0, σ)) 0 [(0, .ref v0R), (1, .int v1I), (2, .int v2I), (3, .int v3I)] [] σ) ∧
  (∀ (v0R : Nat) (v2I : Int32) (v3I : Int32) (v4I : Int32) (σ : AM), VX (QM eI G args s below z0 u0) G p l e s m args below meth c 2 z0 u0 7 (lpn F_Db_holdsGrown n (1, v0R, 0, v2I, v3I, v4I, 0, σ)) 3 [(0, .ref v0R), (2, .int v2I), (3, .int v3I), (4, .int v4I)] [] σ) ∧
  (∀ (v0R : Nat) (v2I : Int32) (v3I : Int32) (v4I : Int32) (s0I : Int32) (σ : AM), VX (QM eI G args s below z0 u0) G p l e s m args below meth c 2 z0 u0 7 (lpn F_Db_holdsGrown n (2, v0R, 0, v2I, v3I, v4I, s0I, σ)) 63 [(0, .ref v0R), (2, .int v2I), (3, .int v3I), (4, .int v4I)] [.int s0I] σ)
set_option maxRecDepth 20000 in
theorem s_Db_holdsGrown_0 {G : GX} {p : Program} {l : Launch} {e : Env} {s : State} {m : MethodId} {args : Array Value} {below : List Frame} {meth : Method} {c : Code} {z0 u0 n : Nat} (C : Cx G p s m args meth c prog_4_method_11_code 7 "BellPlate$Doubt" ((some FieldType.boolean))) (IH : I_Db_holdsGrown G p l e s m args below meth c z0 u0 n) (v0R : Nat) (v1I : Int32) (v2I : Int32) (v3I : Int32) (σ : AM) : VX (QM eI G args s below z0 u0) G p l e s m args below meth c 2 z0 u0 7 (lpK (lpn F_Db_holdsGrown n) (T_Db_holdsGrown_0 v0R v1I v2I v3I σ)) 0 [(0, .ref v0R), (1, .int v1I), (2, .int v2I), (3, .int v3I)] [] σ := by
  unfold T_Db_holdsGrown_0
  refine x_iload_n C d_Db_holdsGrown_0 1 rfl ?_
  refine x_istore (lv' := [(4, .int v1I), (0, .ref v0R), (1, .int v1I), (2, .int v2I), (3, .int v3I)]) C d_Db_holdsGrown_1 (by decide) rfl ?_
  refine x_lv [1, 3, 4, 0] rfl ?_
  exact IH.2.1 v0R v2I v3I v1I (σ)
set_option maxRecDepth 20000 in
theorem s_Db_holdsGrown_1 {G : GX} {p : Program} {l : Launch} {e : Env} {s : State} {m : MethodId} {args : Array Value} {below : List Frame} {meth : Method} {c : Code} {z0 u0 n : Nat} (C : Cx G p s m args meth c prog_4_method_11_code 7 "BellPlate$Doubt" ((some FieldType.boolean))) (IH : I_Db_holdsGrown G p l e s m args below meth c z0 u0 n) (v0R : Nat) (v2I : Int32) (v3I : Int32) (v4I : Int32) (σ : AM) : VX (QM eI G args s below z0 u0) G p l e s m args below meth c 2 z0 u0 7 (lpK (lpn F_Db_holdsGrown n) (T_Db_holdsGrown_1 v0R v2I v3I v4I σ)) 3 [(0, .ref v0R), (2, .int v2I), (3, .int v3I), (4, .int v4I)] [] σ := by
  unfold T_Db_holdsGrown_1
  refine x_iload C d_Db_holdsGrown_3 3 rfl ?_
  refine x_aload_n C d_Db_holdsGrown_5 0 rfl ?_
  refine x_gd (fun h1 => ?_)
  refine x_gd (fun h2 => ?_)
  refine x_getR (k := 2) (kv := 4) C (okO_iff.mp h1) rfl j8_ok (by decide) rfl (okO_iff.mp h2) (by decide) w538 d_Db_holdsGrown_6 ?_
  refine x_callVI (As := []) C (c_Bk_trials G l (aR σ v0R 2)  σ) (okO_iff.mp h2) rfl w1367 w1368 w1413 w1369 w124 k_Bk_trials rfl (by decide) (by decide) rfl (Nat.le_of_ble_eq_true rfl) d_Db_holdsGrown_9 (fun r3 σ4 => ?_)
  refine x_icmp_ge (tgt := 83) C d_Db_holdsGrown_12 (by decide) (fun _ => ?_) (fun _ => ?_)
  · refine x_aload_n C d_Db_holdsGrown_15 0 rfl ?_
    refine x_gd (fun h5 => ?_)
    refine x_gd (fun h6 => ?_)
    refine x_getR (k := 2) (kv := 4) C (okO_iff.mp h5) rfl j8_ok (by decide) rfl (okO_iff.mp h6) (by decide) w538 d_Db_holdsGrown_16 ?_
    refine x_iload C d_Db_holdsGrown_19 3 rfl ?_
    refine x_callVI (As := [.int v4I]) C (c_Bk_setAt G l (aR σ4 v0R 2) v4I σ4) (okO_iff.mp h6) rfl w1371 w1372 w1415 w1373 w124 k_Bk_setAt rfl (by decide) (by decide) rfl (Nat.le_of_ble_eq_true rfl) d_Db_holdsGrown_21 (fun r7 σ8 => ?_)
    refine x_istore (lv' := [(5, .int r7), (0, .ref v0R), (2, .int v2I), (3, .int v3I), (4, .int v4I)]) C d_Db_holdsGrown_24 (by decide) rfl ?_
    refine x_iload C d_Db_holdsGrown_26 0 rfl ?_
    refine x_aload_n C d_Db_holdsGrown_28 1 rfl ?_
    refine x_gd (fun h9 => ?_)
    refine x_gd (fun h10 => ?_)
    refine x_getR (k := 6) (kv := 101) C (okO_iff.mp h9) rfl j8_ok (by decide) rfl (okO_iff.mp h10) (by decide) w542 d_Db_holdsGrown_29 ?_
    refine x_callSI (As := [.int r7, .ref (aR σ8 v0R 6)]) C (c_Tw_sumOf G l r7 (aR σ8 v0R 6) σ8) w671 w1469 w672 w122 k_Tw_sumOf rfl (by decide) (by decide) rfl (Nat.le_of_ble_eq_true rfl) d_Db_holdsGrown_32 (fun r11 σ12 => ?_)
    refine x_iload C d_Db_holdsGrown_35 0 rfl ?_
    refine x_iload_n C d_Db_holdsGrown_37 2 rfl ?_
    refine x_ishr C d_Db_holdsGrown_38 ?_
    refine x_iconst (v := (1 : Int32)) C d_Db_holdsGrown_39 (by decide) ?_
    refine x_iand C d_Db_holdsGrown_40 ?_
    refine x_iload_n C d_Db_holdsGrown_41 3 rfl ?_
    refine x_imul C d_Db_holdsGrown_42 ?_
    refine x_iadd C d_Db_holdsGrown_43 ?_
    refine x_letI (fun x13 _ => ?_)
    refine x_istore (lv' := [(6, .int x13), (5, .int r7), (0, .ref v0R), (2, .int v2I), (3, .int v3I), (4, .int v4I)]) C d_Db_holdsGrown_44 (by decide) rfl ?_
    refine x_iload C d_Db_holdsGrown_46 0 rfl ?_
    refine x_aload_n C d_Db_holdsGrown_48 2 rfl ?_
    refine x_gd (fun h14 => ?_)
    refine x_gd (fun h15 => ?_)
    refine x_getR (k := 0) (kv := 1) C (okO_iff.mp h14) rfl j8_ok (by decide) rfl (okO_iff.mp h15) (by decide) w536 d_Db_holdsGrown_49 ?_
    refine x_callVI (As := []) C (c_Tw_bar G l (aR σ12 v0R 0)  σ12) (okO_iff.mp h15) rfl w655 w656 w1468 w657 w122 k_Tw_bar rfl (by decide) (by decide) rfl (Nat.le_of_ble_eq_true rfl) d_Db_holdsGrown_52 (fun r16 σ17 => ?_)
    refine x_icmp_lt (tgt := 62) C d_Db_holdsGrown_55 (by decide) (fun _ => ?_) (fun _ => ?_)
    · refine x_iconst (v := (0 : Int32)) C d_Db_holdsGrown_62 (by decide) ?_
      refine x_lv [2, 3, 4, 5] rfl ?_
      exact IH.2.2 v0R v2I v3I v4I ((0 : Int32)) (σ17)
    · refine x_iconst (v := (1 : Int32)) C d_Db_holdsGrown_58 (by decide) ?_
      refine x_goto (tgt := 63) C d_Db_holdsGrown_59 (by decide) ?_
      refine x_lv [2, 3, 4, 5] rfl ?_
      exact IH.2.2 v0R v2I v3I v4I ((1 : Int32)) (σ17)
  · refine x_iconst (v := (1 : Int32)) C d_Db_holdsGrown_83 (by decide) ?_
    exact x_zret C (by decide) d_Db_holdsGrown_84
set_option maxRecDepth 20000 in
theorem s_Db_holdsGrown_2 {G : GX} {p : Program} {l : Launch} {e : Env} {s : State} {m : MethodId} {args : Array Value} {below : List Frame} {meth : Method} {c : Code} {z0 u0 n : Nat} (C : Cx G p s m args meth c prog_4_method_11_code 7 "BellPlate$Doubt" ((some FieldType.boolean))) (IH : I_Db_holdsGrown G p l e s m args below meth c z0 u0 n) (v0R : Nat) (v2I : Int32) (v3I : Int32) (v4I : Int32) (s0I : Int32) (σ : AM) : VX (QM eI G args s below z0 u0) G p l e s m args below meth c 2 z0 u0 7 (lpK (lpn F_Db_holdsGrown n) (T_Db_holdsGrown_2 v0R v2I v3I v4I s0I σ)) 63 [(0, .ref v0R), (2, .int v2I), (3, .int v3I), (4, .int v4I)] [.int s0I] σ := by
  unfold T_Db_holdsGrown_2
  refine x_aload_n C d_Db_holdsGrown_63 0 rfl ?_
  refine x_gd (fun h1 => ?_)
  refine x_gd (fun h2 => ?_)
  refine x_getR (k := 2) (kv := 4) C (okO_iff.mp h1) rfl j8_ok (by decide) rfl (okO_iff.mp h2) (by decide) w538 d_Db_holdsGrown_64 ?_
  refine x_iload C d_Db_holdsGrown_67 3 rfl ?_
  refine x_callVI (As := [.int v4I]) C (c_Bk_rangAt G l (aR σ v0R 2) v4I σ) (okO_iff.mp h2) rfl w1379 w1380 w1414 w1381 w124 k_Bk_rangAt rfl (by decide) (by decide) rfl (Nat.le_of_ble_eq_true rfl) d_Db_holdsGrown_69 (fun r3 σ4 => ?_)
  refine x_icmp_eq (tgt := 77) C d_Db_holdsGrown_72 (by decide) (fun _ => ?_) (fun _ => ?_)
  · refine x_iinc (v := v4I + (1 : Int32)) (lv' := [(4, .int (v4I + (1 : Int32))), (0, .ref v0R), (2, .int v2I), (3, .int v3I)]) C d_Db_holdsGrown_77 3 rfl rfl (by decide) rfl ?_
    refine x_goto (tgt := 3) C d_Db_holdsGrown_80 (by decide) ?_
    refine x_lv [1, 2, 3, 0] rfl ?_
    exact IH.2.1 v0R v2I v3I (v4I + (1 : Int32)) (σ4)
  · refine x_iconst (v := (0 : Int32)) C d_Db_holdsGrown_75 (by decide) ?_
    exact x_zret C (by decide) d_Db_holdsGrown_76
theorem i_Db_holdsGrown {G : GX} {p : Program} {l : Launch} {e : Env} {s : State} {m : MethodId} {args : Array Value} {below : List Frame} {meth : Method} {c : Code} {z0 u0 : Nat} (C : Cx G p s m args meth c prog_4_method_11_code 7 "BellPlate$Doubt" ((some FieldType.boolean))) (n : Nat) : I_Db_holdsGrown G p l e s m args below meth c z0 u0 n := by
  induction n with
  | zero => exact ⟨fun _ _ _ _ _ => x_none, fun _ _ _ _ _ => x_none, fun _ _ _ _ _ _ => x_none⟩
  | succ n IH => exact ⟨fun v0R v1I v2I v3I σ => s_Db_holdsGrown_0 C IH v0R v1I v2I v3I σ, fun v0R v2I v3I v4I σ => s_Db_holdsGrown_1 C IH v0R v2I v3I v4I σ, fun v0R v2I v3I v4I s0I σ => s_Db_holdsGrown_2 C IH v0R v2I v3I v4I s0I σ⟩
theorem c_Db_holdsGrown (G : GX) (l : Launch) (v0R : Nat) (v1I : Int32) (v2I : Int32) (v3I : Int32) (σ : AM) : CT eI G l 2 y_Db_holdsGrown prog_4_method_11_code 7 ((some FieldType.boolean)) [.ref v0R, .int v1I, .int v2I, .int v3I] σ (M_Db_holdsGrown v0R v1I v2I v3I σ) := by
  refine ct_of (by decide +kernel) (Nat.le_of_ble_eq_true rfl) (fun p e s m args below meth c C hin => ?_)
  refine x_lve (lv' := [(0, .ref v0R), (1, .int v1I), (2, .int v2I), (3, .int v3I)]) rfl ?_
  intro r σ' h
  obtain ⟨n, hn⟩ := (lp_iff _ _ _).mp h
  exact (i_Db_holdsGrown C n).1 v0R v1I v2I v3I σ r σ' hn
/-! BellPlate$Doubt.tryGrowths(I)V -/
abbrev y_Db_tryGrowths : MethodName := ⟨"BellPlate$Doubt", "tryGrowths", "(I)V"⟩
theorem k_Db_tryGrowths : y_Db_tryGrowths.cls ≠ "java/lang/invoke/MethodHandle" ∧ y_Db_tryGrowths.cls ≠ "java/lang/invoke/VarHandle" ∧ (parseMethodDescriptor y_Db_tryGrowths.desc).map (fun d => d.parameters.length) = some 1 := by decide +kernel
theorem d_Db_tryGrowths_0 : decode prog_4_method_9_code 0 = .ok (.aload_n 0, 1) := by decide +kernel
theorem d_Db_tryGrowths_1 : decode prog_4_method_9_code 1 = .ok (.getfield 19, 3) := by decide +kernel
theorem d_Db_tryGrowths_4 : decode prog_4_method_9_code 4 = .ok (.iload_n 1, 1) := by decide +kernel
theorem d_Db_tryGrowths_5 : decode prog_4_method_9_code 5 = .ok (.invokevirtual 64, 3) := by decide +kernel
theorem d_Db_tryGrowths_8 : decode prog_4_method_9_code 8 = .ok (.istore_n 2, 1) := by decide +kernel
theorem d_Db_tryGrowths_9 : decode prog_4_method_9_code 9 = .ok (.aload_n 0, 1) := by decide +kernel
theorem d_Db_tryGrowths_10 : decode prog_4_method_9_code 10 = .ok (.getfield 9, 3) := by decide +kernel
theorem d_Db_tryGrowths_13 : decode prog_4_method_9_code 13 = .ok (.invokevirtual 138, 3) := by decide +kernel
theorem d_Db_tryGrowths_16 : decode prog_4_method_9_code 16 = .ok (.iload_n 2, 1) := by decide +kernel
theorem d_Db_tryGrowths_17 : decode prog_4_method_9_code 17 = .ok (.aload_n 0, 1) := by decide +kernel
theorem d_Db_tryGrowths_18 : decode prog_4_method_9_code 18 = .ok (.getfield 38, 3) := by decide +kernel
theorem d_Db_tryGrowths_21 : decode prog_4_method_9_code 21 = .ok (.invokestatic 141, 3) := by decide +kernel
theorem d_Db_tryGrowths_24 : decode prog_4_method_9_code 24 = .ok (.isub, 1) := by decide +kernel
theorem d_Db_tryGrowths_25 : decode prog_4_method_9_code 25 = .ok (.istore_n 3, 1) := by decide +kernel
theorem d_Db_tryGrowths_26 : decode prog_4_method_9_code 26 = .ok (.aload_n 0, 1) := by decide +kernel
theorem d_Db_tryGrowths_27 : decode prog_4_method_9_code 27 = .ok (.getfield 115, 3) := by decide +kernel
theorem d_Db_tryGrowths_30 : decode prog_4_method_9_code 30 = .ok (.iconst (-1), 1) := by decide +kernel
theorem d_Db_tryGrowths_31 : decode prog_4_method_9_code 31 = .ok (.if_icmp .ne 7, 3) := by decide +kernel
theorem d_Db_tryGrowths_34 : decode prog_4_method_9_code 34 = .ok (.iconst 5, 1) := by decide +kernel
theorem d_Db_tryGrowths_35 : decode prog_4_method_9_code 35 = .ok (.goto 7, 3) := by decide +kernel
theorem d_Db_tryGrowths_38 : decode prog_4_method_9_code 38 = .ok (.aload_n 0, 1) := by decide +kernel
theorem d_Db_tryGrowths_39 : decode prog_4_method_9_code 39 = .ok (.getfield 115, 3) := by decide +kernel
theorem d_Db_tryGrowths_42 : decode prog_4_method_9_code 42 = .ok (.istore 4, 2) := by decide +kernel
theorem d_Db_tryGrowths_44 : decode prog_4_method_9_code 44 = .ok (.iconst 1, 1) := by decide +kernel
theorem d_Db_tryGrowths_45 : decode prog_4_method_9_code 45 = .ok (.iload_n 3, 1) := by decide +kernel
theorem d_Db_tryGrowths_46 : decode prog_4_method_9_code 46 = .ok (.invokestatic 145, 3) := by decide +kernel
theorem d_Db_tryGrowths_49 : decode prog_4_method_9_code 49 = .ok (.istore 5, 2) := by decide +kernel
theorem d_Db_tryGrowths_51 : decode prog_4_method_9_code 51 = .ok (.iload 5, 2) := by decide +kernel
theorem d_Db_tryGrowths_53 : decode prog_4_method_9_code 53 = .ok (.iload 4, 2) := by decide +kernel
theorem d_Db_tryGrowths_55 : decode prog_4_method_9_code 55 = .ok (.if_icmp .gt 81, 3) := by decide +kernel
theorem d_Db_tryGrowths_58 : decode prog_4_method_9_code 58 = .ok (.iconst 0, 1) := by decide +kernel
theorem d_Db_tryGrowths_59 : decode prog_4_method_9_code 59 = .ok (.istore 6, 2) := by decide +kernel
theorem d_Db_tryGrowths_61 : decode prog_4_method_9_code 61 = .ok (.iload 6, 2) := by decide +kernel
theorem d_Db_tryGrowths_63 : decode prog_4_method_9_code 63 = .ok (.aload_n 0, 1) := by decide +kernel
theorem d_Db_tryGrowths_64 : decode prog_4_method_9_code 64 = .ok (.getfield 9, 3) := by decide +kernel
theorem d_Db_tryGrowths_67 : decode prog_4_method_9_code 67 = .ok (.invokevirtual 151, 3) := by decide +kernel
theorem d_Db_tryGrowths_70 : decode prog_4_method_9_code 70 = .ok (.if_icmp .ge 60, 3) := by decide +kernel
theorem d_Db_tryGrowths_73 : decode prog_4_method_9_code 73 = .ok (.iload_n 2, 1) := by decide +kernel
theorem d_Db_tryGrowths_74 : decode prog_4_method_9_code 74 = .ok (.iload 6, 2) := by decide +kernel
theorem d_Db_tryGrowths_76 : decode prog_4_method_9_code 76 = .ok (.ishr, 1) := by decide +kernel
theorem d_Db_tryGrowths_77 : decode prog_4_method_9_code 77 = .ok (.iconst 1, 1) := by decide +kernel
theorem d_Db_tryGrowths_78 : decode prog_4_method_9_code 78 = .ok (.iand, 1) := by decide +kernel
theorem d_Db_tryGrowths_79 : decode prog_4_method_9_code 79 = .ok (.ifCond .eq 45, 3) := by decide +kernel
theorem d_Db_tryGrowths_82 : decode prog_4_method_9_code 82 = .ok (.aload_n 0, 1) := by decide +kernel
theorem d_Db_tryGrowths_83 : decode prog_4_method_9_code 83 = .ok (.iload 5, 2) := by decide +kernel
theorem d_Db_tryGrowths_85 : decode prog_4_method_9_code 85 = .ok (.iload_n 1, 1) := by decide +kernel
theorem d_Db_tryGrowths_86 : decode prog_4_method_9_code 86 = .ok (.iload 6, 2) := by decide +kernel
theorem d_Db_tryGrowths_88 : decode prog_4_method_9_code 88 = .ok (.invokevirtual 154, 3) := by decide +kernel
theorem d_Db_tryGrowths_91 : decode prog_4_method_9_code 91 = .ok (.ifCond .eq 33, 3) := by decide +kernel
theorem d_Db_tryGrowths_94 : decode prog_4_method_9_code 94 = .ok (.aload_n 0, 1) := by decide +kernel
theorem d_Db_tryGrowths_95 : decode prog_4_method_9_code 95 = .ok (.iload_n 1, 1) := by decide +kernel
theorem d_Db_tryGrowths_96 : decode prog_4_method_9_code 96 = .ok (.iload 6, 2) := by decide +kernel
theorem d_Db_tryGrowths_98 : decode prog_4_method_9_code 98 = .ok (.iload 5, 2) := by decide +kernel
theorem d_Db_tryGrowths_100 : decode prog_4_method_9_code 100 = .ok (.invokevirtual 158, 3) := by decide +kernel
theorem d_Db_tryGrowths_103 : decode prog_4_method_9_code 103 = .ok (.ifCond .eq 21, 3) := by decide +kernel
theorem d_Db_tryGrowths_106 : decode prog_4_method_9_code 106 = .ok (.aload_n 0, 1) := by decide +kernel
theorem d_Db_tryGrowths_107 : decode prog_4_method_9_code 107 = .ok (.iload 5, 2) := by decide +kernel
theorem d_Db_tryGrowths_109 : decode prog_4_method_9_code 109 = .ok (.putfield 115, 3) := by decide +kernel
theorem d_Db_tryGrowths_112 : decode prog_4_method_9_code 112 = .ok (.aload_n 0, 1) := by decide +kernel
theorem d_Db_tryGrowths_113 : decode prog_4_method_9_code 113 = .ok (.iload_n 1, 1) := by decide +kernel
theorem d_Db_tryGrowths_114 : decode prog_4_method_9_code 114 = .ok (.putfield 127, 3) := by decide +kernel
theorem d_Db_tryGrowths_117 : decode prog_4_method_9_code 117 = .ok (.aload_n 0, 1) := by decide +kernel
theorem d_Db_tryGrowths_118 : decode prog_4_method_9_code 118 = .ok (.iload 6, 2) := by decide +kernel
theorem d_Db_tryGrowths_120 : decode prog_4_method_9_code 120 = .ok (.putfield 161, 3) := by decide +kernel
theorem d_Db_tryGrowths_123 : decode prog_4_method_9_code 123 = .ok (.return_, 1) := by decide +kernel
theorem d_Db_tryGrowths_124 : decode prog_4_method_9_code 124 = .ok (.iinc 6 1, 3) := by decide +kernel
theorem d_Db_tryGrowths_127 : decode prog_4_method_9_code 127 = .ok (.goto (-66), 3) := by decide +kernel
theorem d_Db_tryGrowths_130 : decode prog_4_method_9_code 130 = .ok (.iinc 5 1, 3) := by decide +kernel
theorem d_Db_tryGrowths_133 : decode prog_4_method_9_code 133 = .ok (.goto (-82), 3) := by decide +kernel
theorem d_Db_tryGrowths_136 : decode prog_4_method_9_code 136 = .ok (.return_, 1) := by decide +kernel
abbrev S_Db_tryGrowths : Type := Nat × Nat × Int32 × Int32 × Int32 × Int32 × Int32 × Int32 × Int32 × AM
noncomputable def T_Db_tryGrowths_0 (v0R : Nat) (v1I : Int32) (σ : AM) : S_Db_tryGrowths ⊕ Option (Unit × AM) :=
  gdT (okO σ v0R 9) <| gdT (okO σ (aR σ v0R 2) 4) <| bndT (M_Bk_setAt (aR σ v0R 2) v1I σ) fun r3 σ4 => gdT (okO σ4 v0R 9) <| gdT (okO σ4 (aR σ4 v0R 0) 1) <| bndT (M_Tw_bar (aR σ4 v0R 0) σ4) fun r7 σ8 => gdT (okO σ8 v0R 9) <| gdT (okO σ8 (aR σ8 v0R 6) 101) <| bndT (M_Tw_sumOf r3 (aR σ8 v0R 6) σ8) fun r11 σ12 => letT (r7 - r11) fun x13 => gdT (okO σ12 v0R 9) <| if (aI σ12 v0R 12) = ((-1) : Int32) then (.inl (1, v0R, v1I, r3, x13, 0, 0, 0, (5 : Int32), σ12)) else (.inl (1, v0R, v1I, r3, x13, 0, 0, 0, aI σ12 v0R 12, σ12))
noncomputable def T_Db_tryGrowths_1 (v0R : Nat) (v1I : Int32) (v2I : Int32) (v3I : Int32) (s0I : Int32) (σ : AM) : S_Db_tryGrowths ⊕ Option (Unit × AM) :=
  letT (mxI (1 : Int32) v3I) fun x1 => .inl (2, v0R, v1I, v2I, 0, s0I, x1, 0, 0, σ)
noncomputable def T_Db_tryGrowths_2 (v0R : Nat) (v1I : Int32) (v2I : Int32) (v4I : Int32) (v5I : Int32) (σ : AM) : S_Db_tryGrowths ⊕ Option (Unit × AM) :=
  if v4I < v5I then (.inr (some ((), σ))) else (.inl (3, v0R, v1I, v2I, 0, v4I, v5I, (0 : Int32), 0, σ))
noncomputable def T_Db_tryGrowths_3 (v0R : Nat) (v1I : Int32) (v2I : Int32) (v4I : Int32) (v5I : Int32) (v6I : Int32) (σ : AM) : S_Db_tryGrowths ⊕ Option (Unit × AM) :=
  gdT (okO σ v0R 9) <| gdT (okO σ (aR σ v0R 0) 1) <| bndT (M_Tw_things (aR σ v0R 0) σ) fun r3 σ4 => if v6I < r3 then (if ((v2I >>> (v6I &&& 31)) &&& (1 : Int32)) = 0 then (.inl (4, v0R, v1I, v2I, 0, v4I, v5I, v6I, 0, σ4)) else (gdT (okO σ4 v0R 9) <| bndT (M_Db_isBetter v0R v5I v1I v6I σ4) fun r5 σ6 => if r5 = 0 then (.inl (4, v0R, v1I, v2I, 0, v4I, v5I, v6I, 0, σ6)) else (gdT (okO σ6 v0R 9) <| bndT (M_Db_holdsGrown v0R v1I v6I v5I σ6) fun r8 σ9 => if r8 = 0 then (.inl (4, v0R, v1I, v2I, 0, v4I, v5I, v6I, 0, σ9)) else (gdT (okO σ9 v0R 9) <| letT (sI σ9 v0R 12 v5I) fun σ12 => letT (sI σ12 v0R 13 v1I) fun σ14 => letT (sI σ14 v0R 14 v6I) fun σ16 => .inr (some ((), σ16)))))) else (.inl (2, v0R, v1I, v2I, 0, v4I, v5I + (1 : Int32), 0, 0, σ4))
noncomputable def T_Db_tryGrowths_4 (v0R : Nat) (v1I : Int32) (v2I : Int32) (v4I : Int32) (v5I : Int32) (v6I : Int32) (σ : AM) : S_Db_tryGrowths ⊕ Option (Unit × AM) :=
  .inl (3, v0R, v1I, v2I, 0, v4I, v5I, v6I + (1 : Int32), 0, σ)
noncomputable def F_Db_tryGrowths : S_Db_tryGrowths → S_Db_tryGrowths ⊕ Option (Unit × AM) := fun s => match s.1 with
  | 0 => T_Db_tryGrowths_0 (s.2.1) (s.2.2.1) (s.2.2.2.2.2.2.2.2.2)
  | 1 => T_Db_tryGrowths_1 (s.2.1) (s.2.2.1) (s.2.2.2.1) (s.2.2.2.2.1) (s.2.2.2.2.2.2.2.2.1) (s.2.2.2.2.2.2.2.2.2)
  | 2 => T_Db_tryGrowths_2 (s.2.1) (s.2.2.1) (s.2.2.2.1) (s.2.2.2.2.2.1) (s.2.2.2.2.2.2.1) (s.2.2.2.2.2.2.2.2.2)
  | 3 => T_Db_tryGrowths_3 (s.2.1) (s.2.2.1) (s.2.2.2.1) (s.2.2.2.2.2.1) (s.2.2.2.2.2.2.1) (s.2.2.2.2.2.2.2.1) (s.2.2.2.2.2.2.2.2.2)
  | _ => T_Db_tryGrowths_4 (s.2.1) (s.2.2.1) (s.2.2.2.1) (s.2.2.2.2.2.1) (s.2.2.2.2.2.2.1) (s.2.2.2.2.2.2.2.1) (s.2.2.2.2.2.2.2.2.2)
noncomputable def L_Db_tryGrowths_0 (v0R : Nat) (v1I : Int32) (σ : AM) : Option (Unit × AM) := lp F_Db_tryGrowths (0, v0R, v1I, 0, 0, 0, 0, 0, 0, σ)
noncomputable def L_Db_tryGrowths_1 (v0R : Nat) (v1I : Int32) (v2I : Int32) (v3I : Int32) (s0I : Int32) (σ : AM) : Option (Unit × AM) := lp F_Db_tryGrowths (1, v0R, v1I, v2I, v3I, 0, 0, 0, s0I, σ)
noncomputable def L_Db_tryGrowths_2 (v0R : Nat) (v1I : Int32) (v2I : Int32) (v4I : Int32) (v5I : Int32) (σ : AM) : Option (Unit × AM) := lp F_Db_tryGrowths (2, v0R, v1I, v2I, 0, v4I, v5I, 0, 0, σ)
noncomputable def L_Db_tryGrowths_3 (v0R : Nat) (v1I : Int32) (v2I : Int32) (v4I : Int32) (v5I : Int32) (v6I : Int32) (σ : AM) : Option (Unit × AM) := lp F_Db_tryGrowths (3, v0R, v1I, v2I, 0, v4I, v5I, v6I, 0, σ)
noncomputable def L_Db_tryGrowths_4 (v0R : Nat) (v1I : Int32) (v2I : Int32) (v4I : Int32) (v5I : Int32) (v6I : Int32) (σ : AM) : Option (Unit × AM) := lp F_Db_tryGrowths (4, v0R, v1I, v2I, 0, v4I, v5I, v6I, 0, σ)
set_option maxRecDepth 20000 in
theorem E_Db_tryGrowths_0 (v0R : Nat) (v1I : Int32) (σ : AM) : L_Db_tryGrowths_0 v0R v1I σ = (gd (okO σ v0R 9) <| gd (okO σ (aR σ v0R 2) 4) <| bnd (M_Bk_setAt (aR σ v0R 2) v1I σ) fun r3 σ4 => gd (okO σ4 v0R 9) <| gd (okO σ4 (aR σ4 v0R 0) 1) <| bnd (M_Tw_bar (aR σ4 v0R 0) σ4) fun r7 σ8 => gd (okO σ8 v0R 9) <| gd (okO σ8 (aR σ8 v0R 6) 101) <| bnd (M_Tw_sumOf r3 (aR σ8 v0R 6) σ8) fun r11 σ12 => letT (r7 - r11) fun x13 => gd (okO σ12 v0R 9) <| if (aI σ12 v0R 12) = ((-1) : Int32) then (L_Db_tryGrowths_1 v0R v1I r3 x13 ((5 : Int32)) σ12) else (L_Db_tryGrowths_1 v0R v1I r3 x13 (aI σ12 v0R 12) σ12)) := by
  unfold L_Db_tryGrowths_0
  rw [lp_eq]
  show lpK (lp F_Db_tryGrowths) (T_Db_tryGrowths_0 v0R v1I σ) = _
  unfold T_Db_tryGrowths_0
  simp only [lpK_ite, lq_inl, lq_inr, lpK_bnd, lpK_gd, lq_let]
  try rfl
set_option maxRecDepth 20000 in
theorem E_Db_tryGrowths_1 (v0R : Nat) (v1I : Int32) (v2I : Int32) (v3I : Int32) (s0I : Int32) (σ : AM) : L_Db_tryGrowths_1 v0R v1I v2I v3I s0I σ = (letT (mxI (1 : Int32) v3I) fun x1 => L_Db_tryGrowths_2 v0R v1I v2I s0I x1 σ) := by
  unfold L_Db_tryGrowths_1
  rw [lp_eq]
  show lpK (lp F_Db_tryGrowths) (T_Db_tryGrowths_1 v0R v1I v2I v3I s0I σ) = _
  unfold T_Db_tryGrowths_1
  simp only [lpK_ite, lq_inl, lq_inr, lpK_bnd, lpK_gd, lq_let]
  try rfl
set_option maxRecDepth 20000 in
theorem E_Db_tryGrowths_2 (v0R : Nat) (v1I : Int32) (v2I : Int32) (v4I : Int32) (v5I : Int32) (σ : AM) : L_Db_tryGrowths_2 v0R v1I v2I v4I v5I σ = (if v4I < v5I then ((some ((), σ))) else (L_Db_tryGrowths_3 v0R v1I v2I v4I v5I ((0 : Int32)) σ)) := by
  unfold L_Db_tryGrowths_2
  rw [lp_eq]
  show lpK (lp F_Db_tryGrowths) (T_Db_tryGrowths_2 v0R v1I v2I v4I v5I σ) = _
  unfold T_Db_tryGrowths_2
  simp only [lpK_ite, lq_inl, lq_inr, lpK_bnd, lpK_gd, lq_let]
  try rfl
set_option maxRecDepth 20000 in
theorem E_Db_tryGrowths_3 (v0R : Nat) (v1I : Int32) (v2I : Int32) (v4I : Int32) (v5I : Int32) (v6I : Int32) (σ : AM) : L_Db_tryGrowths_3 v0R v1I v2I v4I v5I v6I σ = (gd (okO σ v0R 9) <| gd (okO σ (aR σ v0R 0) 1) <| bnd (M_Tw_things (aR σ v0R 0) σ) fun r3 σ4 => if v6I < r3 then (if ((v2I >>> (v6I &&& 31)) &&& (1 : Int32)) = 0 then (L_Db_tryGrowths_4 v0R v1I v2I v4I v5I v6I σ4) else (gd (okO σ4 v0R 9) <| bnd (M_Db_isBetter v0R v5I v1I v6I σ4) fun r5 σ6 => if r5 = 0 then (L_Db_tryGrowths_4 v0R v1I v2I v4I v5I v6I σ6) else (gd (okO σ6 v0R 9) <| bnd (M_Db_holdsGrown v0R v1I v6I v5I σ6) fun r8 σ9 => if r8 = 0 then (L_Db_tryGrowths_4 v0R v1I v2I v4I v5I v6I σ9) else (gd (okO σ9 v0R 9) <| letT (sI σ9 v0R 12 v5I) fun σ12 => letT (sI σ12 v0R 13 v1I) fun σ14 => letT (sI σ14 v0R 14 v6I) fun σ16 => (some ((), σ16)))))) else (L_Db_tryGrowths_2 v0R v1I v2I v4I (v5I + (1 : Int32)) σ4)) := by
  unfold L_Db_tryGrowths_3
  rw [lp_eq]
  show lpK (lp F_Db_tryGrowths) (T_Db_tryGrowths_3 v0R v1I v2I v4I v5I v6I σ) = _
  unfold T_Db_tryGrowths_3
  simp only [lpK_ite, lq_inl, lq_inr, lpK_bnd, lpK_gd, lq_let]
  try rfl
set_option maxRecDepth 20000 in
theorem E_Db_tryGrowths_4 (v0R : Nat) (v1I : Int32) (v2I : Int32) (v4I : Int32) (v5I : Int32) (v6I : Int32) (σ : AM) : L_Db_tryGrowths_4 v0R v1I v2I v4I v5I v6I σ = (L_Db_tryGrowths_3 v0R v1I v2I v4I v5I (v6I + (1 : Int32)) σ) := by
  unfold L_Db_tryGrowths_4
  rw [lp_eq]
  show lpK (lp F_Db_tryGrowths) (T_Db_tryGrowths_4 v0R v1I v2I v4I v5I v6I σ) = _
  unfold T_Db_tryGrowths_4
  simp only [lpK_ite, lq_inl, lq_inr, lpK_bnd, lpK_gd, lq_let]
  try rfl
noncomputable def M_Db_tryGrowths (v0R : Nat) (v1I : Int32) (σ : AM) : Option (Unit × AM) := mw σ (L_Db_tryGrowths_0 v0R v1I σ)
def I_Db_tryGrowths (G : GX) (p : Program) (l : Launch) (e : Env) (s : State) (m : MethodId) (args : Array Value) (below : List Frame) (meth : Method) (c : Code) (z0 u0 n : Nat) : Prop :=
  (∀ (v0R : Nat) (v1I : Int32) (σ : AM), VX (QM eV G args s below z0 u0) G p l e s m args below meth c 3 z0 u0 7 (lpn F_Db_tryGrowths n (0, v0R, v1I, 0, 0, 0, 0, 0, 0, σ)) 0 [(0, .ref v0R), (1, .int v1I)] [] σ) ∧
  (∀ (v0R : Nat) (v1I : Int32) (v2I : Int32) (v3I : Int32) (s0I : Int32) (σ : AM), VX (QM eV G args s below z0 u0) G p l e s m args below meth c 3 z0 u0 7 (lpn F_Db_tryGrowths n (1, v0R, v1I, v2I, v3I, 0, 0, 0, s0I, σ)) 42 [(0, .ref v0R), (1, .int v1I), (2, .int v2I), (3, .int v3I)] [.int s0I] σ) ∧
  (∀ (v0R : Nat) (v1I : Int32) (v2I : Int32) (v4I : Int32) (v5I : Int32) (σ : AM), VX (QM eV G args s below z0 u0) G p l e s m args below meth c 3 z0 u0 7 (lpn F_Db_tryGrowths n (2, v0R, v1I, v2I, 0, v4I, v5I, 0, 0, σ)) 51 [(0, .ref v0R), (1, .int v1I), (2, .int v2I), (4, .int v4I), (5, .int v5I)] [] σ) ∧
  (∀ (v0R : Nat) (v1I : Int32) (v2I : Int32) (v4I : Int32) (v5I : Int32) (v6I : Int32) (σ : AM), VX (QM eV G args s below z0 u0) G p l e s m args below meth c 3 z0 u0 7 (lpn F_Db_tryGrowths n (3, v0R, v1I, v2I, 0, v4I, v5I, v6I, 0, σ)) 61 [(0, .ref v0R), (1, .int v1I), (2, .int v2I), (4, .int v4I), (5, .int v5I), (6, .int v6I)] [] σ) ∧
  (∀ (v0R : Nat) (v1I : Int32) (v2I : Int32) (v4I : Int32) (v5I : Int32) (v6I : Int32) (σ : AM), VX (QM eV G args s below z0 u0) G p l e s m args below meth c 3 z0 u0 7 (lpn F_Db_tryGrowths n (4, v0R, v1I, v2I, 0, v4I, v5I, v6I, 0, σ)) 124 [(0, .ref v0R), (1, .int v1I), (2, .int v2I), (4, .int v4I), (5, .int v5I), (6, .int v6I)] [] σ)
set_option maxRecDepth 20000 in
theorem s_Db_tryGrowths_0 {G : GX} {p : Program} {l : Launch} {e : Env} {s : State} {m : MethodId} {args : Array Value} {below : List Frame} {meth : Method} {c : Code} {z0 u0 n : Nat} (C : Cx G p s m args meth c prog_4_method_9_code 7 "BellPlate$Doubt" ((none))) (IH : I_Db_tryGrowths G p l e s m args below meth c z0 u0 n) (v0R : Nat) (v1I : Int32) (σ : AM) : VX (QM eV G args s below z0 u0) G p l e s m args below meth c 3 z0 u0 7 (lpK (lpn F_Db_tryGrowths n) (T_Db_tryGrowths_0 v0R v1I σ)) 0 [(0, .ref v0R), (1, .int v1I)] [] σ := by
  unfold T_Db_tryGrowths_0
  refine x_aload_n C d_Db_tryGrowths_0 0 rfl ?_
  refine x_gd (fun h1 => ?_)
  refine x_gd (fun h2 => ?_)
  refine x_getR (k := 2) (kv := 4) C (okO_iff.mp h1) rfl j8_ok (by decide) rfl (okO_iff.mp h2) (by decide) w538 d_Db_tryGrowths_1 ?_
  refine x_iload_n C d_Db_tryGrowths_4 1 rfl ?_
  refine x_callVI (As := [.int v1I]) C (c_Bk_setAt G l (aR σ v0R 2) v1I σ) (okO_iff.mp h2) rfl w1371 w1372 w1415 w1373 w124 k_Bk_setAt rfl (by decide) (by decide) rfl (Nat.le_of_ble_eq_true rfl) d_Db_tryGrowths_5 (fun r3 σ4 => ?_)
  refine x_istore_n (lv' := [(2, .int r3), (0, .ref v0R), (1, .int v1I)]) C d_Db_tryGrowths_8 (by decide) rfl rfl ?_
  refine x_aload_n C d_Db_tryGrowths_9 1 rfl ?_
  refine x_gd (fun h5 => ?_)
  refine x_gd (fun h6 => ?_)
  refine x_getR (k := 0) (kv := 1) C (okO_iff.mp h5) rfl j8_ok (by decide) rfl (okO_iff.mp h6) (by decide) w536 d_Db_tryGrowths_10 ?_
  refine x_callVI (As := []) C (c_Tw_bar G l (aR σ4 v0R 0)  σ4) (okO_iff.mp h6) rfl w655 w656 w1468 w657 w122 k_Tw_bar rfl (by decide) (by decide) rfl (Nat.le_of_ble_eq_true rfl) d_Db_tryGrowths_13 (fun r7 σ8 => ?_)
  refine x_iload_n C d_Db_tryGrowths_16 0 rfl ?_
  refine x_aload_n C d_Db_tryGrowths_17 1 rfl ?_
  refine x_gd (fun h9 => ?_)
  refine x_gd (fun h10 => ?_)
  refine x_getR (k := 6) (kv := 101) C (okO_iff.mp h9) rfl j8_ok (by decide) rfl (okO_iff.mp h10) (by decide) w542 d_Db_tryGrowths_18 ?_
  refine x_callSI (As := [.int r3, .ref (aR σ8 v0R 6)]) C (c_Tw_sumOf G l r3 (aR σ8 v0R 6) σ8) w671 w1469 w672 w122 k_Tw_sumOf rfl (by decide) (by decide) rfl (Nat.le_of_ble_eq_true rfl) d_Db_tryGrowths_21 (fun r11 σ12 => ?_)
  refine x_isub C d_Db_tryGrowths_24 ?_
  refine x_letI (fun x13 _ => ?_)
  refine x_istore_n (lv' := [(3, .int x13), (2, .int r3), (0, .ref v0R), (1, .int v1I)]) C d_Db_tryGrowths_25 (by decide) rfl rfl ?_
  refine x_aload_n C d_Db_tryGrowths_26 2 rfl ?_
  refine x_gd (fun h14 => ?_)
  refine x_getI (k := 12) C (okO_iff.mp h14) rfl j8_ok (by decide) rfl w548 d_Db_tryGrowths_27 ?_
  refine x_iconst (v := ((-1) : Int32)) C d_Db_tryGrowths_30 (by decide) ?_
  refine x_icmp_ne (tgt := 38) C d_Db_tryGrowths_31 (by decide) (fun _ => ?_) (fun _ => ?_)
  · refine x_iconst (v := (5 : Int32)) C d_Db_tryGrowths_34 (by decide) ?_
    refine x_goto (tgt := 42) C d_Db_tryGrowths_35 (by decide) ?_
    refine x_lv [2, 3, 1, 0] rfl ?_
    exact IH.2.1 v0R v1I r3 x13 ((5 : Int32)) (σ12)
  · refine x_aload_n C d_Db_tryGrowths_38 2 rfl ?_
    refine x_getI (k := 12) C (okO_iff.mp h14) rfl j8_ok (by decide) rfl w548 d_Db_tryGrowths_39 ?_
    refine x_lv [2, 3, 1, 0] rfl ?_
    exact IH.2.1 v0R v1I r3 x13 (aI σ12 v0R 12) (σ12)
set_option maxRecDepth 20000 in
theorem s_Db_tryGrowths_1 {G : GX} {p : Program} {l : Launch} {e : Env} {s : State} {m : MethodId} {args : Array Value} {below : List Frame} {meth : Method} {c : Code} {z0 u0 n : Nat} (C : Cx G p s m args meth c prog_4_method_9_code 7 "BellPlate$Doubt" ((none))) (IH : I_Db_tryGrowths G p l e s m args below meth c z0 u0 n) (v0R : Nat) (v1I : Int32) (v2I : Int32) (v3I : Int32) (s0I : Int32) (σ : AM) : VX (QM eV G args s below z0 u0) G p l e s m args below meth c 3 z0 u0 7 (lpK (lpn F_Db_tryGrowths n) (T_Db_tryGrowths_1 v0R v1I v2I v3I s0I σ)) 42 [(0, .ref v0R), (1, .int v1I), (2, .int v2I), (3, .int v3I)] [.int s0I] σ := by
  unfold T_Db_tryGrowths_1
  refine x_istore (lv' := [(4, .int s0I), (0, .ref v0R), (1, .int v1I), (2, .int v2I), (3, .int v3I)]) C d_Db_tryGrowths_42 (by decide) rfl ?_
  refine x_iconst (v := (1 : Int32)) C d_Db_tryGrowths_44 (by decide) ?_
  refine x_iload_n C d_Db_tryGrowths_45 4 rfl ?_
  refine x_mmax C w1470 (by decide) (Nat.le_of_ble_eq_true rfl) d_Db_tryGrowths_46 ?_
  refine x_letI (fun x1 _ => ?_)
  refine x_istore (lv' := [(5, .int x1), (4, .int s0I), (0, .ref v0R), (1, .int v1I), (2, .int v2I), (3, .int v3I)]) C d_Db_tryGrowths_49 (by decide) rfl ?_
  refine x_lv [2, 3, 4, 1, 0] rfl ?_
  exact IH.2.2.1 v0R v1I v2I s0I x1 (σ)
set_option maxRecDepth 20000 in
theorem s_Db_tryGrowths_2 {G : GX} {p : Program} {l : Launch} {e : Env} {s : State} {m : MethodId} {args : Array Value} {below : List Frame} {meth : Method} {c : Code} {z0 u0 n : Nat} (C : Cx G p s m args meth c prog_4_method_9_code 7 "BellPlate$Doubt" ((none))) (IH : I_Db_tryGrowths G p l e s m args below meth c z0 u0 n) (v0R : Nat) (v1I : Int32) (v2I : Int32) (v4I : Int32) (v5I : Int32) (σ : AM) : VX (QM eV G args s below z0 u0) G p l e s m args below meth c 3 z0 u0 7 (lpK (lpn F_Db_tryGrowths n) (T_Db_tryGrowths_2 v0R v1I v2I v4I v5I σ)) 51 [(0, .ref v0R), (1, .int v1I), (2, .int v2I), (4, .int v4I), (5, .int v5I)] [] σ := by
  unfold T_Db_tryGrowths_2
  refine x_iload C d_Db_tryGrowths_51 4 rfl ?_
  refine x_iload C d_Db_tryGrowths_53 3 rfl ?_
  refine x_icmp_gt (tgt := 136) C d_Db_tryGrowths_55 (by decide) (fun _ => ?_) (fun _ => ?_)
  · exact x_vret C d_Db_tryGrowths_136
  · refine x_iconst (v := (0 : Int32)) C d_Db_tryGrowths_58 (by decide) ?_
    refine x_istore (lv' := [(6, .int (0 : Int32)), (0, .ref v0R), (1, .int v1I), (2, .int v2I), (4, .int v4I), (5, .int v5I)]) C d_Db_tryGrowths_59 (by decide) rfl ?_
    refine x_lv [1, 2, 3, 4, 5, 0] rfl ?_
    exact IH.2.2.2.1 v0R v1I v2I v4I v5I ((0 : Int32)) (σ)
set_option maxRecDepth 20000 in
theorem s_Db_tryGrowths_3 {G : GX} {p : Program} {l : Launch} {e : Env} {s : State} {m : MethodId} {args : Array Value} {below : List Frame} {meth : Method} {c : Code} {z0 u0 n : Nat} (C : Cx G p s m args meth c prog_4_method_9_code 7 "BellPlate$Doubt" ((none))) (IH : I_Db_tryGrowths G p l e s m args below meth c z0 u0 n) (v0R : Nat) (v1I : Int32) (v2I : Int32) (v4I : Int32) (v5I : Int32) (v6I : Int32) (σ : AM) : VX (QM eV G args s below z0 u0) G p l e s m args below meth c 3 z0 u0 7 (lpK (lpn F_Db_tryGrowths n) (T_Db_tryGrowths_3 v0R v1I v2I v4I v5I v6I σ)) 61 [(0, .ref v0R), (1, .int v1I), (2, .int v2I), (4, .int v4I), (5, .int v5I), (6, .int v6I)] [] σ := by
  unfold T_Db_tryGrowths_3
  refine x_iload C d_Db_tryGrowths_61 5 rfl ?_
  refine x_aload_n C d_Db_tryGrowths_63 0 rfl ?_
  refine x_gd (fun h1 => ?_)
  refine x_gd (fun h2 => ?_)
  refine x_getR (k := 0) (kv := 1) C (okO_iff.mp h1) rfl j8_ok (by decide) rfl (okO_iff.mp h2) (by decide) w536 d_Db_tryGrowths_64 ?_
  refine x_callVI (As := []) C (c_Tw_things G l (aR σ v0R 0)  σ) (okO_iff.mp h2) rfl w643 w644 w1471 w645 w122 k_Tw_things rfl (by decide) (by decide) rfl (Nat.le_of_ble_eq_true rfl) d_Db_tryGrowths_67 (fun r3 σ4 => ?_)
  refine x_icmp_ge (tgt := 130) C d_Db_tryGrowths_70 (by decide) (fun _ => ?_) (fun _ => ?_)
  · refine x_iload_n C d_Db_tryGrowths_73 2 rfl ?_
    refine x_iload C d_Db_tryGrowths_74 5 rfl ?_
    refine x_ishr C d_Db_tryGrowths_76 ?_
    refine x_iconst (v := (1 : Int32)) C d_Db_tryGrowths_77 (by decide) ?_
    refine x_iand C d_Db_tryGrowths_78 ?_
    refine x_if_eq (tgt := 124) C d_Db_tryGrowths_79 (by decide) (fun _ => ?_) (fun _ => ?_)
    · exact IH.2.2.2.2 v0R v1I v2I v4I v5I v6I (σ4)
    · refine x_aload_n C d_Db_tryGrowths_82 0 rfl ?_
      refine x_iload C d_Db_tryGrowths_83 4 rfl ?_
      refine x_iload_n C d_Db_tryGrowths_85 1 rfl ?_
      refine x_iload C d_Db_tryGrowths_86 5 rfl ?_
      refine x_gd (fun h7 => ?_)
      refine x_callVI (As := [.int v5I, .int v1I, .int v6I]) C (c_Db_isBetter G l v0R v5I v1I v6I σ4) (okO_iff.mp h7) rfl w1474 w48 w1472 w1475 w130 k_Db_isBetter rfl (by decide) (by decide) rfl (Nat.le_of_ble_eq_true rfl) d_Db_tryGrowths_88 (fun r5 σ6 => ?_)
      refine x_if_eq (tgt := 124) C d_Db_tryGrowths_91 (by decide) (fun _ => ?_) (fun _ => ?_)
      · exact IH.2.2.2.2 v0R v1I v2I v4I v5I v6I (σ6)
      · refine x_aload_n C d_Db_tryGrowths_94 0 rfl ?_
        refine x_iload_n C d_Db_tryGrowths_95 1 rfl ?_
        refine x_iload C d_Db_tryGrowths_96 5 rfl ?_
        refine x_iload C d_Db_tryGrowths_98 4 rfl ?_
        refine x_gd (fun h10 => ?_)
        refine x_callVI (As := [.int v1I, .int v6I, .int v5I]) C (c_Db_holdsGrown G l v0R v1I v6I v5I σ6) (okO_iff.mp h10) rfl w1478 w49 w1476 w1479 w130 k_Db_holdsGrown rfl (by decide) (by decide) rfl (Nat.le_of_ble_eq_true rfl) d_Db_tryGrowths_100 (fun r8 σ9 => ?_)
        refine x_if_eq (tgt := 124) C d_Db_tryGrowths_103 (by decide) (fun _ => ?_) (fun _ => ?_)
        · exact IH.2.2.2.2 v0R v1I v2I v4I v5I v6I (σ9)
        · refine x_aload_n C d_Db_tryGrowths_106 0 rfl ?_
          refine x_iload C d_Db_tryGrowths_107 4 rfl ?_
          refine x_gd (fun h11 => ?_)
          refine x_putI (k := 12) C (okO_iff.mp h11) rfl j8_ok y8_ok n8_ok (by decide) rfl rfl rfl rfl w548 d_Db_tryGrowths_109 ?_
          refine x_letS (fun σ12 e13 => ?_)
          refine x_aload_n C d_Db_tryGrowths_112 0 rfl ?_
          refine x_iload_n C d_Db_tryGrowths_113 1 rfl ?_
          refine x_putI (k := 13) C (by first | exact (okO_iff.mp h11) | (rw [e13]; exact (okO_iff.mp h11))) rfl j8_ok y8_ok n8_ok (by decide) rfl rfl rfl rfl w549 d_Db_tryGrowths_114 ?_
          refine x_letS (fun σ14 e15 => ?_)
          refine x_aload_n C d_Db_tryGrowths_117 0 rfl ?_
          refine x_iload C d_Db_tryGrowths_118 5 rfl ?_
          refine x_putI (k := 14) C (by first | exact (okO_iff.mp h11) | (rw [e15, e13]; exact (okO_iff.mp h11))) rfl j8_ok y8_ok n8_ok (by decide) rfl rfl rfl rfl w550 d_Db_tryGrowths_120 ?_
          refine x_letS (fun σ16 e17 => ?_)
          exact x_vret C d_Db_tryGrowths_123
  · refine x_iinc (v := v5I + (1 : Int32)) (lv' := [(5, .int (v5I + (1 : Int32))), (0, .ref v0R), (1, .int v1I), (2, .int v2I), (4, .int v4I), (6, .int v6I)]) C d_Db_tryGrowths_130 4 rfl rfl (by decide) rfl ?_
    refine x_goto (tgt := 51) C d_Db_tryGrowths_133 (by decide) ?_
    refine x_lv [1, 2, 3, 4, 0] rfl ?_
    exact IH.2.2.1 v0R v1I v2I v4I (v5I + (1 : Int32)) (σ4)
set_option maxRecDepth 20000 in
theorem s_Db_tryGrowths_4 {G : GX} {p : Program} {l : Launch} {e : Env} {s : State} {m : MethodId} {args : Array Value} {below : List Frame} {meth : Method} {c : Code} {z0 u0 n : Nat} (C : Cx G p s m args meth c prog_4_method_9_code 7 "BellPlate$Doubt" ((none))) (IH : I_Db_tryGrowths G p l e s m args below meth c z0 u0 n) (v0R : Nat) (v1I : Int32) (v2I : Int32) (v4I : Int32) (v5I : Int32) (v6I : Int32) (σ : AM) : VX (QM eV G args s below z0 u0) G p l e s m args below meth c 3 z0 u0 7 (lpK (lpn F_Db_tryGrowths n) (T_Db_tryGrowths_4 v0R v1I v2I v4I v5I v6I σ)) 124 [(0, .ref v0R), (1, .int v1I), (2, .int v2I), (4, .int v4I), (5, .int v5I), (6, .int v6I)] [] σ := by
  unfold T_Db_tryGrowths_4
  refine x_iinc (v := v6I + (1 : Int32)) (lv' := [(6, .int (v6I + (1 : Int32))), (0, .ref v0R), (1, .int v1I), (2, .int v2I), (4, .int v4I), (5, .int v5I)]) C d_Db_tryGrowths_124 5 rfl rfl (by decide) rfl ?_
  refine x_goto (tgt := 61) C d_Db_tryGrowths_127 (by decide) ?_
  refine x_lv [1, 2, 3, 4, 5, 0] rfl ?_
  exact IH.2.2.2.1 v0R v1I v2I v4I v5I (v6I + (1 : Int32)) (σ)
theorem i_Db_tryGrowths {G : GX} {p : Program} {l : Launch} {e : Env} {s : State} {m : MethodId} {args : Array Value} {below : List Frame} {meth : Method} {c : Code} {z0 u0 : Nat} (C : Cx G p s m args meth c prog_4_method_9_code 7 "BellPlate$Doubt" ((none))) (n : Nat) : I_Db_tryGrowths G p l e s m args below meth c z0 u0 n := by
  induction n with
  | zero => exact ⟨fun _ _ _ => x_none, fun _ _ _ _ _ _ => x_none, fun _ _ _ _ _ _ => x_none, fun _ _ _ _ _ _ _ => x_none, fun _ _ _ _ _ _ _ => x_none⟩
  | succ n IH => exact ⟨fun v0R v1I σ => s_Db_tryGrowths_0 C IH v0R v1I σ, fun v0R v1I v2I v3I s0I σ => s_Db_tryGrowths_1 C IH v0R v1I v2I v3I s0I σ, fun v0R v1I v2I v4I v5I σ => s_Db_tryGrowths_2 C IH v0R v1I v2I v4I v5I σ, fun v0R v1I v2I v4I v5I v6I σ => s_Db_tryGrowths_3 C IH v0R v1I v2I v4I v5I v6I σ, fun v0R v1I v2I v4I v5I v6I σ => s_Db_tryGrowths_4 C IH v0R v1I v2I v4I v5I v6I σ⟩
theorem c_Db_tryGrowths (G : GX) (l : Launch) (v0R : Nat) (v1I : Int32) (σ : AM) : CT eV G l 3 y_Db_tryGrowths prog_4_method_9_code 7 (none) [.ref v0R, .int v1I] σ (M_Db_tryGrowths v0R v1I σ) := by
  refine ct_of (by decide +kernel) (Nat.le_of_ble_eq_true rfl) (fun p e s m args below meth c C hin => ?_)
  refine x_lve (lv' := [(0, .ref v0R), (1, .int v1I)]) rfl ?_
  intro r σ' h
  obtain ⟨n, hn⟩ := (lp_iff _ _ _).mp h
  exact (i_Db_tryGrowths C n).1 v0R v1I σ r σ' hn
/-! BellPlate$Doubt.seekGrowth()V -/
abbrev y_Db_seekGrowth : MethodName := ⟨"BellPlate$Doubt", "seekGrowth", "()V"⟩
theorem k_Db_seekGrowth : y_Db_seekGrowth.cls ≠ "java/lang/invoke/MethodHandle" ∧ y_Db_seekGrowth.cls ≠ "java/lang/invoke/VarHandle" ∧ (parseMethodDescriptor y_Db_seekGrowth.desc).map (fun d => d.parameters.length) = some 0 := by decide +kernel
theorem d_Db_seekGrowth_0 : decode prog_4_method_7_code 0 = .ok (.aload_n 0, 1) := by decide +kernel
theorem d_Db_seekGrowth_1 : decode prog_4_method_7_code 1 = .ok (.getfield 45, 3) := by decide +kernel
theorem d_Db_seekGrowth_4 : decode prog_4_method_7_code 4 = .ok (.aload_n 0, 1) := by decide +kernel
theorem d_Db_seekGrowth_5 : decode prog_4_method_7_code 5 = .ok (.getfield 19, 3) := by decide +kernel
theorem d_Db_seekGrowth_8 : decode prog_4_method_7_code 8 = .ok (.invokevirtual 48, 3) := by decide +kernel
theorem d_Db_seekGrowth_11 : decode prog_4_method_7_code 11 = .ok (.if_icmp .ne 4, 3) := by decide +kernel
theorem d_Db_seekGrowth_14 : decode prog_4_method_7_code 14 = .ok (.return_, 1) := by decide +kernel
theorem d_Db_seekGrowth_15 : decode prog_4_method_7_code 15 = .ok (.aload_n 0, 1) := by decide +kernel
theorem d_Db_seekGrowth_16 : decode prog_4_method_7_code 16 = .ok (.aload_n 0, 1) := by decide +kernel
theorem d_Db_seekGrowth_17 : decode prog_4_method_7_code 17 = .ok (.getfield 19, 3) := by decide +kernel
theorem d_Db_seekGrowth_20 : decode prog_4_method_7_code 20 = .ok (.invokevirtual 48, 3) := by decide +kernel
theorem d_Db_seekGrowth_23 : decode prog_4_method_7_code 23 = .ok (.putfield 45, 3) := by decide +kernel
theorem d_Db_seekGrowth_26 : decode prog_4_method_7_code 26 = .ok (.aload_n 0, 1) := by decide +kernel
theorem d_Db_seekGrowth_27 : decode prog_4_method_7_code 27 = .ok (.iconst (-1), 1) := by decide +kernel
theorem d_Db_seekGrowth_28 : decode prog_4_method_7_code 28 = .ok (.putfield 115, 3) := by decide +kernel
theorem d_Db_seekGrowth_31 : decode prog_4_method_7_code 31 = .ok (.aload_n 0, 1) := by decide +kernel
theorem d_Db_seekGrowth_32 : decode prog_4_method_7_code 32 = .ok (.getfield 9, 3) := by decide +kernel
theorem d_Db_seekGrowth_35 : decode prog_4_method_7_code 35 = .ok (.invokevirtual 118, 3) := by decide +kernel
theorem d_Db_seekGrowth_38 : decode prog_4_method_7_code 38 = .ok (.istore_n 1, 1) := by decide +kernel
theorem d_Db_seekGrowth_39 : decode prog_4_method_7_code 39 = .ok (.iconst 0, 1) := by decide +kernel
theorem d_Db_seekGrowth_40 : decode prog_4_method_7_code 40 = .ok (.istore_n 2, 1) := by decide +kernel
theorem d_Db_seekGrowth_41 : decode prog_4_method_7_code 41 = .ok (.iload_n 2, 1) := by decide +kernel
theorem d_Db_seekGrowth_42 : decode prog_4_method_7_code 42 = .ok (.iload_n 1, 1) := by decide +kernel
theorem d_Db_seekGrowth_43 : decode prog_4_method_7_code 43 = .ok (.if_icmp .ge 95, 3) := by decide +kernel
theorem d_Db_seekGrowth_46 : decode prog_4_method_7_code 46 = .ok (.aload_n 0, 1) := by decide +kernel
theorem d_Db_seekGrowth_47 : decode prog_4_method_7_code 47 = .ok (.getfield 15, 3) := by decide +kernel
theorem d_Db_seekGrowth_50 : decode prog_4_method_7_code 50 = .ok (.iload_n 2, 1) := by decide +kernel
theorem d_Db_seekGrowth_51 : decode prog_4_method_7_code 51 = .ok (.invokevirtual 121, 3) := by decide +kernel
theorem d_Db_seekGrowth_54 : decode prog_4_method_7_code 54 = .ok (.istore_n 3, 1) := by decide +kernel
theorem d_Db_seekGrowth_55 : decode prog_4_method_7_code 55 = .ok (.iload_n 3, 1) := by decide +kernel
theorem d_Db_seekGrowth_56 : decode prog_4_method_7_code 56 = .ok (.ifCond .lt 76, 3) := by decide +kernel
theorem d_Db_seekGrowth_59 : decode prog_4_method_7_code 59 = .ok (.aload_n 0, 1) := by decide +kernel
theorem d_Db_seekGrowth_60 : decode prog_4_method_7_code 60 = .ok (.aload_n 0, 1) := by decide +kernel
theorem d_Db_seekGrowth_61 : decode prog_4_method_7_code 61 = .ok (.getfield 15, 3) := by decide +kernel
theorem d_Db_seekGrowth_64 : decode prog_4_method_7_code 64 = .ok (.iload_n 3, 1) := by decide +kernel
theorem d_Db_seekGrowth_65 : decode prog_4_method_7_code 65 = .ok (.invokevirtual 94, 3) := by decide +kernel
theorem d_Db_seekGrowth_68 : decode prog_4_method_7_code 68 = .ok (.invokevirtual 124, 3) := by decide +kernel
theorem d_Db_seekGrowth_71 : decode prog_4_method_7_code 71 = .ok (.istore 4, 2) := by decide +kernel
theorem d_Db_seekGrowth_73 : decode prog_4_method_7_code 73 = .ok (.iload 4, 2) := by decide +kernel
theorem d_Db_seekGrowth_75 : decode prog_4_method_7_code 75 = .ok (.iconst (-1), 1) := by decide +kernel
theorem d_Db_seekGrowth_76 : decode prog_4_method_7_code 76 = .ok (.if_icmp .ne 9, 3) := by decide +kernel
theorem d_Db_seekGrowth_79 : decode prog_4_method_7_code 79 = .ok (.aload_n 0, 1) := by decide +kernel
theorem d_Db_seekGrowth_80 : decode prog_4_method_7_code 80 = .ok (.iconst (-1), 1) := by decide +kernel
theorem d_Db_seekGrowth_81 : decode prog_4_method_7_code 81 = .ok (.putfield 115, 3) := by decide +kernel
theorem d_Db_seekGrowth_84 : decode prog_4_method_7_code 84 = .ok (.return_, 1) := by decide +kernel
theorem d_Db_seekGrowth_85 : decode prog_4_method_7_code 85 = .ok (.aload_n 0, 1) := by decide +kernel
theorem d_Db_seekGrowth_86 : decode prog_4_method_7_code 86 = .ok (.getfield 19, 3) := by decide +kernel
theorem d_Db_seekGrowth_89 : decode prog_4_method_7_code 89 = .ok (.iload 4, 2) := by decide +kernel
theorem d_Db_seekGrowth_91 : decode prog_4_method_7_code 91 = .ok (.invokevirtual 60, 3) := by decide +kernel
theorem d_Db_seekGrowth_94 : decode prog_4_method_7_code 94 = .ok (.ifCond .eq 38, 3) := by decide +kernel
theorem d_Db_seekGrowth_97 : decode prog_4_method_7_code 97 = .ok (.aload_n 0, 1) := by decide +kernel
theorem d_Db_seekGrowth_98 : decode prog_4_method_7_code 98 = .ok (.getfield 115, 3) := by decide +kernel
theorem d_Db_seekGrowth_101 : decode prog_4_method_7_code 101 = .ok (.iconst 1, 1) := by decide +kernel
theorem d_Db_seekGrowth_102 : decode prog_4_method_7_code 102 = .ok (.if_icmp .ne 12, 3) := by decide +kernel
theorem d_Db_seekGrowth_105 : decode prog_4_method_7_code 105 = .ok (.iload 4, 2) := by decide +kernel
theorem d_Db_seekGrowth_107 : decode prog_4_method_7_code 107 = .ok (.aload_n 0, 1) := by decide +kernel
theorem d_Db_seekGrowth_108 : decode prog_4_method_7_code 108 = .ok (.getfield 127, 3) := by decide +kernel
theorem d_Db_seekGrowth_111 : decode prog_4_method_7_code 111 = .ok (.if_icmp .lt 21, 3) := by decide +kernel
theorem d_Db_seekGrowth_114 : decode prog_4_method_7_code 114 = .ok (.aload_n 0, 1) := by decide +kernel
theorem d_Db_seekGrowth_115 : decode prog_4_method_7_code 115 = .ok (.getfield 9, 3) := by decide +kernel
theorem d_Db_seekGrowth_118 : decode prog_4_method_7_code 118 = .ok (.iload_n 2, 1) := by decide +kernel
theorem d_Db_seekGrowth_119 : decode prog_4_method_7_code 119 = .ok (.aload_n 0, 1) := by decide +kernel
theorem d_Db_seekGrowth_120 : decode prog_4_method_7_code 120 = .ok (.getfield 38, 3) := by decide +kernel
theorem d_Db_seekGrowth_123 : decode prog_4_method_7_code 123 = .ok (.invokevirtual 130, 3) := by decide +kernel
theorem d_Db_seekGrowth_126 : decode prog_4_method_7_code 126 = .ok (.aload_n 0, 1) := by decide +kernel
theorem d_Db_seekGrowth_127 : decode prog_4_method_7_code 127 = .ok (.iload 4, 2) := by decide +kernel
theorem d_Db_seekGrowth_129 : decode prog_4_method_7_code 129 = .ok (.invokevirtual 134, 3) := by decide +kernel
theorem d_Db_seekGrowth_132 : decode prog_4_method_7_code 132 = .ok (.iinc 2 1, 3) := by decide +kernel
theorem d_Db_seekGrowth_135 : decode prog_4_method_7_code 135 = .ok (.goto (-94), 3) := by decide +kernel
theorem d_Db_seekGrowth_138 : decode prog_4_method_7_code 138 = .ok (.return_, 1) := by decide +kernel
abbrev S_Db_seekGrowth : Type := Nat × Nat × Int32 × Int32 × Int32 × AM
noncomputable def T_Db_seekGrowth_0 (v0R : Nat) (σ : AM) : S_Db_seekGrowth ⊕ Option (Unit × AM) :=
  gdT (okO σ v0R 9) <| gdT (okO σ (aR σ v0R 2) 4) <| bndT (M_Bk_age (aR σ v0R 2) σ) fun r3 σ4 => if (aI σ v0R 11) = r3 then (.inr (some ((), σ4))) else (gdT (okO σ4 v0R 9) <| gdT (okO σ4 (aR σ4 v0R 2) 4) <| bndT (M_Bk_age (aR σ4 v0R 2) σ4) fun r7 σ8 => gdT (okO σ8 v0R 9) <| letT (sI σ8 v0R 11 r7) fun σ10 => letT (sI σ10 v0R 12 ((-1) : Int32)) fun σ12 => gdT (okO σ12 (aR σ12 v0R 0) 1) <| bndT (M_Tw_all (aR σ12 v0R 0) σ12) fun r15 σ16 => .inl (1, v0R, r15, (0 : Int32), 0, σ16))
noncomputable def T_Db_seekGrowth_1 (v0R : Nat) (v1I : Int32) (v2I : Int32) (σ : AM) : S_Db_seekGrowth ⊕ Option (Unit × AM) :=
  if v2I < v1I then (gdT (okO σ v0R 9) <| gdT (okO σ (aR σ v0R 1) 3) <| bndT (M_Ls_numberOf (aR σ v0R 1) v2I σ) fun r3 σ4 => if r3 < 0 then (.inl (3, v0R, v1I, v2I, 0, σ4)) else (gdT (okO σ4 v0R 9) <| gdT (okO σ4 (aR σ4 v0R 1) 3) <| bndT (M_Ls_at (aR σ4 v0R 1) r3 σ4) fun r7 σ8 => gdT (okO σ8 v0R 9) <| bndT (M_Db_firstWrong v0R r7 σ8) fun r9 σ10 => if r9 = ((-1) : Int32) then (gdT (okO σ10 v0R 9) <| letT (sI σ10 v0R 12 ((-1) : Int32)) fun σ13 => .inr (some ((), σ13))) else (gdT (okO σ10 v0R 9) <| gdT (okO σ10 (aR σ10 v0R 2) 4) <| bndT (M_Bk_rangAt (aR σ10 v0R 2) r9 σ10) fun r17 σ18 => if r17 = 0 then (.inl (3, v0R, v1I, v2I, 0, σ18)) else (gdT (okO σ18 v0R 9) <| if (aI σ18 v0R 12) = (1 : Int32) then (if r9 < (aI σ18 v0R 13) then (.inl (3, v0R, v1I, v2I, 0, σ18)) else (.inl (2, v0R, v1I, v2I, r9, σ18))) else (.inl (2, v0R, v1I, v2I, r9, σ18)))))) else (.inr (some ((), σ)))
noncomputable def T_Db_seekGrowth_2 (v0R : Nat) (v1I : Int32) (v2I : Int32) (v4I : Int32) (σ : AM) : S_Db_seekGrowth ⊕ Option (Unit × AM) :=
  gdT (okO σ v0R 9) <| gdT (okO σ (aR σ v0R 0) 1) <| gdT (okO σ (aR σ v0R 6) 101) <| bndT (M_Tw_spread (aR σ v0R 0) v2I (aR σ v0R 6) σ) fun _ σ5 => gdT (okO σ5 v0R 9) <| bndT (M_Db_tryGrowths v0R v4I σ5) fun _ σ7 => .inl (3, v0R, v1I, v2I, 0, σ7)
noncomputable def T_Db_seekGrowth_3 (v0R : Nat) (v1I : Int32) (v2I : Int32) (σ : AM) : S_Db_seekGrowth ⊕ Option (Unit × AM) :=
  .inl (1, v0R, v1I, v2I + (1 : Int32), 0, σ)
noncomputable def F_Db_seekGrowth : S_Db_seekGrowth → S_Db_seekGrowth ⊕ Option (Unit × AM) := fun s => match s.1 with
  | 0 => T_Db_seekGrowth_0 (s.2.1) (s.2.2.2.2.2)
  | 1 => T_Db_seekGrowth_1 (s.2.1) (s.2.2.1) (s.2.2.2.1) (s.2.2.2.2.2)
  | 2 => T_Db_seekGrowth_2 (s.2.1) (s.2.2.1) (s.2.2.2.1) (s.2.2.2.2.1) (s.2.2.2.2.2)
  | _ => T_Db_seekGrowth_3 (s.2.1) (s.2.2.1) (s.2.2.2.1) (s.2.2.2.2.2)
noncomputable def L_Db_seekGrowth_0 (v0R : Nat) (σ : AM) : Option (Unit × AM) := lp F_Db_seekGrowth (0, v0R, 0, 0, 0, σ)
noncomputable def L_Db_seekGrowth_1 (v0R : Nat) (v1I : Int32) (v2I : Int32) (σ : AM) : Option (Unit × AM) := lp F_Db_seekGrowth (1, v0R, v1I, v2I, 0, σ)
noncomputable def L_Db_seekGrowth_2 (v0R : Nat) (v1I : Int32) (v2I : Int32) (v4I : Int32) (σ : AM) : Option (Unit × AM) := lp F_Db_seekGrowth (2, v0R, v1I, v2I, v4I, σ)
noncomputable def L_Db_seekGrowth_3 (v0R : Nat) (v1I : Int32) (v2I : Int32) (σ : AM) : Option (Unit × AM) := lp F_Db_seekGrowth (3, v0R, v1I, v2I, 0, σ)
set_option maxRecDepth 20000 in
theorem E_Db_seekGrowth_0 (v0R : Nat) (σ : AM) : L_Db_seekGrowth_0 v0R σ = (gd (okO σ v0R 9) <| gd (okO σ (aR σ v0R 2) 4) <| bnd (M_Bk_age (aR σ v0R 2) σ) fun r3 σ4 => if (aI σ v0R 11) = r3 then ((some ((), σ4))) else (gd (okO σ4 v0R 9) <| gd (okO σ4 (aR σ4 v0R 2) 4) <| bnd (M_Bk_age (aR σ4 v0R 2) σ4) fun r7 σ8 => gd (okO σ8 v0R 9) <| letT (sI σ8 v0R 11 r7) fun σ10 => letT (sI σ10 v0R 12 ((-1) : Int32)) fun σ12 => gd (okO σ12 (aR σ12 v0R 0) 1) <| bnd (M_Tw_all (aR σ12 v0R 0) σ12) fun r15 σ16 => L_Db_seekGrowth_1 v0R r15 ((0 : Int32)) σ16)) := by
  unfold L_Db_seekGrowth_0
  rw [lp_eq]
  show lpK (lp F_Db_seekGrowth) (T_Db_seekGrowth_0 v0R σ) = _
  unfold T_Db_seekGrowth_0
  simp only [lpK_ite, lq_inl, lq_inr, lpK_bnd, lpK_gd, lq_let]
  try rfl
set_option maxRecDepth 20000 in
theorem E_Db_seekGrowth_1 (v0R : Nat) (v1I : Int32) (v2I : Int32) (σ : AM) : L_Db_seekGrowth_1 v0R v1I v2I σ = (if v2I < v1I then (gd (okO σ v0R 9) <| gd (okO σ (aR σ v0R 1) 3) <| bnd (M_Ls_numberOf (aR σ v0R 1) v2I σ) fun r3 σ4 => if r3 < 0 then (L_Db_seekGrowth_3 v0R v1I v2I σ4) else (gd (okO σ4 v0R 9) <| gd (okO σ4 (aR σ4 v0R 1) 3) <| bnd (M_Ls_at (aR σ4 v0R 1) r3 σ4) fun r7 σ8 => gd (okO σ8 v0R 9) <| bnd (M_Db_firstWrong v0R r7 σ8) fun r9 σ10 => if r9 = ((-1) : Int32) then (gd (okO σ10 v0R 9) <| letT (sI σ10 v0R 12 ((-1) : Int32)) fun σ13 => (some ((), σ13))) else (gd (okO σ10 v0R 9) <| gd (okO σ10 (aR σ10 v0R 2) 4) <| bnd (M_Bk_rangAt (aR σ10 v0R 2) r9 σ10) fun r17 σ18 => if r17 = 0 then (L_Db_seekGrowth_3 v0R v1I v2I σ18) else (gd (okO σ18 v0R 9) <| if (aI σ18 v0R 12) = (1 : Int32) then (if r9 < (aI σ18 v0R 13) then (L_Db_seekGrowth_3 v0R v1I v2I σ18) else (L_Db_seekGrowth_2 v0R v1I v2I r9 σ18)) else (L_Db_seekGrowth_2 v0R v1I v2I r9 σ18))))) else ((some ((), σ)))) := by
  unfold L_Db_seekGrowth_1
  rw [lp_eq]
  show lpK (lp F_Db_seekGrowth) (T_Db_seekGrowth_1 v0R v1I v2I σ) = _
  unfold T_Db_seekGrowth_1
  simp only [lpK_ite, lq_inl, lq_inr, lpK_bnd, lpK_gd, lq_let]
  try rfl
set_option maxRecDepth 20000 in
theorem E_Db_seekGrowth_2 (v0R : Nat) (v1I : Int32) (v2I : Int32) (v4I : Int32) (σ : AM) : L_Db_seekGrowth_2 v0R v1I v2I v4I σ = (gd (okO σ v0R 9) <| gd (okO σ (aR σ v0R 0) 1) <| gd (okO σ (aR σ v0R 6) 101) <| bnd (M_Tw_spread (aR σ v0R 0) v2I (aR σ v0R 6) σ) fun _ σ5 => gd (okO σ5 v0R 9) <| bnd (M_Db_tryGrowths v0R v4I σ5) fun _ σ7 => L_Db_seekGrowth_3 v0R v1I v2I σ7) := by
  unfold L_Db_seekGrowth_2
  rw [lp_eq]
  show lpK (lp F_Db_seekGrowth) (T_Db_seekGrowth_2 v0R v1I v2I v4I σ) = _
  unfold T_Db_seekGrowth_2
  simp only [lpK_ite, lq_inl, lq_inr, lpK_bnd, lpK_gd, lq_let]
  try rfl
set_option maxRecDepth 20000 in
theorem E_Db_seekGrowth_3 (v0R : Nat) (v1I : Int32) (v2I : Int32) (σ : AM) : L_Db_seekGrowth_3 v0R v1I v2I σ = (L_Db_seekGrowth_1 v0R v1I (v2I + (1 : Int32)) σ) := by
  unfold L_Db_seekGrowth_3
  rw [lp_eq]
  show lpK (lp F_Db_seekGrowth) (T_Db_seekGrowth_3 v0R v1I v2I σ) = _
  unfold T_Db_seekGrowth_3
  simp only [lpK_ite, lq_inl, lq_inr, lpK_bnd, lpK_gd, lq_let]
  try rfl
noncomputable def M_Db_seekGrowth (v0R : Nat) (σ : AM) : Option (Unit × AM) := mw σ (L_Db_seekGrowth_0 v0R σ)
def I_Db_seekGrowth (G : GX) (p : Program) (l : Launch) (e : Env) (s : State) (m : MethodId) (args : Array Value) (below : List Frame) (meth : Method) (c : Code) (z0 u0 n : Nat) : Prop :=
  (∀ (v0R : Nat) (σ : AM), VX (QM eV G args s below z0 u0) G p l e s m args below meth c 4 z0 u0 5 (lpn F_Db_seekGrowth n (0, v0R, 0, 0, 0, σ)) 0 [(0, .ref v0R)] [] σ) ∧
  (∀ (v0R : Nat) (v1I : Int32) (v2I : Int32) (σ : AM), VX (QM eV G args s below z0 u0) G p l e s m args below meth c 4 z0 u0 5 (lpn F_Db_seekGrowth n (1, v0R, v1I, v2I, 0, σ)) 41 [(0, .ref v0R), (1, .int v1I), (2, .int v2I)] [] σ) ∧
  (∀ (v0R : Nat) (v1I : Int32) (v2I : Int32) (v4I : Int32) (σ : AM), VX (QM eV G args s below z0 u0) G p l e s m args below meth c 4 z0 u0 5 (lpn F_Db_seekGrowth n (2, v0R, v1I, v2I, v4I, σ)) 114 [(0, .ref v0R), (1, .int v1I), (2, .int v2I), (4, .int v4I)] [] σ) ∧
  (∀ (v0R : Nat) (v1I : Int32) (v2I : Int32) (σ : AM), VX (QM eV G args s below z0 u0) G p l e s m args below meth c 4 z0 u0 5 (lpn F_Db_seekGrowth n (3, v0R, v1I, v2I, 0, σ)) 132 [(0, .ref v0R), (1, .int v1I), (2, .int v2I)] [] σ)
set_option maxRecDepth 20000 in
theorem s_Db_seekGrowth_0 {G : GX} {p : Program} {l : Launch} {e : Env} {s : State} {m : MethodId} {args : Array Value} {below : List Frame} {meth : Method} {c : Code} {z0 u0 n : Nat} (C : Cx G p s m args meth c prog_4_method_7_code 5 "BellPlate$Doubt" ((none))) (IH : I_Db_seekGrowth G p l e s m args below meth c z0 u0 n) (v0R : Nat) (σ : AM) : VX (QM eV G args s below z0 u0) G p l e s m args below meth c 4 z0 u0 5 (lpK (lpn F_Db_seekGrowth n) (T_Db_seekGrowth_0 v0R σ)) 0 [(0, .ref v0R)] [] σ := by
  unfold T_Db_seekGrowth_0
  refine x_aload_n C d_Db_seekGrowth_0 0 rfl ?_
  refine x_gd (fun h1 => ?_)
  refine x_getI (k := 11) C (okO_iff.mp h1) rfl j8_ok (by decide) rfl w547 d_Db_seekGrowth_1 ?_
  refine x_aload_n C d_Db_seekGrowth_4 0 rfl ?_
  refine x_gd (fun h2 => ?_)
  refine x_getR (k := 2) (kv := 4) C (okO_iff.mp h1) rfl j8_ok (by decide) rfl (okO_iff.mp h2) (by decide) w538 d_Db_seekGrowth_5 ?_
  refine x_callVI (As := []) C (c_Bk_age G l (aR σ v0R 2)  σ) (okO_iff.mp h2) rfl w1039 w1040 w1411 w1041 w124 k_Bk_age rfl (by decide) (by decide) rfl (Nat.le_of_ble_eq_true rfl) d_Db_seekGrowth_8 (fun r3 σ4 => ?_)
  refine x_icmp_ne (tgt := 15) C d_Db_seekGrowth_11 (by decide) (fun _ => ?_) (fun _ => ?_)
  · exact x_vret C d_Db_seekGrowth_14
  · refine x_aload_n C d_Db_seekGrowth_15 0 rfl ?_
    refine x_aload_n C d_Db_seekGrowth_16 0 rfl ?_
    refine x_gd (fun h5 => ?_)
    refine x_gd (fun h6 => ?_)
    refine x_getR (k := 2) (kv := 4) C (okO_iff.mp h5) rfl j8_ok (by decide) rfl (okO_iff.mp h6) (by decide) w538 d_Db_seekGrowth_17 ?_
    refine x_callVI (As := []) C (c_Bk_age G l (aR σ4 v0R 2)  σ4) (okO_iff.mp h6) rfl w1039 w1040 w1411 w1041 w124 k_Bk_age rfl (by decide) (by decide) rfl (Nat.le_of_ble_eq_true rfl) d_Db_seekGrowth_20 (fun r7 σ8 => ?_)
    refine x_gd (fun h9 => ?_)
    refine x_putI (k := 11) C (okO_iff.mp h9) rfl j8_ok y8_ok n8_ok (by decide) rfl rfl rfl rfl w547 d_Db_seekGrowth_23 ?_
    refine x_letS (fun σ10 e11 => ?_)
    refine x_aload_n C d_Db_seekGrowth_26 0 rfl ?_
    refine x_iconst (v := ((-1) : Int32)) C d_Db_seekGrowth_27 (by decide) ?_
    refine x_putI (k := 12) C (by first | exact (okO_iff.mp h9) | (rw [e11]; exact (okO_iff.mp h9))) rfl j8_ok y8_ok n8_ok (by decide) rfl rfl rfl rfl w548 d_Db_seekGrowth_28 ?_
    refine x_letS (fun σ12 e13 => ?_)
    refine x_aload_n C d_Db_seekGrowth_31 0 rfl ?_
    refine x_gd (fun h14 => ?_)
    refine x_getR (k := 0) (kv := 1) C (by first | exact (okO_iff.mp h9) | (rw [e13, e11]; exact (okO_iff.mp h9))) rfl j8_ok (by decide) rfl (okO_iff.mp h14) (by decide) w536 d_Db_seekGrowth_32 ?_
    refine x_callVI (As := []) C (c_Tw_all G l (aR σ12 v0R 0)  σ12) (okO_iff.mp h14) rfl w630 w631 w1457 w632 w122 k_Tw_all rfl (by decide) (by decide) rfl (Nat.le_of_ble_eq_true rfl) d_Db_seekGrowth_35 (fun r15 σ16 => ?_)
    refine x_istore_n (lv' := [(1, .int r15), (0, .ref v0R)]) C d_Db_seekGrowth_38 (by decide) rfl rfl ?_
    refine x_iconst (v := (0 : Int32)) C d_Db_seekGrowth_39 (by decide) ?_
    refine x_istore_n (lv' := [(2, .int (0 : Int32)), (1, .int r15), (0, .ref v0R)]) C d_Db_seekGrowth_40 (by decide) rfl rfl ?_
    refine x_lv [2, 1, 0] rfl ?_
    exact IH.2.1 v0R r15 ((0 : Int32)) (σ16)
set_option maxRecDepth 20000 in
theorem s_Db_seekGrowth_1 {G : GX} {p : Program} {l : Launch} {e : Env} {s : State} {m : MethodId} {args : Array Value} {below : List Frame} {meth : Method} {c : Code} {z0 u0 n : Nat} (C : Cx G p s m args meth c prog_4_method_7_code 5 "BellPlate$Doubt" ((none))) (IH : I_Db_seekGrowth G p l e s m args below meth c z0 u0 n) (v0R : Nat) (v1I : Int32) (v2I : Int32) (σ : AM) : VX (QM eV G args s below z0 u0) G p l e s m args below meth c 4 z0 u0 5 (lpK (lpn F_Db_seekGrowth n) (T_Db_seekGrowth_1 v0R v1I v2I σ)) 41 [(0, .ref v0R), (1, .int v1I), (2, .int v2I)] [] σ := by
  unfold T_Db_seekGrowth_1
  refine x_iload_n C d_Db_seekGrowth_41 2 rfl ?_
  refine x_iload_n C d_Db_seekGrowth_42 1 rfl ?_
  refine x_icmp_ge (tgt := 138) C d_Db_seekGrowth_43 (by decide) (fun _ => ?_) (fun _ => ?_)
  · refine x_aload_n C d_Db_seekGrowth_46 0 rfl ?_
    refine x_gd (fun h1 => ?_)
    refine x_gd (fun h2 => ?_)
    refine x_getR (k := 1) (kv := 3) C (okO_iff.mp h1) rfl j8_ok (by decide) rfl (okO_iff.mp h2) (by decide) w537 d_Db_seekGrowth_47 ?_
    refine x_iload_n C d_Db_seekGrowth_50 2 rfl ?_
    refine x_callVI (As := [.int v2I]) C (c_Ls_numberOf G l (aR σ v0R 1) v2I σ) (okO_iff.mp h2) rfl w983 w984 w1458 w985 w123 k_Ls_numberOf rfl (by decide) (by decide) rfl (Nat.le_of_ble_eq_true rfl) d_Db_seekGrowth_51 (fun r3 σ4 => ?_)
    refine x_istore_n (lv' := [(3, .int r3), (0, .ref v0R), (1, .int v1I), (2, .int v2I)]) C d_Db_seekGrowth_54 (by decide) rfl rfl ?_
    refine x_iload_n C d_Db_seekGrowth_55 0 rfl ?_
    refine x_if_lt (tgt := 132) C d_Db_seekGrowth_56 (by decide) (fun _ => ?_) (fun _ => ?_)
    · refine x_lv [1, 2, 3] rfl ?_
      exact IH.2.2.2 v0R v1I v2I (σ4)
    · refine x_aload_n C d_Db_seekGrowth_59 1 rfl ?_
      refine x_aload_n C d_Db_seekGrowth_60 1 rfl ?_
      refine x_gd (fun h5 => ?_)
      refine x_gd (fun h6 => ?_)
      refine x_getR (k := 1) (kv := 3) C (okO_iff.mp h5) rfl j8_ok (by decide) rfl (okO_iff.mp h6) (by decide) w537 d_Db_seekGrowth_61 ?_
      refine x_iload_n C d_Db_seekGrowth_64 0 rfl ?_
      refine x_callVJ (As := [.int r3]) C (c_Ls_at G l (aR σ4 v0R 1) r3 σ4) (okO_iff.mp h6) rfl w996 w997 w1420 w998 w123 k_Ls_at rfl (by decide) (by decide) rfl (Nat.le_of_ble_eq_true rfl) d_Db_seekGrowth_65 (fun r7 σ8 => ?_)
      refine x_gd (fun h11 => ?_)
      refine x_callVI (As := [.long r7]) C (c_Db_firstWrong G l v0R r7 σ8) (okO_iff.mp h11) rfl w1461 w46 w1459 w1462 w130 k_Db_firstWrong rfl (by decide) (by decide) rfl (Nat.le_of_ble_eq_true rfl) d_Db_seekGrowth_68 (fun r9 σ10 => ?_)
      refine x_istore (lv' := [(4, .int r9), (3, .int r3), (0, .ref v0R), (1, .int v1I), (2, .int v2I)]) C d_Db_seekGrowth_71 (by decide) rfl ?_
      refine x_iload C d_Db_seekGrowth_73 0 rfl ?_
      refine x_iconst (v := ((-1) : Int32)) C d_Db_seekGrowth_75 (by decide) ?_
      refine x_icmp_ne (tgt := 85) C d_Db_seekGrowth_76 (by decide) (fun _ => ?_) (fun _ => ?_)
      · refine x_aload_n C d_Db_seekGrowth_79 2 rfl ?_
        refine x_iconst (v := ((-1) : Int32)) C d_Db_seekGrowth_80 (by decide) ?_
        refine x_gd (fun h12 => ?_)
        refine x_putI (k := 12) C (okO_iff.mp h12) rfl j8_ok y8_ok n8_ok (by decide) rfl rfl rfl rfl w548 d_Db_seekGrowth_81 ?_
        refine x_letS (fun σ13 e14 => ?_)
        exact x_vret C d_Db_seekGrowth_84
      · refine x_aload_n C d_Db_seekGrowth_85 2 rfl ?_
        refine x_gd (fun h15 => ?_)
        refine x_gd (fun h16 => ?_)
        refine x_getR (k := 2) (kv := 4) C (okO_iff.mp h15) rfl j8_ok (by decide) rfl (okO_iff.mp h16) (by decide) w538 d_Db_seekGrowth_86 ?_
        refine x_iload C d_Db_seekGrowth_89 0 rfl ?_
        refine x_callVI (As := [.int r9]) C (c_Bk_rangAt G l (aR σ10 v0R 2) r9 σ10) (okO_iff.mp h16) rfl w1379 w1380 w1414 w1381 w124 k_Bk_rangAt rfl (by decide) (by decide) rfl (Nat.le_of_ble_eq_true rfl) d_Db_seekGrowth_91 (fun r17 σ18 => ?_)
        refine x_if_eq (tgt := 132) C d_Db_seekGrowth_94 (by decide) (fun _ => ?_) (fun _ => ?_)
        · refine x_lv [2, 3, 4] rfl ?_
          exact IH.2.2.2 v0R v1I v2I (σ18)
        · refine x_aload_n C d_Db_seekGrowth_97 2 rfl ?_
          refine x_gd (fun h19 => ?_)
          refine x_getI (k := 12) C (okO_iff.mp h19) rfl j8_ok (by decide) rfl w548 d_Db_seekGrowth_98 ?_
          refine x_iconst (v := (1 : Int32)) C d_Db_seekGrowth_101 (by decide) ?_
          refine x_icmp_ne (tgt := 114) C d_Db_seekGrowth_102 (by decide) (fun _ => ?_) (fun _ => ?_)
          · refine x_iload C d_Db_seekGrowth_105 0 rfl ?_
            refine x_aload_n C d_Db_seekGrowth_107 2 rfl ?_
            refine x_getI (k := 13) C (okO_iff.mp h19) rfl j8_ok (by decide) rfl w549 d_Db_seekGrowth_108 ?_
            refine x_icmp_lt (tgt := 132) C d_Db_seekGrowth_111 (by decide) (fun _ => ?_) (fun _ => ?_)
            · refine x_lv [2, 3, 4] rfl ?_
              exact IH.2.2.2 v0R v1I v2I (σ18)
            · refine x_lv [2, 3, 4, 0] rfl ?_
              exact IH.2.2.1 v0R v1I v2I r9 (σ18)
          · refine x_lv [2, 3, 4, 0] rfl ?_
            exact IH.2.2.1 v0R v1I v2I r9 (σ18)
  · exact x_vret C d_Db_seekGrowth_138
set_option maxRecDepth 20000 in
theorem s_Db_seekGrowth_2 {G : GX} {p : Program} {l : Launch} {e : Env} {s : State} {m : MethodId} {args : Array Value} {below : List Frame} {meth : Method} {c : Code} {z0 u0 n : Nat} (C : Cx G p s m args meth c prog_4_method_7_code 5 "BellPlate$Doubt" ((none))) (IH : I_Db_seekGrowth G p l e s m args below meth c z0 u0 n) (v0R : Nat) (v1I : Int32) (v2I : Int32) (v4I : Int32) (σ : AM) : VX (QM eV G args s below z0 u0) G p l e s m args below meth c 4 z0 u0 5 (lpK (lpn F_Db_seekGrowth n) (T_Db_seekGrowth_2 v0R v1I v2I v4I σ)) 114 [(0, .ref v0R), (1, .int v1I), (2, .int v2I), (4, .int v4I)] [] σ := by
  unfold T_Db_seekGrowth_2
  refine x_aload_n C d_Db_seekGrowth_114 0 rfl ?_
  refine x_gd (fun h1 => ?_)
  refine x_gd (fun h2 => ?_)
  refine x_getR (k := 0) (kv := 1) C (okO_iff.mp h1) rfl j8_ok (by decide) rfl (okO_iff.mp h2) (by decide) w536 d_Db_seekGrowth_115 ?_
  refine x_iload_n C d_Db_seekGrowth_118 2 rfl ?_
  refine x_aload_n C d_Db_seekGrowth_119 0 rfl ?_
  refine x_gd (fun h3 => ?_)
  refine x_getR (k := 6) (kv := 101) C (okO_iff.mp h1) rfl j8_ok (by decide) rfl (okO_iff.mp h3) (by decide) w542 d_Db_seekGrowth_120 ?_
  refine x_callVV (As := [.int v2I, .ref (aR σ v0R 6)]) C (c_Tw_spread G l (aR σ v0R 0) v2I (aR σ v0R 6) σ) (okO_iff.mp h2) rfl w663 w664 w1463 w665 w122 k_Tw_spread rfl (by decide) (by decide) rfl (Nat.le_of_ble_eq_true rfl) d_Db_seekGrowth_123 (fun r4 σ5 => ?_)
  refine x_aload_n C d_Db_seekGrowth_126 0 rfl ?_
  refine x_iload C d_Db_seekGrowth_127 3 rfl ?_
  refine x_gd (fun h8 => ?_)
  refine x_callVV (As := [.int v4I]) C (c_Db_tryGrowths G l v0R v4I σ5) (okO_iff.mp h8) rfl w1466 w47 w1464 w1467 w130 k_Db_tryGrowths rfl (by decide) (by decide) rfl (Nat.le_of_ble_eq_true rfl) d_Db_seekGrowth_129 (fun r6 σ7 => ?_)
  refine x_lv [0, 1, 2] rfl ?_
  exact IH.2.2.2 v0R v1I v2I (σ7)
set_option maxRecDepth 20000 in
theorem s_Db_seekGrowth_3 {G : GX} {p : Program} {l : Launch} {e : Env} {s : State} {m : MethodId} {args : Array Value} {below : List Frame} {meth : Method} {c : Code} {z0 u0 n : Nat} (C : Cx G p s m args meth c prog_4_method_7_code 5 "BellPlate$Doubt" ((none))) (IH : I_Db_seekGrowth G p l e s m args below meth c z0 u0 n) (v0R : Nat) (v1I : Int32) (v2I : Int32) (σ : AM) : VX (QM eV G args s below z0 u0) G p l e s m args below meth c 4 z0 u0 5 (lpK (lpn F_Db_seekGrowth n) (T_Db_seekGrowth_3 v0R v1I v2I σ)) 132 [(0, .ref v0R), (1, .int v1I), (2, .int v2I)] [] σ := by
  unfold T_Db_seekGrowth_3
  refine x_iinc (v := v2I + (1 : Int32)) (lv' := [(2, .int (v2I + (1 : Int32))), (0, .ref v0R), (1, .int v1I)]) C d_Db_seekGrowth_132 2 rfl rfl (by decide) rfl ?_
  refine x_goto (tgt := 41) C d_Db_seekGrowth_135 (by decide) ?_
  refine x_lv [1, 2, 0] rfl ?_
  exact IH.2.1 v0R v1I (v2I + (1 : Int32)) (σ)
theorem i_Db_seekGrowth {G : GX} {p : Program} {l : Launch} {e : Env} {s : State} {m : MethodId} {args : Array Value} {below : List Frame} {meth : Method} {c : Code} {z0 u0 : Nat} (C : Cx G p s m args meth c prog_4_method_7_code 5 "BellPlate$Doubt" ((none))) (n : Nat) : I_Db_seekGrowth G p l e s m args below meth c z0 u0 n := by
  induction n with
  | zero => exact ⟨fun _ _ => x_none, fun _ _ _ _ => x_none, fun _ _ _ _ _ => x_none, fun _ _ _ _ => x_none⟩
  | succ n IH => exact ⟨fun v0R σ => s_Db_seekGrowth_0 C IH v0R σ, fun v0R v1I v2I σ => s_Db_seekGrowth_1 C IH v0R v1I v2I σ, fun v0R v1I v2I v4I σ => s_Db_seekGrowth_2 C IH v0R v1I v2I v4I σ, fun v0R v1I v2I σ => s_Db_seekGrowth_3 C IH v0R v1I v2I σ⟩
theorem c_Db_seekGrowth (G : GX) (l : Launch) (v0R : Nat) (σ : AM) : CT eV G l 4 y_Db_seekGrowth prog_4_method_7_code 5 (none) [.ref v0R] σ (M_Db_seekGrowth v0R σ) := by
  refine ct_of (by decide +kernel) (Nat.le_of_ble_eq_true rfl) (fun p e s m args below meth c C hin => ?_)
  refine x_lve (lv' := [(0, .ref v0R)]) rfl ?_
  intro r σ' h
  obtain ⟨n, hn⟩ := (lp_iff _ _ _).mp h
  exact (i_Db_seekGrowth C n).1 v0R σ r σ' hn
/-! BellPlate$Doubt.growth(I)I -/
abbrev y_Db_growth : MethodName := ⟨"BellPlate$Doubt", "growth", "(I)I"⟩
theorem k_Db_growth : y_Db_growth.cls ≠ "java/lang/invoke/MethodHandle" ∧ y_Db_growth.cls ≠ "java/lang/invoke/VarHandle" ∧ (parseMethodDescriptor y_Db_growth.desc).map (fun d => d.parameters.length) = some 1 := by decide +kernel
theorem d_Db_growth_0 : decode prog_4_method_12_code 0 = .ok (.aload_n 0, 1) := by decide +kernel
theorem d_Db_growth_1 : decode prog_4_method_12_code 1 = .ok (.getfield 115, 3) := by decide +kernel
theorem d_Db_growth_4 : decode prog_4_method_12_code 4 = .ok (.iconst (-1), 1) := by decide +kernel
theorem d_Db_growth_5 : decode prog_4_method_12_code 5 = .ok (.if_icmp .ne 5, 3) := by decide +kernel
theorem d_Db_growth_8 : decode prog_4_method_12_code 8 = .ok (.iconst (-1), 1) := by decide +kernel
theorem d_Db_growth_9 : decode prog_4_method_12_code 9 = .ok (.ireturn, 1) := by decide +kernel
theorem d_Db_growth_10 : decode prog_4_method_12_code 10 = .ok (.iload_n 1, 1) := by decide +kernel
theorem d_Db_growth_11 : decode prog_4_method_12_code 11 = .ok (.lookupswitch 35 #[(0, 25), (1, 30)], 25) := by decide +kernel
theorem d_Db_growth_36 : decode prog_4_method_12_code 36 = .ok (.aload_n 0, 1) := by decide +kernel
theorem d_Db_growth_37 : decode prog_4_method_12_code 37 = .ok (.getfield 115, 3) := by decide +kernel
theorem d_Db_growth_40 : decode prog_4_method_12_code 40 = .ok (.ireturn, 1) := by decide +kernel
theorem d_Db_growth_41 : decode prog_4_method_12_code 41 = .ok (.aload_n 0, 1) := by decide +kernel
theorem d_Db_growth_42 : decode prog_4_method_12_code 42 = .ok (.getfield 127, 3) := by decide +kernel
theorem d_Db_growth_45 : decode prog_4_method_12_code 45 = .ok (.ireturn, 1) := by decide +kernel
theorem d_Db_growth_46 : decode prog_4_method_12_code 46 = .ok (.aload_n 0, 1) := by decide +kernel
theorem d_Db_growth_47 : decode prog_4_method_12_code 47 = .ok (.getfield 161, 3) := by decide +kernel
theorem d_Db_growth_50 : decode prog_4_method_12_code 50 = .ok (.ireturn, 1) := by decide +kernel
abbrev S_Db_growth : Type := Nat × Nat × Int32 × AM
noncomputable def T_Db_growth_0 (v0R : Nat) (v1I : Int32) (σ : AM) : S_Db_growth ⊕ Option (Int32 × AM) :=
  gdT (okO σ v0R 9) <| if (aI σ v0R 12) = ((-1) : Int32) then (.inr (some (((-1) : Int32), σ))) else (if v1I = (0 : Int32) then (.inr (some ((aI σ v0R 12), σ))) else (if v1I = (1 : Int32) then (.inr (some ((aI σ v0R 13), σ))) else (.inr (some ((aI σ v0R 14), σ)))))
noncomputable def F_Db_growth : S_Db_growth → S_Db_growth ⊕ Option (Int32 × AM) := fun s => match s.1 with
  | _ => T_Db_growth_0 (s.2.1) (s.2.2.1) (s.2.2.2)
noncomputable def L_Db_growth_0 (v0R : Nat) (v1I : Int32) (σ : AM) : Option (Int32 × AM) := lp F_Db_growth (0, v0R, v1I, σ)
set_option maxRecDepth 20000 in
theorem E_Db_growth_0 (v0R : Nat) (v1I : Int32) (σ : AM) : L_Db_growth_0 v0R v1I σ = (gd (okO σ v0R 9) <| if (aI σ v0R 12) = ((-1) : Int32) then ((some (((-1) : Int32), σ))) else (if v1I = (0 : Int32) then ((some ((aI σ v0R 12), σ))) else (if v1I = (1 : Int32) then ((some ((aI σ v0R 13), σ))) else ((some ((aI σ v0R 14), σ)))))) := by
  unfold L_Db_growth_0
  rw [lp_eq]
  show lpK (lp F_Db_growth) (T_Db_growth_0 v0R v1I σ) = _
  unfold T_Db_growth_0
  simp only [lpK_ite, lq_inl, lq_inr, lpK_bnd, lpK_gd, lq_let]
  try rfl
noncomputable def M_Db_growth (v0R : Nat) (v1I : Int32) (σ : AM) : Option (Int32 × AM) := mw σ (L_Db_growth_0 v0R v1I σ)
def I_Db_growth (G : GX) (p : Program) (l : Launch) (e : Env) (s : State) (m : MethodId) (args : Array Value) (below : List Frame) (meth : Method) (c : Code) (z0 u0 n : Nat) : Prop :=
  (∀ (v0R : Nat) (v1I : Int32) (σ : AM), VX (QM eI G args s below z0 u0) G p l e s m args below meth c 0 z0 u0 2 (lpn F_Db_growth n (0, v0R, v1I, σ)) 0 [(0, .ref v0R), (1, .int v1I)] [] σ)
set_option maxRecDepth 20000 in
theorem s_Db_growth_0 {G : GX} {p : Program} {l : Launch} {e : Env} {s : State} {m : MethodId} {args : Array Value} {below : List Frame} {meth : Method} {c : Code} {z0 u0 n : Nat} (C : Cx G p s m args meth c prog_4_method_12_code 2 "BellPlate$Doubt" ((some FieldType.int))) (IH : I_Db_growth G p l e s m args below meth c z0 u0 n) (v0R : Nat) (v1I : Int32) (σ : AM) : VX (QM eI G args s below z0 u0) G p l e s m args below meth c 0 z0 u0 2 (lpK (lpn F_Db_growth n) (T_Db_growth_0 v0R v1I σ)) 0 [(0, .ref v0R), (1, .int v1I)] [] σ := by
  unfold T_Db_growth_0
  refine x_aload_n C d_Db_growth_0 0 rfl ?_
  refine x_gd (fun h1 => ?_)
  refine x_getI (k := 12) C (okO_iff.mp h1) rfl j8_ok (by decide) rfl w548 d_Db_growth_1 ?_
  refine x_iconst (v := ((-1) : Int32)) C d_Db_growth_4 (by decide) ?_
  refine x_icmp_ne (tgt := 10) C d_Db_growth_5 (by decide) (fun _ => ?_) (fun _ => ?_)
  · refine x_iconst (v := ((-1) : Int32)) C d_Db_growth_8 (by decide) ?_
    exact x_iret C d_Db_growth_9
  · refine x_iload_n C d_Db_growth_10 1 rfl ?_
    refine x_split (fun h2 => ?_) (fun h2 => ?_)
    · refine x_look (off := 25) (tgt := 36) C d_Db_growth_11 (by decide) (by rw [h2]; rfl) (by decide) ?_
      refine x_aload_n C d_Db_growth_36 0 rfl ?_
      refine x_getI (k := 12) C (okO_iff.mp h1) rfl j8_ok (by decide) rfl w548 d_Db_growth_37 ?_
      exact x_iret C d_Db_growth_40
    · refine x_split (fun h3 => ?_) (fun h3 => ?_)
      · refine x_look (off := 30) (tgt := 41) C d_Db_growth_11 (by decide) (by rw [h3]; rfl) (by decide) ?_
        refine x_aload_n C d_Db_growth_41 0 rfl ?_
        refine x_getI (k := 13) C (okO_iff.mp h1) rfl j8_ok (by decide) rfl w549 d_Db_growth_42 ?_
        exact x_iret C d_Db_growth_45
      · refine x_look (off := 35) (tgt := 46) C d_Db_growth_11 (by decide) ((lv_osw h2 (by decide)).trans ((lv_osw h3 (by decide)).trans (rfl))) (by decide) ?_
        refine x_aload_n C d_Db_growth_46 0 rfl ?_
        refine x_getI (k := 14) C (okO_iff.mp h1) rfl j8_ok (by decide) rfl w550 d_Db_growth_47 ?_
        exact x_iret C d_Db_growth_50
theorem i_Db_growth {G : GX} {p : Program} {l : Launch} {e : Env} {s : State} {m : MethodId} {args : Array Value} {below : List Frame} {meth : Method} {c : Code} {z0 u0 : Nat} (C : Cx G p s m args meth c prog_4_method_12_code 2 "BellPlate$Doubt" ((some FieldType.int))) (n : Nat) : I_Db_growth G p l e s m args below meth c z0 u0 n := by
  induction n with
  | zero => exact fun _ _ _ => x_none
  | succ n IH => exact fun v0R v1I σ => s_Db_growth_0 C IH v0R v1I σ
theorem c_Db_growth (G : GX) (l : Launch) (v0R : Nat) (v1I : Int32) (σ : AM) : CT eI G l 0 y_Db_growth prog_4_method_12_code 2 ((some FieldType.int)) [.ref v0R, .int v1I] σ (M_Db_growth v0R v1I σ) := by
  refine ct_of (by decide +kernel) (Nat.le_of_ble_eq_true rfl) (fun p e s m args below meth c C hin => ?_)
  refine x_lve (lv' := [(0, .ref v0R), (1, .int v1I)]) rfl ?_
  intro r σ' h
  obtain ⟨n, hn⟩ := (lp_iff _ _ _).mp h
  exact (i_Db_growth C n) v0R v1I σ r σ' hn
/-! BellPlate$Doubt.isCovered(J[II)Z -/
abbrev y_Db_isCovered : MethodName := ⟨"BellPlate$Doubt", "isCovered", "(J[II)Z"⟩
theorem k_Db_isCovered : y_Db_isCovered.cls ≠ "java/lang/invoke/MethodHandle" ∧ y_Db_isCovered.cls ≠ "java/lang/invoke/VarHandle" ∧ (parseMethodDescriptor y_Db_isCovered.desc).map (fun d => d.parameters.length) = some 3 := by decide +kernel
theorem d_Db_isCovered_0 : decode prog_4_method_14_code 0 = .ok (.iconst 0, 1) := by decide +kernel
theorem d_Db_isCovered_1 : decode prog_4_method_14_code 1 = .ok (.istore 5, 2) := by decide +kernel
theorem d_Db_isCovered_3 : decode prog_4_method_14_code 3 = .ok (.iload 5, 2) := by decide +kernel
theorem d_Db_isCovered_5 : decode prog_4_method_14_code 5 = .ok (.iload 4, 2) := by decide +kernel
theorem d_Db_isCovered_7 : decode prog_4_method_14_code 7 = .ok (.if_icmp .ge 33, 3) := by decide +kernel
theorem d_Db_isCovered_10 : decode prog_4_method_14_code 10 = .ok (.lload_n 1, 1) := by decide +kernel
theorem d_Db_isCovered_11 : decode prog_4_method_14_code 11 = .ok (.aload_n 0, 1) := by decide +kernel
theorem d_Db_isCovered_12 : decode prog_4_method_14_code 12 = .ok (.getfield 15, 3) := by decide +kernel
theorem d_Db_isCovered_15 : decode prog_4_method_14_code 15 = .ok (.aload_n 3, 1) := by decide +kernel
theorem d_Db_isCovered_16 : decode prog_4_method_14_code 16 = .ok (.iload 5, 2) := by decide +kernel
theorem d_Db_isCovered_18 : decode prog_4_method_14_code 18 = .ok (.iaload, 1) := by decide +kernel
theorem d_Db_isCovered_19 : decode prog_4_method_14_code 19 = .ok (.invokevirtual 94, 3) := by decide +kernel
theorem d_Db_isCovered_22 : decode prog_4_method_14_code 22 = .ok (.ldc2_w 84, 3) := by decide +kernel
theorem d_Db_isCovered_25 : decode prog_4_method_14_code 25 = .ok (.lxor, 1) := by decide +kernel
theorem d_Db_isCovered_26 : decode prog_4_method_14_code 26 = .ok (.land, 1) := by decide +kernel
theorem d_Db_isCovered_27 : decode prog_4_method_14_code 27 = .ok (.lconst 0, 1) := by decide +kernel
theorem d_Db_isCovered_28 : decode prog_4_method_14_code 28 = .ok (.lcmp, 1) := by decide +kernel
theorem d_Db_isCovered_29 : decode prog_4_method_14_code 29 = .ok (.ifCond .ne 5, 3) := by decide +kernel
theorem d_Db_isCovered_32 : decode prog_4_method_14_code 32 = .ok (.iconst 1, 1) := by decide +kernel
theorem d_Db_isCovered_33 : decode prog_4_method_14_code 33 = .ok (.ireturn, 1) := by decide +kernel
theorem d_Db_isCovered_34 : decode prog_4_method_14_code 34 = .ok (.iinc 5 1, 3) := by decide +kernel
theorem d_Db_isCovered_37 : decode prog_4_method_14_code 37 = .ok (.goto (-34), 3) := by decide +kernel
theorem d_Db_isCovered_40 : decode prog_4_method_14_code 40 = .ok (.iconst 0, 1) := by decide +kernel
theorem d_Db_isCovered_41 : decode prog_4_method_14_code 41 = .ok (.ireturn, 1) := by decide +kernel
abbrev S_Db_isCovered : Type := Nat × Nat × Int64 × Nat × Int32 × Int32 × AM
noncomputable def T_Db_isCovered_0 (v0R : Nat) (v1J : Int64) (v3R : Nat) (v4I : Int32) (σ : AM) : S_Db_isCovered ⊕ Option (Int32 × AM) :=
  .inl (1, v0R, v1J, v3R, v4I, (0 : Int32), σ)
noncomputable def T_Db_isCovered_1 (v0R : Nat) (v1J : Int64) (v3R : Nat) (v4I : Int32) (v5I : Int32) (σ : AM) : S_Db_isCovered ⊕ Option (Int32 × AM) :=
  if v5I < v4I then (gdT (okO σ v0R 9) <| gdT (okO σ (aR σ v0R 1) 3) <| gdT (okO σ v3R 101) <| gdT (inB v5I (aN σ v3R)) <| bndT (M_Ls_at (aR σ v0R 1) (aI σ v3R v5I.toNatClampNeg) σ) fun r5 σ6 => if (lg_cmp (v1J &&& (r5 ^^^ ((-1) : Int64))) (0 : Int64)) = 0 then (.inr (some ((1 : Int32), σ6))) else (.inl (1, v0R, v1J, v3R, v4I, v5I + (1 : Int32), σ6))) else (.inr (some ((0 : Int32), σ)))
noncomputable def F_Db_isCovered : S_Db_isCovered → S_Db_isCovered ⊕ Option (Int32 × AM) := fun s => match s.1 with
  | 0 => T_Db_isCovered_0 (s.2.1) (s.2.2.1) (s.2.2.2.1) (s.2.2.2.2.1) (s.2.2.2.2.2.2)
  | _ => T_Db_isCovered_1 (s.2.1) (s.2.2.1) (s.2.2.2.1) (s.2.2.2.2.1) (s.2.2.2.2.2.1) (s.2.2.2.2.2.2)
noncomputable def L_Db_isCovered_0 (v0R : Nat) (v1J : Int64) (v3R : Nat) (v4I : Int32) (σ : AM) : Option (Int32 × AM) := lp F_Db_isCovered (0, v0R, v1J, v3R, v4I, 0, σ)
noncomputable def L_Db_isCovered_1 (v0R : Nat) (v1J : Int64) (v3R : Nat) (v4I : Int32) (v5I : Int32) (σ : AM) : Option (Int32 × AM) := lp F_Db_isCovered (1, v0R, v1J, v3R, v4I, v5I, σ)
set_option maxRecDepth 20000 in
theorem E_Db_isCovered_0 (v0R : Nat) (v1J : Int64) (v3R : Nat) (v4I : Int32) (σ : AM) : L_Db_isCovered_0 v0R v1J v3R v4I σ = (L_Db_isCovered_1 v0R v1J v3R v4I ((0 : Int32)) σ) := by
  unfold L_Db_isCovered_0
  rw [lp_eq]
  show lpK (lp F_Db_isCovered) (T_Db_isCovered_0 v0R v1J v3R v4I σ) = _
  unfold T_Db_isCovered_0
  simp only [lpK_ite, lq_inl, lq_inr, lpK_bnd, lpK_gd, lq_let]
  try rfl
set_option maxRecDepth 20000 in
theorem E_Db_isCovered_1 (v0R : Nat) (v1J : Int64) (v3R : Nat) (v4I : Int32) (v5I : Int32) (σ : AM) : L_Db_isCovered_1 v0R v1J v3R v4I v5I σ = (if v5I < v4I then (gd (okO σ v0R 9) <| gd (okO σ (aR σ v0R 1) 3) <| gd (okO σ v3R 101) <| gd (inB v5I (aN σ v3R)) <| bnd (M_Ls_at (aR σ v0R 1) (aI σ v3R v5I.toNatClampNeg) σ) fun r5 σ6 => if (lg_cmp (v1J &&& (r5 ^^^ ((-1) : Int64))) (0 : Int64)) = 0 then ((some ((1 : Int32), σ6))) else (L_Db_isCovered_1 v0R v1J v3R v4I (v5I + (1 : Int32)) σ6)) else ((some ((0 : Int32), σ)))) := by
  unfold L_Db_isCovered_1
  rw [lp_eq]
  show lpK (lp F_Db_isCovered) (T_Db_isCovered_1 v0R v1J v3R v4I v5I σ) = _
  unfold T_Db_isCovered_1
  simp only [lpK_ite, lq_inl, lq_inr, lpK_bnd, lpK_gd, lq_let]
  try rfl
noncomputable def M_Db_isCovered (v0R : Nat) (v1J : Int64) (v3R : Nat) (v4I : Int32) (σ : AM) : Option (Int32 × AM) := mw σ (L_Db_isCovered_0 v0R v1J v3R v4I σ)
def I_Db_isCovered (G : GX) (p : Program) (l : Launch) (e : Env) (s : State) (m : MethodId) (args : Array Value) (below : List Frame) (meth : Method) (c : Code) (z0 u0 n : Nat) : Prop :=
  (∀ (v0R : Nat) (v1J : Int64) (v3R : Nat) (v4I : Int32) (σ : AM), VX (QM eI G args s below z0 u0) G p l e s m args below meth c 1 z0 u0 6 (lpn F_Db_isCovered n (0, v0R, v1J, v3R, v4I, 0, σ)) 0 [(0, .ref v0R), (1, .long v1J), (3, .ref v3R), (4, .int v4I)] [] σ) ∧
  (∀ (v0R : Nat) (v1J : Int64) (v3R : Nat) (v4I : Int32) (v5I : Int32) (σ : AM), VX (QM eI G args s below z0 u0) G p l e s m args below meth c 1 z0 u0 6 (lpn F_Db_isCovered n (1, v0R, v1J, v3R, v4I, v5I, σ)) 3 [(0, .ref v0R), (1, .long v1J), (3, .ref v3R), (4, .int v4I), (5, .int v5I)] [] σ)
set_option maxRecDepth 20000 in
theorem s_Db_isCovered_0 {G : GX} {p : Program} {l : Launch} {e : Env} {s : State} {m : MethodId} {args : Array Value} {below : List Frame} {meth : Method} {c : Code} {z0 u0 n : Nat} (C : Cx G p s m args meth c prog_4_method_14_code 6 "BellPlate$Doubt" ((some FieldType.boolean))) (IH : I_Db_isCovered G p l e s m args below meth c z0 u0 n) (v0R : Nat) (v1J : Int64) (v3R : Nat) (v4I : Int32) (σ : AM) : VX (QM eI G args s below z0 u0) G p l e s m args below meth c 1 z0 u0 6 (lpK (lpn F_Db_isCovered n) (T_Db_isCovered_0 v0R v1J v3R v4I σ)) 0 [(0, .ref v0R), (1, .long v1J), (3, .ref v3R), (4, .int v4I)] [] σ := by
  unfold T_Db_isCovered_0
  refine x_iconst (v := (0 : Int32)) C d_Db_isCovered_0 (by decide) ?_
  refine x_istore (lv' := [(5, .int (0 : Int32)), (0, .ref v0R), (1, .long v1J), (3, .ref v3R), (4, .int v4I)]) C d_Db_isCovered_1 (by decide) rfl ?_
  refine x_lv [1, 2, 3, 4, 0] rfl ?_
  exact IH.2 v0R v1J v3R v4I ((0 : Int32)) (σ)
set_option maxRecDepth 20000 in
theorem s_Db_isCovered_1 {G : GX} {p : Program} {l : Launch} {e : Env} {s : State} {m : MethodId} {args : Array Value} {below : List Frame} {meth : Method} {c : Code} {z0 u0 n : Nat} (C : Cx G p s m args meth c prog_4_method_14_code 6 "BellPlate$Doubt" ((some FieldType.boolean))) (IH : I_Db_isCovered G p l e s m args below meth c z0 u0 n) (v0R : Nat) (v1J : Int64) (v3R : Nat) (v4I : Int32) (v5I : Int32) (σ : AM) : VX (QM eI G args s below z0 u0) G p l e s m args below meth c 1 z0 u0 6 (lpK (lpn F_Db_isCovered n) (T_Db_isCovered_1 v0R v1J v3R v4I v5I σ)) 3 [(0, .ref v0R), (1, .long v1J), (3, .ref v3R), (4, .int v4I), (5, .int v5I)] [] σ := by
  unfold T_Db_isCovered_1
  refine x_iload C d_Db_isCovered_3 4 rfl ?_
  refine x_iload C d_Db_isCovered_5 3 rfl ?_
  refine x_icmp_ge (tgt := 40) C d_Db_isCovered_7 (by decide) (fun _ => ?_) (fun _ => ?_)
  · refine x_lload_n C d_Db_isCovered_10 1 rfl ?_
    refine x_aload_n C d_Db_isCovered_11 0 rfl ?_
    refine x_gd (fun h1 => ?_)
    refine x_gd (fun h2 => ?_)
    refine x_getR (k := 1) (kv := 3) C (okO_iff.mp h1) rfl j8_ok (by decide) rfl (okO_iff.mp h2) (by decide) w537 d_Db_isCovered_12 ?_
    refine x_aload_n C d_Db_isCovered_15 2 rfl ?_
    refine x_iload C d_Db_isCovered_16 4 rfl ?_
    refine x_gd (fun h3 => ?_)
    refine x_gd (fun h4 => ?_)
    refine x_aldI C (okO_iff.mp h3) (inB_iff.mp h4) d_Db_isCovered_18 ?_
    refine x_callVJ (As := [.int (aI σ v3R v5I.toNatClampNeg)]) C (c_Ls_at G l (aR σ v0R 1) (aI σ v3R v5I.toNatClampNeg) σ) (okO_iff.mp h2) rfl w996 w997 w1420 w998 w123 k_Ls_at rfl (by decide) (by decide) rfl (Nat.le_of_ble_eq_true rfl) d_Db_isCovered_19 (fun r5 σ6 => ?_)
    refine x_ldc2 C d_Db_isCovered_22 w1418 ?_
    refine x_lxor C d_Db_isCovered_25 ?_
    refine x_land C d_Db_isCovered_26 ?_
    refine x_lconst (v := (0 : Int64)) C d_Db_isCovered_27 (by decide) ?_
    refine x_lcmp C d_Db_isCovered_28 ?_
    refine x_if_ne (tgt := 34) C d_Db_isCovered_29 (by decide) (fun _ => ?_) (fun _ => ?_)
    · refine x_iconst (v := (1 : Int32)) C d_Db_isCovered_32 (by decide) ?_
      exact x_zret C (by decide) d_Db_isCovered_33
    · refine x_iinc (v := v5I + (1 : Int32)) (lv' := [(5, .int (v5I + (1 : Int32))), (0, .ref v0R), (1, .long v1J), (3, .ref v3R), (4, .int v4I)]) C d_Db_isCovered_34 4 rfl rfl (by decide) rfl ?_
      refine x_goto (tgt := 3) C d_Db_isCovered_37 (by decide) ?_
      refine x_lv [1, 2, 3, 4, 0] rfl ?_
      exact IH.2 v0R v1J v3R v4I (v5I + (1 : Int32)) (σ6)
  · refine x_iconst (v := (0 : Int32)) C d_Db_isCovered_40 (by decide) ?_
    exact x_zret C (by decide) d_Db_isCovered_41
theorem i_Db_isCovered {G : GX} {p : Program} {l : Launch} {e : Env} {s : State} {m : MethodId} {args : Array Value} {below : List Frame} {meth : Method} {c : Code} {z0 u0 : Nat} (C : Cx G p s m args meth c prog_4_method_14_code 6 "BellPlate$Doubt" ((some FieldType.boolean))) (n : Nat) : I_Db_isCovered G p l e s m args below meth c z0 u0 n := by
  induction n with
  | zero => exact ⟨fun _ _ _ _ _ => x_none, fun _ _ _ _ _ _ => x_none⟩
  | succ n IH => exact ⟨fun v0R v1J v3R v4I σ => s_Db_isCovered_0 C IH v0R v1J v3R v4I σ, fun v0R v1J v3R v4I v5I σ => s_Db_isCovered_1 C IH v0R v1J v3R v4I v5I σ⟩
theorem c_Db_isCovered (G : GX) (l : Launch) (v0R : Nat) (v1J : Int64) (v3R : Nat) (v4I : Int32) (σ : AM) : CT eI G l 1 y_Db_isCovered prog_4_method_14_code 6 ((some FieldType.boolean)) [.ref v0R, .long v1J, .ref v3R, .int v4I] σ (M_Db_isCovered v0R v1J v3R v4I σ) := by
  refine ct_of (by decide +kernel) (Nat.le_of_ble_eq_true rfl) (fun p e s m args below meth c C hin => ?_)
  refine x_lve (lv' := [(0, .ref v0R), (1, .long v1J), (3, .ref v3R), (4, .int v4I)]) rfl ?_
  intro r σ' h
  obtain ⟨n, hn⟩ := (lp_iff _ _ _).mp h
  exact (i_Db_isCovered C n).1 v0R v1J v3R v4I σ r σ' hn
/-! BellPlate$Doubt.hasPair(J[II)Z -/
abbrev y_Db_hasPair : MethodName := ⟨"BellPlate$Doubt", "hasPair", "(J[II)Z"⟩
theorem k_Db_hasPair : y_Db_hasPair.cls ≠ "java/lang/invoke/MethodHandle" ∧ y_Db_hasPair.cls ≠ "java/lang/invoke/VarHandle" ∧ (parseMethodDescriptor y_Db_hasPair.desc).map (fun d => d.parameters.length) = some 3 := by decide +kernel
theorem d_Db_hasPair_0 : decode prog_4_method_15_code 0 = .ok (.iconst 0, 1) := by decide +kernel
theorem d_Db_hasPair_1 : decode prog_4_method_15_code 1 = .ok (.istore 5, 2) := by decide +kernel
theorem d_Db_hasPair_3 : decode prog_4_method_15_code 3 = .ok (.iload 5, 2) := by decide +kernel
theorem d_Db_hasPair_5 : decode prog_4_method_15_code 5 = .ok (.iload 4, 2) := by decide +kernel
theorem d_Db_hasPair_7 : decode prog_4_method_15_code 7 = .ok (.if_icmp .ge 72, 3) := by decide +kernel
theorem d_Db_hasPair_10 : decode prog_4_method_15_code 10 = .ok (.lload_n 1, 1) := by decide +kernel
theorem d_Db_hasPair_11 : decode prog_4_method_15_code 11 = .ok (.aload_n 0, 1) := by decide +kernel
theorem d_Db_hasPair_12 : decode prog_4_method_15_code 12 = .ok (.getfield 15, 3) := by decide +kernel
theorem d_Db_hasPair_15 : decode prog_4_method_15_code 15 = .ok (.aload_n 3, 1) := by decide +kernel
theorem d_Db_hasPair_16 : decode prog_4_method_15_code 16 = .ok (.iload 5, 2) := by decide +kernel
theorem d_Db_hasPair_18 : decode prog_4_method_15_code 18 = .ok (.iaload, 1) := by decide +kernel
theorem d_Db_hasPair_19 : decode prog_4_method_15_code 19 = .ok (.invokevirtual 94, 3) := by decide +kernel
theorem d_Db_hasPair_22 : decode prog_4_method_15_code 22 = .ok (.ldc2_w 84, 3) := by decide +kernel
theorem d_Db_hasPair_25 : decode prog_4_method_15_code 25 = .ok (.lxor, 1) := by decide +kernel
theorem d_Db_hasPair_26 : decode prog_4_method_15_code 26 = .ok (.land, 1) := by decide +kernel
theorem d_Db_hasPair_27 : decode prog_4_method_15_code 27 = .ok (.lstore 6, 2) := by decide +kernel
theorem d_Db_hasPair_29 : decode prog_4_method_15_code 29 = .ok (.iload 5, 2) := by decide +kernel
theorem d_Db_hasPair_31 : decode prog_4_method_15_code 31 = .ok (.iconst 1, 1) := by decide +kernel
theorem d_Db_hasPair_32 : decode prog_4_method_15_code 32 = .ok (.iadd, 1) := by decide +kernel
theorem d_Db_hasPair_33 : decode prog_4_method_15_code 33 = .ok (.istore 8, 2) := by decide +kernel
theorem d_Db_hasPair_35 : decode prog_4_method_15_code 35 = .ok (.iload 8, 2) := by decide +kernel
theorem d_Db_hasPair_37 : decode prog_4_method_15_code 37 = .ok (.iload 4, 2) := by decide +kernel
theorem d_Db_hasPair_39 : decode prog_4_method_15_code 39 = .ok (.if_icmp .ge 34, 3) := by decide +kernel
theorem d_Db_hasPair_42 : decode prog_4_method_15_code 42 = .ok (.lload 6, 2) := by decide +kernel
theorem d_Db_hasPair_44 : decode prog_4_method_15_code 44 = .ok (.aload_n 0, 1) := by decide +kernel
theorem d_Db_hasPair_45 : decode prog_4_method_15_code 45 = .ok (.getfield 15, 3) := by decide +kernel
theorem d_Db_hasPair_48 : decode prog_4_method_15_code 48 = .ok (.aload_n 3, 1) := by decide +kernel
theorem d_Db_hasPair_49 : decode prog_4_method_15_code 49 = .ok (.iload 8, 2) := by decide +kernel
theorem d_Db_hasPair_51 : decode prog_4_method_15_code 51 = .ok (.iaload, 1) := by decide +kernel
theorem d_Db_hasPair_52 : decode prog_4_method_15_code 52 = .ok (.invokevirtual 94, 3) := by decide +kernel
theorem d_Db_hasPair_55 : decode prog_4_method_15_code 55 = .ok (.ldc2_w 84, 3) := by decide +kernel
theorem d_Db_hasPair_58 : decode prog_4_method_15_code 58 = .ok (.lxor, 1) := by decide +kernel
theorem d_Db_hasPair_59 : decode prog_4_method_15_code 59 = .ok (.land, 1) := by decide +kernel
theorem d_Db_hasPair_60 : decode prog_4_method_15_code 60 = .ok (.lconst 0, 1) := by decide +kernel
theorem d_Db_hasPair_61 : decode prog_4_method_15_code 61 = .ok (.lcmp, 1) := by decide +kernel
theorem d_Db_hasPair_62 : decode prog_4_method_15_code 62 = .ok (.ifCond .ne 5, 3) := by decide +kernel
theorem d_Db_hasPair_65 : decode prog_4_method_15_code 65 = .ok (.iconst 1, 1) := by decide +kernel
theorem d_Db_hasPair_66 : decode prog_4_method_15_code 66 = .ok (.ireturn, 1) := by decide +kernel
theorem d_Db_hasPair_67 : decode prog_4_method_15_code 67 = .ok (.iinc 8 1, 3) := by decide +kernel
theorem d_Db_hasPair_70 : decode prog_4_method_15_code 70 = .ok (.goto (-35), 3) := by decide +kernel
theorem d_Db_hasPair_73 : decode prog_4_method_15_code 73 = .ok (.iinc 5 1, 3) := by decide +kernel
theorem d_Db_hasPair_76 : decode prog_4_method_15_code 76 = .ok (.goto (-73), 3) := by decide +kernel
theorem d_Db_hasPair_79 : decode prog_4_method_15_code 79 = .ok (.iconst 0, 1) := by decide +kernel
theorem d_Db_hasPair_80 : decode prog_4_method_15_code 80 = .ok (.ireturn, 1) := by decide +kernel
abbrev S_Db_hasPair : Type := Nat × Nat × Int64 × Nat × Int32 × Int32 × Int64 × Int32 × AM
noncomputable def T_Db_hasPair_0 (v0R : Nat) (v1J : Int64) (v3R : Nat) (v4I : Int32) (σ : AM) : S_Db_hasPair ⊕ Option (Int32 × AM) :=
  .inl (1, v0R, v1J, v3R, v4I, (0 : Int32), 0, 0, σ)
noncomputable def T_Db_hasPair_1 (v0R : Nat) (v1J : Int64) (v3R : Nat) (v4I : Int32) (v5I : Int32) (σ : AM) : S_Db_hasPair ⊕ Option (Int32 × AM) :=
  if v5I < v4I then (gdT (okO σ v0R 9) <| gdT (okO σ (aR σ v0R 1) 3) <| gdT (okO σ v3R 101) <| gdT (inB v5I (aN σ v3R)) <| bndT (M_Ls_at (aR σ v0R 1) (aI σ v3R v5I.toNatClampNeg) σ) fun r5 σ6 => letT (v1J &&& (r5 ^^^ ((-1) : Int64))) fun x7 => letT (v5I + (1 : Int32)) fun x8 => .inl (2, v0R, v1J, v3R, v4I, v5I, x7, x8, σ6)) else (.inr (some ((0 : Int32), σ)))
noncomputable def T_Db_hasPair_2 (v0R : Nat) (v1J : Int64) (v3R : Nat) (v4I : Int32) (v5I : Int32) (v6J : Int64) (v8I : Int32) (σ : AM) : S_Db_hasPair ⊕ Option (Int32 × AM) :=
  if v8I < v4I then (gdT (okO σ v0R 9) <| gdT (okO σ (aR σ v0R 1) 3) <| gdT (okO σ v3R 101) <| gdT (inB v8I (aN σ v3R)) <| bndT (M_Ls_at (aR σ v0R 1) (aI σ v3R v8I.toNatClampNeg) σ) fun r5 σ6 => if (lg_cmp (v6J &&& (r5 ^^^ ((-1) : Int64))) (0 : Int64)) = 0 then (.inr (some ((1 : Int32), σ6))) else (.inl (2, v0R, v1J, v3R, v4I, v5I, v6J, v8I + (1 : Int32), σ6))) else (.inl (1, v0R, v1J, v3R, v4I, v5I + (1 : Int32), 0, 0, σ))
noncomputable def F_Db_hasPair : S_Db_hasPair → S_Db_hasPair ⊕ Option (Int32 × AM) := fun s => match s.1 with
  | 0 => T_Db_hasPair_0 (s.2.1) (s.2.2.1) (s.2.2.2.1) (s.2.2.2.2.1) (s.2.2.2.2.2.2.2.2)
  | 1 => T_Db_hasPair_1 (s.2.1) (s.2.2.1) (s.2.2.2.1) (s.2.2.2.2.1) (s.2.2.2.2.2.1) (s.2.2.2.2.2.2.2.2)
  | _ => T_Db_hasPair_2 (s.2.1) (s.2.2.1) (s.2.2.2.1) (s.2.2.2.2.1) (s.2.2.2.2.2.1) (s.2.2.2.2.2.2.1) (s.2.2.2.2.2.2.2.1) (s.2.2.2.2.2.2.2.2)
noncomputable def L_Db_hasPair_0 (v0R : Nat) (v1J : Int64) (v3R : Nat) (v4I : Int32) (σ : AM) : Option (Int32 × AM) := lp F_Db_hasPair (0, v0R, v1J, v3R, v4I, 0, 0, 0, σ)
noncomputable def L_Db_hasPair_1 (v0R : Nat) (v1J : Int64) (v3R : Nat) (v4I : Int32) (v5I : Int32) (σ : AM) : Option (Int32 × AM) := lp F_Db_hasPair (1, v0R, v1J, v3R, v4I, v5I, 0, 0, σ)
noncomputable def L_Db_hasPair_2 (v0R : Nat) (v1J : Int64) (v3R : Nat) (v4I : Int32) (v5I : Int32) (v6J : Int64) (v8I : Int32) (σ : AM) : Option (Int32 × AM) := lp F_Db_hasPair (2, v0R, v1J, v3R, v4I, v5I, v6J, v8I, σ)
set_option maxRecDepth 20000 in
theorem E_Db_hasPair_0 (v0R : Nat) (v1J : Int64) (v3R : Nat) (v4I : Int32) (σ : AM) : L_Db_hasPair_0 v0R v1J v3R v4I σ = (L_Db_hasPair_1 v0R v1J v3R v4I ((0 : Int32)) σ) := by
  unfold L_Db_hasPair_0
  rw [lp_eq]
  show lpK (lp F_Db_hasPair) (T_Db_hasPair_0 v0R v1J v3R v4I σ) = _
  unfold T_Db_hasPair_0
  simp only [lpK_ite, lq_inl, lq_inr, lpK_bnd, lpK_gd, lq_let]
  try rfl
set_option maxRecDepth 20000 in
theorem E_Db_hasPair_1 (v0R : Nat) (v1J : Int64) (v3R : Nat) (v4I : Int32) (v5I : Int32) (σ : AM) : L_Db_hasPair_1 v0R v1J v3R v4I v5I σ = (if v5I < v4I then (gd (okO σ v0R 9) <| gd (okO σ (aR σ v0R 1) 3) <| gd (okO σ v3R 101) <| gd (inB v5I (aN σ v3R)) <| bnd (M_Ls_at (aR σ v0R 1) (aI σ v3R v5I.toNatClampNeg) σ) fun r5 σ6 => letT (v1J &&& (r5 ^^^ ((-1) : Int64))) fun x7 => letT (v5I + (1 : Int32)) fun x8 => L_Db_hasPair_2 v0R v1J v3R v4I v5I x7 x8 σ6) else ((some ((0 : Int32), σ)))) := by
  unfold L_Db_hasPair_1
  rw [lp_eq]
  show lpK (lp F_Db_hasPair) (T_Db_hasPair_1 v0R v1J v3R v4I v5I σ) = _
  unfold T_Db_hasPair_1
  simp only [lpK_ite, lq_inl, lq_inr, lpK_bnd, lpK_gd, lq_let]
  try rfl
set_option maxRecDepth 20000 in
theorem E_Db_hasPair_2 (v0R : Nat) (v1J : Int64) (v3R : Nat) (v4I : Int32) (v5I : Int32) (v6J : Int64) (v8I : Int32) (σ : AM) : L_Db_hasPair_2 v0R v1J v3R v4I v5I v6J v8I σ = (if v8I < v4I then (gd (okO σ v0R 9) <| gd (okO σ (aR σ v0R 1) 3) <| gd (okO σ v3R 101) <| gd (inB v8I (aN σ v3R)) <| bnd (M_Ls_at (aR σ v0R 1) (aI σ v3R v8I.toNatClampNeg) σ) fun r5 σ6 => if (lg_cmp (v6J &&& (r5 ^^^ ((-1) : Int64))) (0 : Int64)) = 0 then ((some ((1 : Int32), σ6))) else (L_Db_hasPair_2 v0R v1J v3R v4I v5I v6J (v8I + (1 : Int32)) σ6)) else (L_Db_hasPair_1 v0R v1J v3R v4I (v5I + (1 : Int32)) σ)) := by
  unfold L_Db_hasPair_2
  rw [lp_eq]
  show lpK (lp F_Db_hasPair) (T_Db_hasPair_2 v0R v1J v3R v4I v5I v6J v8I σ) = _
  unfold T_Db_hasPair_2
  simp only [lpK_ite, lq_inl, lq_inr, lpK_bnd, lpK_gd, lq_let]
  try rfl
noncomputable def M_Db_hasPair (v0R : Nat) (v1J : Int64) (v3R : Nat) (v4I : Int32) (σ : AM) : Option (Int32 × AM) := mw σ (L_Db_hasPair_0 v0R v1J v3R v4I σ)
def I_Db_hasPair (G : GX) (p : Program) (l : Launch) (e : Env) (s : State) (m : MethodId) (args : Array Value) (below : List Frame) (meth : Method) (c : Code) (z0 u0 n : Nat) : Prop :=
  (∀ (v0R : Nat) (v1J : Int64) (v3R : Nat) (v4I : Int32) (σ : AM), VX (QM eI G args s below z0 u0) G p l e s m args below meth c 1 z0 u0 9 (lpn F_Db_hasPair n (0, v0R, v1J, v3R, v4I, 0, 0, 0, σ)) 0 [(0, .ref v0R), (1, .long v1J), (3, .ref v3R), (4, .int v4I)] [] σ) ∧
  (∀ (v0R : Nat) (v1J : Int64) (v3R : Nat) (v4I : Int32) (v5I : Int32) (σ : AM), VX (QM eI G args s below z0 u0) G p l e s m args below meth c 1 z0 u0 9 (lpn F_Db_hasPair n (1, v0R, v1J, v3R, v4I, v5I, 0, 0, σ)) 3 [(0, .ref v0R), (1, .long v1J), (3, .ref v3R), (4, .int v4I), (5, .int v5I)] [] σ) ∧
  (∀ (v0R : Nat) (v1J : Int64) (v3R : Nat) (v4I : Int32) (v5I : Int32) (v6J : Int64) (v8I : Int32) (σ : AM), VX (QM eI G args s below z0 u0) G p l e s m args below meth c 1 z0 u0 9 (lpn F_Db_hasPair n (2, v0R, v1J, v3R, v4I, v5I, v6J, v8I, σ)) 35 [(0, .ref v0R), (1, .long v1J), (3, .ref v3R), (4, .int v4I), (5, .int v5I), (6, .long v6J), (8, .int v8I)] [] σ)
set_option maxRecDepth 20000 in
theorem s_Db_hasPair_0 {G : GX} {p : Program} {l : Launch} {e : Env} {s : State} {m : MethodId} {args : Array Value} {below : List Frame} {meth : Method} {c : Code} {z0 u0 n : Nat} (C : Cx G p s m args meth c prog_4_method_15_code 9 "BellPlate$Doubt" ((some FieldType.boolean))) (IH : I_Db_hasPair G p l e s m args below meth c z0 u0 n) (v0R : Nat) (v1J : Int64) (v3R : Nat) (v4I : Int32) (σ : AM) : VX (QM eI G args s below z0 u0) G p l e s m args below meth c 1 z0 u0 9 (lpK (lpn F_Db_hasPair n) (T_Db_hasPair_0 v0R v1J v3R v4I σ)) 0 [(0, .ref v0R), (1, .long v1J), (3, .ref v3R), (4, .int v4I)] [] σ := by
  unfold T_Db_hasPair_0
  refine x_iconst (v := (0 : Int32)) C d_Db_hasPair_0 (by decide) ?_
  refine x_istore (lv' := [(5, .int (0 : Int32)), (0, .ref v0R), (1, .long v1J), (3, .ref v3R), (4, .int v4I)]) C d_Db_hasPair_1 (by decide) rfl ?_
  refine x_lv [1, 2, 3, 4, 0] rfl ?_
  exact IH.2.1 v0R v1J v3R v4I ((0 : Int32)) (σ)
set_option maxRecDepth 20000 in
theorem s_Db_hasPair_1 {G : GX} {p : Program} {l : Launch} {e : Env} {s : State} {m : MethodId} {args : Array Value} {below : List Frame} {meth : Method} {c : Code} {z0 u0 n : Nat} (C : Cx G p s m args meth c prog_4_method_15_code 9 "BellPlate$Doubt" ((some FieldType.boolean))) (IH : I_Db_hasPair G p l e s m args below meth c z0 u0 n) (v0R : Nat) (v1J : Int64) (v3R : Nat) (v4I : Int32) (v5I : Int32) (σ : AM) : VX (QM eI G args s below z0 u0) G p l e s m args below meth c 1 z0 u0 9 (lpK (lpn F_Db_hasPair n) (T_Db_hasPair_1 v0R v1J v3R v4I v5I σ)) 3 [(0, .ref v0R), (1, .long v1J), (3, .ref v3R), (4, .int v4I), (5, .int v5I)] [] σ := by
  unfold T_Db_hasPair_1
  refine x_iload C d_Db_hasPair_3 4 rfl ?_
  refine x_iload C d_Db_hasPair_5 3 rfl ?_
  refine x_icmp_ge (tgt := 79) C d_Db_hasPair_7 (by decide) (fun _ => ?_) (fun _ => ?_)
  · refine x_lload_n C d_Db_hasPair_10 1 rfl ?_
    refine x_aload_n C d_Db_hasPair_11 0 rfl ?_
    refine x_gd (fun h1 => ?_)
    refine x_gd (fun h2 => ?_)
    refine x_getR (k := 1) (kv := 3) C (okO_iff.mp h1) rfl j8_ok (by decide) rfl (okO_iff.mp h2) (by decide) w537 d_Db_hasPair_12 ?_
    refine x_aload_n C d_Db_hasPair_15 2 rfl ?_
    refine x_iload C d_Db_hasPair_16 4 rfl ?_
    refine x_gd (fun h3 => ?_)
    refine x_gd (fun h4 => ?_)
    refine x_aldI C (okO_iff.mp h3) (inB_iff.mp h4) d_Db_hasPair_18 ?_
    refine x_callVJ (As := [.int (aI σ v3R v5I.toNatClampNeg)]) C (c_Ls_at G l (aR σ v0R 1) (aI σ v3R v5I.toNatClampNeg) σ) (okO_iff.mp h2) rfl w996 w997 w1420 w998 w123 k_Ls_at rfl (by decide) (by decide) rfl (Nat.le_of_ble_eq_true rfl) d_Db_hasPair_19 (fun r5 σ6 => ?_)
    refine x_ldc2 C d_Db_hasPair_22 w1418 ?_
    refine x_lxor C d_Db_hasPair_25 ?_
    refine x_land C d_Db_hasPair_26 ?_
    refine x_letJ (fun x7 _ => ?_)
    refine x_lstore (lv' := [(6, .long x7), (0, .ref v0R), (1, .long v1J), (3, .ref v3R), (4, .int v4I), (5, .int v5I)]) C d_Db_hasPair_27 (by decide) rfl ?_
    refine x_iload C d_Db_hasPair_29 5 rfl ?_
    refine x_iconst (v := (1 : Int32)) C d_Db_hasPair_31 (by decide) ?_
    refine x_iadd C d_Db_hasPair_32 ?_
    refine x_letI (fun x8 _ => ?_)
    refine x_istore (lv' := [(8, .int x8), (6, .long x7), (0, .ref v0R), (1, .long v1J), (3, .ref v3R), (4, .int v4I), (5, .int v5I)]) C d_Db_hasPair_33 (by decide) rfl ?_
    refine x_lv [2, 3, 4, 5, 6, 1, 0] rfl ?_
    exact IH.2.2 v0R v1J v3R v4I v5I x7 x8 (σ6)
  · refine x_iconst (v := (0 : Int32)) C d_Db_hasPair_79 (by decide) ?_
    exact x_zret C (by decide) d_Db_hasPair_80
set_option maxRecDepth 20000 in
theorem s_Db_hasPair_2 {G : GX} {p : Program} {l : Launch} {e : Env} {s : State} {m : MethodId} {args : Array Value} {below : List Frame} {meth : Method} {c : Code} {z0 u0 n : Nat} (C : Cx G p s m args meth c prog_4_method_15_code 9 "BellPlate$Doubt" ((some FieldType.boolean))) (IH : I_Db_hasPair G p l e s m args below meth c z0 u0 n) (v0R : Nat) (v1J : Int64) (v3R : Nat) (v4I : Int32) (v5I : Int32) (v6J : Int64) (v8I : Int32) (σ : AM) : VX (QM eI G args s below z0 u0) G p l e s m args below meth c 1 z0 u0 9 (lpK (lpn F_Db_hasPair n) (T_Db_hasPair_2 v0R v1J v3R v4I v5I v6J v8I σ)) 35 [(0, .ref v0R), (1, .long v1J), (3, .ref v3R), (4, .int v4I), (5, .int v5I), (6, .long v6J), (8, .int v8I)] [] σ := by
  unfold T_Db_hasPair_2
  refine x_iload C d_Db_hasPair_35 6 rfl ?_
  refine x_iload C d_Db_hasPair_37 3 rfl ?_
  refine x_icmp_ge (tgt := 73) C d_Db_hasPair_39 (by decide) (fun _ => ?_) (fun _ => ?_)
  · refine x_lload C d_Db_hasPair_42 5 rfl ?_
    refine x_aload_n C d_Db_hasPair_44 0 rfl ?_
    refine x_gd (fun h1 => ?_)
    refine x_gd (fun h2 => ?_)
    refine x_getR (k := 1) (kv := 3) C (okO_iff.mp h1) rfl j8_ok (by decide) rfl (okO_iff.mp h2) (by decide) w537 d_Db_hasPair_45 ?_
    refine x_aload_n C d_Db_hasPair_48 2 rfl ?_
    refine x_iload C d_Db_hasPair_49 6 rfl ?_
    refine x_gd (fun h3 => ?_)
    refine x_gd (fun h4 => ?_)
    refine x_aldI C (okO_iff.mp h3) (inB_iff.mp h4) d_Db_hasPair_51 ?_
    refine x_callVJ (As := [.int (aI σ v3R v8I.toNatClampNeg)]) C (c_Ls_at G l (aR σ v0R 1) (aI σ v3R v8I.toNatClampNeg) σ) (okO_iff.mp h2) rfl w996 w997 w1420 w998 w123 k_Ls_at rfl (by decide) (by decide) rfl (Nat.le_of_ble_eq_true rfl) d_Db_hasPair_52 (fun r5 σ6 => ?_)
    refine x_ldc2 C d_Db_hasPair_55 w1418 ?_
    refine x_lxor C d_Db_hasPair_58 ?_
    refine x_land C d_Db_hasPair_59 ?_
    refine x_lconst (v := (0 : Int64)) C d_Db_hasPair_60 (by decide) ?_
    refine x_lcmp C d_Db_hasPair_61 ?_
    refine x_if_ne (tgt := 67) C d_Db_hasPair_62 (by decide) (fun _ => ?_) (fun _ => ?_)
    · refine x_iconst (v := (1 : Int32)) C d_Db_hasPair_65 (by decide) ?_
      exact x_zret C (by decide) d_Db_hasPair_66
    · refine x_iinc (v := v8I + (1 : Int32)) (lv' := [(8, .int (v8I + (1 : Int32))), (0, .ref v0R), (1, .long v1J), (3, .ref v3R), (4, .int v4I), (5, .int v5I), (6, .long v6J)]) C d_Db_hasPair_67 6 rfl rfl (by decide) rfl ?_
      refine x_goto (tgt := 35) C d_Db_hasPair_70 (by decide) ?_
      refine x_lv [1, 2, 3, 4, 5, 6, 0] rfl ?_
      exact IH.2.2 v0R v1J v3R v4I v5I v6J (v8I + (1 : Int32)) (σ6)
  · refine x_iinc (v := v5I + (1 : Int32)) (lv' := [(5, .int (v5I + (1 : Int32))), (0, .ref v0R), (1, .long v1J), (3, .ref v3R), (4, .int v4I), (6, .long v6J), (8, .int v8I)]) C d_Db_hasPair_73 4 rfl rfl (by decide) rfl ?_
    refine x_goto (tgt := 3) C d_Db_hasPair_76 (by decide) ?_
    refine x_lv [1, 2, 3, 4, 0] rfl ?_
    exact IH.2.1 v0R v1J v3R v4I (v5I + (1 : Int32)) (σ)
theorem i_Db_hasPair {G : GX} {p : Program} {l : Launch} {e : Env} {s : State} {m : MethodId} {args : Array Value} {below : List Frame} {meth : Method} {c : Code} {z0 u0 : Nat} (C : Cx G p s m args meth c prog_4_method_15_code 9 "BellPlate$Doubt" ((some FieldType.boolean))) (n : Nat) : I_Db_hasPair G p l e s m args below meth c z0 u0 n := by
  induction n with
  | zero => exact ⟨fun _ _ _ _ _ => x_none, fun _ _ _ _ _ _ => x_none, fun _ _ _ _ _ _ _ _ => x_none⟩
  | succ n IH => exact ⟨fun v0R v1J v3R v4I σ => s_Db_hasPair_0 C IH v0R v1J v3R v4I σ, fun v0R v1J v3R v4I v5I σ => s_Db_hasPair_1 C IH v0R v1J v3R v4I v5I σ, fun v0R v1J v3R v4I v5I v6J v8I σ => s_Db_hasPair_2 C IH v0R v1J v3R v4I v5I v6J v8I σ⟩
theorem c_Db_hasPair (G : GX) (l : Launch) (v0R : Nat) (v1J : Int64) (v3R : Nat) (v4I : Int32) (σ : AM) : CT eI G l 1 y_Db_hasPair prog_4_method_15_code 9 ((some FieldType.boolean)) [.ref v0R, .long v1J, .ref v3R, .int v4I] σ (M_Db_hasPair v0R v1J v3R v4I σ) := by
  refine ct_of (by decide +kernel) (Nat.le_of_ble_eq_true rfl) (fun p e s m args below meth c C hin => ?_)
  refine x_lve (lv' := [(0, .ref v0R), (1, .long v1J), (3, .ref v3R), (4, .int v4I)]) rfl ?_
  intro r σ' h
  obtain ⟨n, hn⟩ := (lp_iff _ _ _).mp h
  exact (i_Db_hasPair C n).1 v0R v1J v3R v4I σ r σ' hn
/-! BellPlate$Doubt.bellsNeeded()I -/
abbrev y_Db_bellsNeeded : MethodName := ⟨"BellPlate$Doubt", "bellsNeeded", "()I"⟩
theorem k_Db_bellsNeeded : y_Db_bellsNeeded.cls ≠ "java/lang/invoke/MethodHandle" ∧ y_Db_bellsNeeded.cls ≠ "java/lang/invoke/VarHandle" ∧ (parseMethodDescriptor y_Db_bellsNeeded.desc).map (fun d => d.parameters.length) = some 0 := by decide +kernel
theorem d_Db_bellsNeeded_0 : decode prog_4_method_13_code 0 = .ok (.aload_n 0, 1) := by decide +kernel
theorem d_Db_bellsNeeded_1 : decode prog_4_method_13_code 1 = .ok (.getfield 19, 3) := by decide +kernel
theorem d_Db_bellsNeeded_4 : decode prog_4_method_13_code 4 = .ok (.iconst 1, 1) := by decide +kernel
theorem d_Db_bellsNeeded_5 : decode prog_4_method_13_code 5 = .ok (.iconst 0, 1) := by decide +kernel
theorem d_Db_bellsNeeded_6 : decode prog_4_method_13_code 6 = .ok (.invokevirtual 164, 3) := by decide +kernel
theorem d_Db_bellsNeeded_9 : decode prog_4_method_13_code 9 = .ok (.lstore_n 1, 1) := by decide +kernel
theorem d_Db_bellsNeeded_10 : decode prog_4_method_13_code 10 = .ok (.aload_n 0, 1) := by decide +kernel
theorem d_Db_bellsNeeded_11 : decode prog_4_method_13_code 11 = .ok (.getfield 19, 3) := by decide +kernel
theorem d_Db_bellsNeeded_14 : decode prog_4_method_13_code 14 = .ok (.iconst 0, 1) := by decide +kernel
theorem d_Db_bellsNeeded_15 : decode prog_4_method_13_code 15 = .ok (.iconst 0, 1) := by decide +kernel
theorem d_Db_bellsNeeded_16 : decode prog_4_method_13_code 16 = .ok (.invokevirtual 164, 3) := by decide +kernel
theorem d_Db_bellsNeeded_19 : decode prog_4_method_13_code 19 = .ok (.lstore_n 3, 1) := by decide +kernel
theorem d_Db_bellsNeeded_20 : decode prog_4_method_13_code 20 = .ok (.lload_n 1, 1) := by decide +kernel
theorem d_Db_bellsNeeded_21 : decode prog_4_method_13_code 21 = .ok (.lconst 0, 1) := by decide +kernel
theorem d_Db_bellsNeeded_22 : decode prog_4_method_13_code 22 = .ok (.lcmp, 1) := by decide +kernel
theorem d_Db_bellsNeeded_23 : decode prog_4_method_13_code 23 = .ok (.ifCond .ne 5, 3) := by decide +kernel
theorem d_Db_bellsNeeded_26 : decode prog_4_method_13_code 26 = .ok (.iconst 0, 1) := by decide +kernel
theorem d_Db_bellsNeeded_27 : decode prog_4_method_13_code 27 = .ok (.ireturn, 1) := by decide +kernel
theorem d_Db_bellsNeeded_28 : decode prog_4_method_13_code 28 = .ok (.aload_n 0, 1) := by decide +kernel
theorem d_Db_bellsNeeded_29 : decode prog_4_method_13_code 29 = .ok (.getfield 15, 3) := by decide +kernel
theorem d_Db_bellsNeeded_32 : decode prog_4_method_13_code 32 = .ok (.invokevirtual 168, 3) := by decide +kernel
theorem d_Db_bellsNeeded_35 : decode prog_4_method_13_code 35 = .ok (.astore 5, 2) := by decide +kernel
theorem d_Db_bellsNeeded_37 : decode prog_4_method_13_code 37 = .ok (.iconst 0, 1) := by decide +kernel
theorem d_Db_bellsNeeded_38 : decode prog_4_method_13_code 38 = .ok (.istore 6, 2) := by decide +kernel
theorem d_Db_bellsNeeded_40 : decode prog_4_method_13_code 40 = .ok (.aload_n 0, 1) := by decide +kernel
theorem d_Db_bellsNeeded_41 : decode prog_4_method_13_code 41 = .ok (.getfield 15, 3) := by decide +kernel
theorem d_Db_bellsNeeded_44 : decode prog_4_method_13_code 44 = .ok (.invokevirtual 89, 3) := by decide +kernel
theorem d_Db_bellsNeeded_47 : decode prog_4_method_13_code 47 = .ok (.iconst 1, 1) := by decide +kernel
theorem d_Db_bellsNeeded_48 : decode prog_4_method_13_code 48 = .ok (.isub, 1) := by decide +kernel
theorem d_Db_bellsNeeded_49 : decode prog_4_method_13_code 49 = .ok (.istore 7, 2) := by decide +kernel
theorem d_Db_bellsNeeded_51 : decode prog_4_method_13_code 51 = .ok (.iload 7, 2) := by decide +kernel
theorem d_Db_bellsNeeded_53 : decode prog_4_method_13_code 53 = .ok (.ifCond .lt 69, 3) := by decide +kernel
theorem d_Db_bellsNeeded_56 : decode prog_4_method_13_code 56 = .ok (.aload_n 0, 1) := by decide +kernel
theorem d_Db_bellsNeeded_57 : decode prog_4_method_13_code 57 = .ok (.getfield 15, 3) := by decide +kernel
theorem d_Db_bellsNeeded_60 : decode prog_4_method_13_code 60 = .ok (.iload 7, 2) := by decide +kernel
theorem d_Db_bellsNeeded_62 : decode prog_4_method_13_code 62 = .ok (.invokevirtual 94, 3) := by decide +kernel
theorem d_Db_bellsNeeded_65 : decode prog_4_method_13_code 65 = .ok (.lstore 8, 2) := by decide +kernel
theorem d_Db_bellsNeeded_67 : decode prog_4_method_13_code 67 = .ok (.lload 8, 2) := by decide +kernel
theorem d_Db_bellsNeeded_69 : decode prog_4_method_13_code 69 = .ok (.lload_n 3, 1) := by decide +kernel
theorem d_Db_bellsNeeded_70 : decode prog_4_method_13_code 70 = .ok (.land, 1) := by decide +kernel
theorem d_Db_bellsNeeded_71 : decode prog_4_method_13_code 71 = .ok (.lconst 0, 1) := by decide +kernel
theorem d_Db_bellsNeeded_72 : decode prog_4_method_13_code 72 = .ok (.lcmp, 1) := by decide +kernel
theorem d_Db_bellsNeeded_73 : decode prog_4_method_13_code 73 = .ok (.ifCond .ne 43, 3) := by decide +kernel
theorem d_Db_bellsNeeded_76 : decode prog_4_method_13_code 76 = .ok (.lload_n 1, 1) := by decide +kernel
theorem d_Db_bellsNeeded_77 : decode prog_4_method_13_code 77 = .ok (.lload 8, 2) := by decide +kernel
theorem d_Db_bellsNeeded_79 : decode prog_4_method_13_code 79 = .ok (.ldc2_w 84, 3) := by decide +kernel
theorem d_Db_bellsNeeded_82 : decode prog_4_method_13_code 82 = .ok (.lxor, 1) := by decide +kernel
theorem d_Db_bellsNeeded_83 : decode prog_4_method_13_code 83 = .ok (.land, 1) := by decide +kernel
theorem d_Db_bellsNeeded_84 : decode prog_4_method_13_code 84 = .ok (.lconst 0, 1) := by decide +kernel
theorem d_Db_bellsNeeded_85 : decode prog_4_method_13_code 85 = .ok (.lcmp, 1) := by decide +kernel
theorem d_Db_bellsNeeded_86 : decode prog_4_method_13_code 86 = .ok (.ifCond .ne 5, 3) := by decide +kernel
theorem d_Db_bellsNeeded_89 : decode prog_4_method_13_code 89 = .ok (.iconst 1, 1) := by decide +kernel
theorem d_Db_bellsNeeded_90 : decode prog_4_method_13_code 90 = .ok (.ireturn, 1) := by decide +kernel
theorem d_Db_bellsNeeded_91 : decode prog_4_method_13_code 91 = .ok (.aload_n 0, 1) := by decide +kernel
theorem d_Db_bellsNeeded_92 : decode prog_4_method_13_code 92 = .ok (.lload 8, 2) := by decide +kernel
theorem d_Db_bellsNeeded_94 : decode prog_4_method_13_code 94 = .ok (.lload_n 1, 1) := by decide +kernel
theorem d_Db_bellsNeeded_95 : decode prog_4_method_13_code 95 = .ok (.land, 1) := by decide +kernel
theorem d_Db_bellsNeeded_96 : decode prog_4_method_13_code 96 = .ok (.aload 5, 2) := by decide +kernel
theorem d_Db_bellsNeeded_98 : decode prog_4_method_13_code 98 = .ok (.iload 6, 2) := by decide +kernel
theorem d_Db_bellsNeeded_100 : decode prog_4_method_13_code 100 = .ok (.invokevirtual 172, 3) := by decide +kernel
theorem d_Db_bellsNeeded_103 : decode prog_4_method_13_code 103 = .ok (.ifCond .ne 13, 3) := by decide +kernel
theorem d_Db_bellsNeeded_106 : decode prog_4_method_13_code 106 = .ok (.aload 5, 2) := by decide +kernel
theorem d_Db_bellsNeeded_108 : decode prog_4_method_13_code 108 = .ok (.iload 6, 2) := by decide +kernel
theorem d_Db_bellsNeeded_110 : decode prog_4_method_13_code 110 = .ok (.iload 7, 2) := by decide +kernel
theorem d_Db_bellsNeeded_112 : decode prog_4_method_13_code 112 = .ok (.iastore, 1) := by decide +kernel
theorem d_Db_bellsNeeded_113 : decode prog_4_method_13_code 113 = .ok (.iinc 6 1, 3) := by decide +kernel
theorem d_Db_bellsNeeded_116 : decode prog_4_method_13_code 116 = .ok (.iinc 7 (-1), 3) := by decide +kernel
theorem d_Db_bellsNeeded_119 : decode prog_4_method_13_code 119 = .ok (.goto (-68), 3) := by decide +kernel
theorem d_Db_bellsNeeded_122 : decode prog_4_method_13_code 122 = .ok (.aload_n 0, 1) := by decide +kernel
theorem d_Db_bellsNeeded_123 : decode prog_4_method_13_code 123 = .ok (.lload_n 1, 1) := by decide +kernel
theorem d_Db_bellsNeeded_124 : decode prog_4_method_13_code 124 = .ok (.aload 5, 2) := by decide +kernel
theorem d_Db_bellsNeeded_126 : decode prog_4_method_13_code 126 = .ok (.iload 6, 2) := by decide +kernel
theorem d_Db_bellsNeeded_128 : decode prog_4_method_13_code 128 = .ok (.invokevirtual 176, 3) := by decide +kernel
theorem d_Db_bellsNeeded_131 : decode prog_4_method_13_code 131 = .ok (.ifCond .eq 7, 3) := by decide +kernel
theorem d_Db_bellsNeeded_134 : decode prog_4_method_13_code 134 = .ok (.iconst 2, 1) := by decide +kernel
theorem d_Db_bellsNeeded_135 : decode prog_4_method_13_code 135 = .ok (.goto 4, 3) := by decide +kernel
theorem d_Db_bellsNeeded_138 : decode prog_4_method_13_code 138 = .ok (.iconst (-1), 1) := by decide +kernel
theorem d_Db_bellsNeeded_139 : decode prog_4_method_13_code 139 = .ok (.ireturn, 1) := by decide +kernel
abbrev S_Db_bellsNeeded : Type := Nat × Nat × Int64 × Int64 × Nat × Int32 × Int32 × Int32 × AM
noncomputable def T_Db_bellsNeeded_0 (v0R : Nat) (σ : AM) : S_Db_bellsNeeded ⊕ Option (Int32 × AM) :=
  gdT (okO σ v0R 9) <| gdT (okO σ (aR σ v0R 2) 4) <| bndT (M_Bk_setsTold (aR σ v0R 2) (1 : Int32) (0 : Int32) σ) fun r3 σ4 => gdT (okO σ4 v0R 9) <| gdT (okO σ4 (aR σ4 v0R 2) 4) <| bndT (M_Bk_setsTold (aR σ4 v0R 2) (0 : Int32) (0 : Int32) σ4) fun r7 σ8 => if (lg_cmp r3 (0 : Int64)) = 0 then (.inr (some ((0 : Int32), σ8))) else (gdT (okO σ8 v0R 9) <| gdT (okO σ8 (aR σ8 v0R 1) 3) <| bndT (M_Ls_spare (aR σ8 v0R 1) σ8) fun r11 σ12 => gdT (okO σ12 v0R 9) <| gdT (okO σ12 (aR σ12 v0R 1) 3) <| bndT (M_Ls_size (aR σ12 v0R 1) σ12) fun r15 σ16 => letT (r15 - (1 : Int32)) fun x17 => .inl (1, v0R, r3, r7, r11, (0 : Int32), x17, 0, σ16))
noncomputable def T_Db_bellsNeeded_1 (v0R : Nat) (v1J : Int64) (v3J : Int64) (v5R : Nat) (v6I : Int32) (v7I : Int32) (σ : AM) : S_Db_bellsNeeded ⊕ Option (Int32 × AM) :=
  if v7I < 0 then (gdT (okO σ v0R 9) <| bndT (M_Db_hasPair v0R v1J v5R v6I σ) fun r1 σ2 => if r1 = 0 then (.inl (3, 0, 0, 0, 0, 0, 0, ((-1) : Int32), σ2)) else (.inl (3, 0, 0, 0, 0, 0, 0, (2 : Int32), σ2))) else (gdT (okO σ v0R 9) <| gdT (okO σ (aR σ v0R 1) 3) <| bndT (M_Ls_at (aR σ v0R 1) v7I σ) fun r6 σ7 => if (lg_cmp (r6 &&& v3J) (0 : Int64)) = 0 then (if (lg_cmp (v1J &&& (r6 ^^^ ((-1) : Int64))) (0 : Int64)) = 0 then (.inr (some ((1 : Int32), σ7))) else (gdT (okO σ7 v0R 9) <| bndT (M_Db_isCovered v0R (r6 &&& v1J) v5R v6I σ7) fun r8 σ9 => if r8 = 0 then (gdT (okO σ9 v5R 101) <| gdT (inB v6I (aN σ9 v5R)) <| letT (sI σ9 v5R v6I.toNatClampNeg v7I) fun σ13 => .inl (2, v0R, v1J, v3J, v5R, v6I + (1 : Int32), v7I, 0, σ13)) else (.inl (2, v0R, v1J, v3J, v5R, v6I, v7I, 0, σ9)))) else (.inl (2, v0R, v1J, v3J, v5R, v6I, v7I, 0, σ7)))
noncomputable def T_Db_bellsNeeded_2 (v0R : Nat) (v1J : Int64) (v3J : Int64) (v5R : Nat) (v6I : Int32) (v7I : Int32) (σ : AM) : S_Db_bellsNeeded ⊕ Option (Int32 × AM) :=
  .inl (1, v0R, v1J, v3J, v5R, v6I, v7I + ((-1) : Int32), 0, σ)
noncomputable def T_Db_bellsNeeded_3 (s0I : Int32) (σ : AM) : S_Db_bellsNeeded ⊕ Option (Int32 × AM) :=
  .inr (some (s0I, σ))
noncomputable def F_Db_bellsNeeded : S_Db_bellsNeeded → S_Db_bellsNeeded ⊕ Option (Int32 × AM) := fun s => match s.1 with
  | 0 => T_Db_bellsNeeded_0 (s.2.1) (s.2.2.2.2.2.2.2.2)
  | 1 => T_Db_bellsNeeded_1 (s.2.1) (s.2.2.1) (s.2.2.2.1) (s.2.2.2.2.1) (s.2.2.2.2.2.1) (s.2.2.2.2.2.2.1) (s.2.2.2.2.2.2.2.2)
  | 2 => T_Db_bellsNeeded_2 (s.2.1) (s.2.2.1) (s.2.2.2.1) (s.2.2.2.2.1) (s.2.2.2.2.2.1) (s.2.2.2.2.2.2.1) (s.2.2.2.2.2.2.2.2)
  | _ => T_Db_bellsNeeded_3 (s.2.2.2.2.2.2.2.1) (s.2.2.2.2.2.2.2.2)
noncomputable def L_Db_bellsNeeded_0 (v0R : Nat) (σ : AM) : Option (Int32 × AM) := lp F_Db_bellsNeeded (0, v0R, 0, 0, 0, 0, 0, 0, σ)
noncomputable def L_Db_bellsNeeded_1 (v0R : Nat) (v1J : Int64) (v3J : Int64) (v5R : Nat) (v6I : Int32) (v7I : Int32) (σ : AM) : Option (Int32 × AM) := lp F_Db_bellsNeeded (1, v0R, v1J, v3J, v5R, v6I, v7I, 0, σ)
noncomputable def L_Db_bellsNeeded_2 (v0R : Nat) (v1J : Int64) (v3J : Int64) (v5R : Nat) (v6I : Int32) (v7I : Int32) (σ : AM) : Option (Int32 × AM) := lp F_Db_bellsNeeded (2, v0R, v1J, v3J, v5R, v6I, v7I, 0, σ)
noncomputable def L_Db_bellsNeeded_3 (s0I : Int32) (σ : AM) : Option (Int32 × AM) := lp F_Db_bellsNeeded (3, 0, 0, 0, 0, 0, 0, s0I, σ)
set_option maxRecDepth 20000 in
theorem E_Db_bellsNeeded_0 (v0R : Nat) (σ : AM) : L_Db_bellsNeeded_0 v0R σ = (gd (okO σ v0R 9) <| gd (okO σ (aR σ v0R 2) 4) <| bnd (M_Bk_setsTold (aR σ v0R 2) (1 : Int32) (0 : Int32) σ) fun r3 σ4 => gd (okO σ4 v0R 9) <| gd (okO σ4 (aR σ4 v0R 2) 4) <| bnd (M_Bk_setsTold (aR σ4 v0R 2) (0 : Int32) (0 : Int32) σ4) fun r7 σ8 => if (lg_cmp r3 (0 : Int64)) = 0 then ((some ((0 : Int32), σ8))) else (gd (okO σ8 v0R 9) <| gd (okO σ8 (aR σ8 v0R 1) 3) <| bnd (M_Ls_spare (aR σ8 v0R 1) σ8) fun r11 σ12 => gd (okO σ12 v0R 9) <| gd (okO σ12 (aR σ12 v0R 1) 3) <| bnd (M_Ls_size (aR σ12 v0R 1) σ12) fun r15 σ16 => letT (r15 - (1 : Int32)) fun x17 => L_Db_bellsNeeded_1 v0R r3 r7 r11 ((0 : Int32)) x17 σ16)) := by
  unfold L_Db_bellsNeeded_0
  rw [lp_eq]
  show lpK (lp F_Db_bellsNeeded) (T_Db_bellsNeeded_0 v0R σ) = _
  unfold T_Db_bellsNeeded_0
  simp only [lpK_ite, lq_inl, lq_inr, lpK_bnd, lpK_gd, lq_let]
  try rfl
set_option maxRecDepth 20000 in
theorem E_Db_bellsNeeded_1 (v0R : Nat) (v1J : Int64) (v3J : Int64) (v5R : Nat) (v6I : Int32) (v7I : Int32) (σ : AM) : L_Db_bellsNeeded_1 v0R v1J v3J v5R v6I v7I σ = (if v7I < 0 then (gd (okO σ v0R 9) <| bnd (M_Db_hasPair v0R v1J v5R v6I σ) fun r1 σ2 => if r1 = 0 then (L_Db_bellsNeeded_3 (((-1) : Int32)) σ2) else (L_Db_bellsNeeded_3 ((2 : Int32)) σ2)) else (gd (okO σ v0R 9) <| gd (okO σ (aR σ v0R 1) 3) <| bnd (M_Ls_at (aR σ v0R 1) v7I σ) fun r6 σ7 => if (lg_cmp (r6 &&& v3J) (0 : Int64)) = 0 then (if (lg_cmp (v1J &&& (r6 ^^^ ((-1) : Int64))) (0 : Int64)) = 0 then ((some ((1 : Int32), σ7))) else (gd (okO σ7 v0R 9) <| bnd (M_Db_isCovered v0R (r6 &&& v1J) v5R v6I σ7) fun r8 σ9 => if r8 = 0 then (gd (okO σ9 v5R 101) <| gd (inB v6I (aN σ9 v5R)) <| letT (sI σ9 v5R v6I.toNatClampNeg v7I) fun σ13 => L_Db_bellsNeeded_2 v0R v1J v3J v5R (v6I + (1 : Int32)) v7I σ13) else (L_Db_bellsNeeded_2 v0R v1J v3J v5R v6I v7I σ9))) else (L_Db_bellsNeeded_2 v0R v1J v3J v5R v6I v7I σ7))) := by
  unfold L_Db_bellsNeeded_1
  rw [lp_eq]
  show lpK (lp F_Db_bellsNeeded) (T_Db_bellsNeeded_1 v0R v1J v3J v5R v6I v7I σ) = _
  unfold T_Db_bellsNeeded_1
  simp only [lpK_ite, lq_inl, lq_inr, lpK_bnd, lpK_gd, lq_let]
  try rfl
set_option maxRecDepth 20000 in
theorem E_Db_bellsNeeded_2 (v0R : Nat) (v1J : Int64) (v3J : Int64) (v5R : Nat) (v6I : Int32) (v7I : Int32) (σ : AM) : L_Db_bellsNeeded_2 v0R v1J v3J v5R v6I v7I σ = (L_Db_bellsNeeded_1 v0R v1J v3J v5R v6I (v7I + ((-1) : Int32)) σ) := by
  unfold L_Db_bellsNeeded_2
  rw [lp_eq]
  show lpK (lp F_Db_bellsNeeded) (T_Db_bellsNeeded_2 v0R v1J v3J v5R v6I v7I σ) = _
  unfold T_Db_bellsNeeded_2
  simp only [lpK_ite, lq_inl, lq_inr, lpK_bnd, lpK_gd, lq_let]
  try rfl
set_option maxRecDepth 20000 in
theorem E_Db_bellsNeeded_3 (s0I : Int32) (σ : AM) : L_Db_bellsNeeded_3 s0I σ = ((some (s0I, σ))) := by
  unfold L_Db_bellsNeeded_3
  rw [lp_eq]
  show lpK (lp F_Db_bellsNeeded) (T_Db_bellsNeeded_3 s0I σ) = _
  unfold T_Db_bellsNeeded_3
  simp only [lpK_ite, lq_inl, lq_inr, lpK_bnd, lpK_gd, lq_let]
  try rfl
noncomputable def M_Db_bellsNeeded (v0R : Nat) (σ : AM) : Option (Int32 × AM) := mw σ (L_Db_bellsNeeded_0 v0R σ)
def I_Db_bellsNeeded (G : GX) (p : Program) (l : Launch) (e : Env) (s : State) (m : MethodId) (args : Array Value) (below : List Frame) (meth : Method) (c : Code) (z0 u0 n : Nat) : Prop :=
  (∀ (v0R : Nat) (σ : AM), VX (QM eI G args s below z0 u0) G p l e s m args below meth c 2 z0 u0 10 (lpn F_Db_bellsNeeded n (0, v0R, 0, 0, 0, 0, 0, 0, σ)) 0 [(0, .ref v0R)] [] σ) ∧
  (∀ (v0R : Nat) (v1J : Int64) (v3J : Int64) (v5R : Nat) (v6I : Int32) (v7I : Int32) (σ : AM), VX (QM eI G args s below z0 u0) G p l e s m args below meth c 2 z0 u0 10 (lpn F_Db_bellsNeeded n (1, v0R, v1J, v3J, v5R, v6I, v7I, 0, σ)) 51 [(0, .ref v0R), (1, .long v1J), (3, .long v3J), (5, .ref v5R), (6, .int v6I), (7, .int v7I)] [] σ) ∧
  (∀ (v0R : Nat) (v1J : Int64) (v3J : Int64) (v5R : Nat) (v6I : Int32) (v7I : Int32) (σ : AM), VX (QM eI G args s below z0 u0) G p l e s m args below meth c 2 z0 u0 10 (lpn F_Db_bellsNeeded n (2, v0R, v1J, v3J, v5R, v6I, v7I, 0, σ)) 116 [(0, .ref v0R), (1, .long v1J), (3, .long v3J), (5, .ref v5R), (6, .int v6I), (7, .int v7I)] [] σ) ∧
  (∀ (s0I : Int32) (σ : AM), VX (QM eI G args s below z0 u0) G p l e s m args below meth c 2 z0 u0 10 (lpn F_Db_bellsNeeded n (3, 0, 0, 0, 0, 0, 0, s0I, σ)) 139 [] [.int s0I] σ)
set_option maxRecDepth 20000 in
theorem s_Db_bellsNeeded_0 {G : GX} {p : Program} {l : Launch} {e : Env} {s : State} {m : MethodId} {args : Array Value} {below : List Frame} {meth : Method} {c : Code} {z0 u0 n : Nat} (C : Cx G p s m args meth c prog_4_method_13_code 10 "BellPlate$Doubt" ((some FieldType.int))) (IH : I_Db_bellsNeeded G p l e s m args below meth c z0 u0 n) (v0R : Nat) (σ : AM) : VX (QM eI G args s below z0 u0) G p l e s m args below meth c 2 z0 u0 10 (lpK (lpn F_Db_bellsNeeded n) (T_Db_bellsNeeded_0 v0R σ)) 0 [(0, .ref v0R)] [] σ := by
  unfold T_Db_bellsNeeded_0
  refine x_aload_n C d_Db_bellsNeeded_0 0 rfl ?_
  refine x_gd (fun h1 => ?_)
  refine x_gd (fun h2 => ?_)
  refine x_getR (k := 2) (kv := 4) C (okO_iff.mp h1) rfl j8_ok (by decide) rfl (okO_iff.mp h2) (by decide) w538 d_Db_bellsNeeded_1 ?_
  refine x_iconst (v := (1 : Int32)) C d_Db_bellsNeeded_4 (by decide) ?_
  refine x_iconst (v := (0 : Int32)) C d_Db_bellsNeeded_5 (by decide) ?_
  refine x_callVJ (As := [.int (1 : Int32), .int (0 : Int32)]) C (c_Bk_setsTold G l (aR σ v0R 2) (1 : Int32) (0 : Int32) σ) (okO_iff.mp h2) rfl w1047 w1048 w1492 w1049 w124 k_Bk_setsTold rfl (by decide) (by decide) rfl (Nat.le_of_ble_eq_true rfl) d_Db_bellsNeeded_6 (fun r3 σ4 => ?_)
  refine x_lstore_n (lv' := [(1, .long r3), (0, .ref v0R)]) C d_Db_bellsNeeded_9 (by decide) rfl rfl ?_
  refine x_aload_n C d_Db_bellsNeeded_10 1 rfl ?_
  refine x_gd (fun h5 => ?_)
  refine x_gd (fun h6 => ?_)
  refine x_getR (k := 2) (kv := 4) C (okO_iff.mp h5) rfl j8_ok (by decide) rfl (okO_iff.mp h6) (by decide) w538 d_Db_bellsNeeded_11 ?_
  refine x_iconst (v := (0 : Int32)) C d_Db_bellsNeeded_14 (by decide) ?_
  refine x_iconst (v := (0 : Int32)) C d_Db_bellsNeeded_15 (by decide) ?_
  refine x_callVJ (As := [.int (0 : Int32), .int (0 : Int32)]) C (c_Bk_setsTold G l (aR σ4 v0R 2) (0 : Int32) (0 : Int32) σ4) (okO_iff.mp h6) rfl w1047 w1048 w1492 w1049 w124 k_Bk_setsTold rfl (by decide) (by decide) rfl (Nat.le_of_ble_eq_true rfl) d_Db_bellsNeeded_16 (fun r7 σ8 => ?_)
  refine x_lstore_n (lv' := [(3, .long r7), (1, .long r3), (0, .ref v0R)]) C d_Db_bellsNeeded_19 (by decide) rfl rfl ?_
  refine x_lload_n C d_Db_bellsNeeded_20 1 rfl ?_
  refine x_lconst (v := (0 : Int64)) C d_Db_bellsNeeded_21 (by decide) ?_
  refine x_lcmp C d_Db_bellsNeeded_22 ?_
  refine x_if_ne (tgt := 28) C d_Db_bellsNeeded_23 (by decide) (fun _ => ?_) (fun _ => ?_)
  · refine x_iconst (v := (0 : Int32)) C d_Db_bellsNeeded_26 (by decide) ?_
    exact x_iret C d_Db_bellsNeeded_27
  · refine x_aload_n C d_Db_bellsNeeded_28 2 rfl ?_
    refine x_gd (fun h9 => ?_)
    refine x_gd (fun h10 => ?_)
    refine x_getR (k := 1) (kv := 3) C (okO_iff.mp h9) rfl j8_ok (by decide) rfl (okO_iff.mp h10) (by decide) w537 d_Db_bellsNeeded_29 ?_
    refine x_callVR (As := []) C (c_Ls_spare G l (aR σ8 v0R 1)  σ8) (okO_iff.mp h10) rfl w1270 w1271 w1493 w1272 w123 k_Ls_spare rfl (by decide) (by decide) rfl (Nat.le_of_ble_eq_true rfl) d_Db_bellsNeeded_32 (fun r11 σ12 => ?_)
    refine x_astore (lv' := [(5, .ref r11), (3, .long r7), (1, .long r3), (0, .ref v0R)]) C d_Db_bellsNeeded_35 (by decide) rfl ?_
    refine x_iconst (v := (0 : Int32)) C d_Db_bellsNeeded_37 (by decide) ?_
    refine x_istore (lv' := [(6, .int (0 : Int32)), (5, .ref r11), (3, .long r7), (1, .long r3), (0, .ref v0R)]) C d_Db_bellsNeeded_38 (by decide) rfl ?_
    refine x_aload_n C d_Db_bellsNeeded_40 4 rfl ?_
    refine x_gd (fun h13 => ?_)
    refine x_gd (fun h14 => ?_)
    refine x_getR (k := 1) (kv := 3) C (okO_iff.mp h13) rfl j8_ok (by decide) rfl (okO_iff.mp h14) (by decide) w537 d_Db_bellsNeeded_41 ?_
    refine x_callVI (As := []) C (c_Ls_size G l (aR σ12 v0R 1)  σ12) (okO_iff.mp h14) rfl w1052 w1053 w1419 w1054 w123 k_Ls_size rfl (by decide) (by decide) rfl (Nat.le_of_ble_eq_true rfl) d_Db_bellsNeeded_44 (fun r15 σ16 => ?_)
    refine x_iconst (v := (1 : Int32)) C d_Db_bellsNeeded_47 (by decide) ?_
    refine x_isub C d_Db_bellsNeeded_48 ?_
    refine x_letI (fun x17 _ => ?_)
    refine x_istore (lv' := [(7, .int x17), (6, .int (0 : Int32)), (5, .ref r11), (3, .long r7), (1, .long r3), (0, .ref v0R)]) C d_Db_bellsNeeded_49 (by decide) rfl ?_
    refine x_lv [5, 4, 3, 2, 1, 0] rfl ?_
    exact IH.2.1 v0R r3 r7 r11 ((0 : Int32)) x17 (σ16)
set_option maxRecDepth 20000 in
theorem s_Db_bellsNeeded_1 {G : GX} {p : Program} {l : Launch} {e : Env} {s : State} {m : MethodId} {args : Array Value} {below : List Frame} {meth : Method} {c : Code} {z0 u0 n : Nat} (C : Cx G p s m args meth c prog_4_method_13_code 10 "BellPlate$Doubt" ((some FieldType.int))) (IH : I_Db_bellsNeeded G p l e s m args below meth c z0 u0 n) (v0R : Nat) (v1J : Int64) (v3J : Int64) (v5R : Nat) (v6I : Int32) (v7I : Int32) (σ : AM) : VX (QM eI G args s below z0 u0) G p l e s m args below meth c 2 z0 u0 10 (lpK (lpn F_Db_bellsNeeded n) (T_Db_bellsNeeded_1 v0R v1J v3J v5R v6I v7I σ)) 51 [(0, .ref v0R), (1, .long v1J), (3, .long v3J), (5, .ref v5R), (6, .int v6I), (7, .int v7I)] [] σ := by
  unfold T_Db_bellsNeeded_1
  refine x_iload C d_Db_bellsNeeded_51 5 rfl ?_
  refine x_if_lt (tgt := 122) C d_Db_bellsNeeded_53 (by decide) (fun _ => ?_) (fun _ => ?_)
  · refine x_aload_n C d_Db_bellsNeeded_122 0 rfl ?_
    refine x_lload_n C d_Db_bellsNeeded_123 1 rfl ?_
    refine x_aload C d_Db_bellsNeeded_124 3 rfl ?_
    refine x_iload C d_Db_bellsNeeded_126 4 rfl ?_
    refine x_gd (fun h3 => ?_)
    refine x_callVI (As := [.long v1J, .ref v5R, .int v6I]) C (c_Db_hasPair G l v0R v1J v5R v6I σ) (okO_iff.mp h3) rfl w1500 w51 w1498 w1501 w130 k_Db_hasPair rfl (by decide) (by decide) rfl (Nat.le_of_ble_eq_true rfl) d_Db_bellsNeeded_128 (fun r1 σ2 => ?_)
    refine x_if_eq (tgt := 138) C d_Db_bellsNeeded_131 (by decide) (fun _ => ?_) (fun _ => ?_)
    · refine x_iconst (v := ((-1) : Int32)) C d_Db_bellsNeeded_138 (by decide) ?_
      refine x_lv [] rfl ?_
      exact IH.2.2.2 (((-1) : Int32)) (σ2)
    · refine x_iconst (v := (2 : Int32)) C d_Db_bellsNeeded_134 (by decide) ?_
      refine x_goto (tgt := 139) C d_Db_bellsNeeded_135 (by decide) ?_
      refine x_lv [] rfl ?_
      exact IH.2.2.2 ((2 : Int32)) (σ2)
  · refine x_aload_n C d_Db_bellsNeeded_56 0 rfl ?_
    refine x_gd (fun h4 => ?_)
    refine x_gd (fun h5 => ?_)
    refine x_getR (k := 1) (kv := 3) C (okO_iff.mp h4) rfl j8_ok (by decide) rfl (okO_iff.mp h5) (by decide) w537 d_Db_bellsNeeded_57 ?_
    refine x_iload C d_Db_bellsNeeded_60 5 rfl ?_
    refine x_callVJ (As := [.int v7I]) C (c_Ls_at G l (aR σ v0R 1) v7I σ) (okO_iff.mp h5) rfl w996 w997 w1420 w998 w123 k_Ls_at rfl (by decide) (by decide) rfl (Nat.le_of_ble_eq_true rfl) d_Db_bellsNeeded_62 (fun r6 σ7 => ?_)
    refine x_lstore (lv' := [(8, .long r6), (0, .ref v0R), (1, .long v1J), (3, .long v3J), (5, .ref v5R), (6, .int v6I), (7, .int v7I)]) C d_Db_bellsNeeded_65 (by decide) rfl ?_
    refine x_lload C d_Db_bellsNeeded_67 0 rfl ?_
    refine x_lload_n C d_Db_bellsNeeded_69 3 rfl ?_
    refine x_land C d_Db_bellsNeeded_70 ?_
    refine x_lconst (v := (0 : Int64)) C d_Db_bellsNeeded_71 (by decide) ?_
    refine x_lcmp C d_Db_bellsNeeded_72 ?_
    refine x_if_ne (tgt := 116) C d_Db_bellsNeeded_73 (by decide) (fun _ => ?_) (fun _ => ?_)
    · refine x_lload_n C d_Db_bellsNeeded_76 2 rfl ?_
      refine x_lload C d_Db_bellsNeeded_77 0 rfl ?_
      refine x_ldc2 C d_Db_bellsNeeded_79 w1418 ?_
      refine x_lxor C d_Db_bellsNeeded_82 ?_
      refine x_land C d_Db_bellsNeeded_83 ?_
      refine x_lconst (v := (0 : Int64)) C d_Db_bellsNeeded_84 (by decide) ?_
      refine x_lcmp C d_Db_bellsNeeded_85 ?_
      refine x_if_ne (tgt := 91) C d_Db_bellsNeeded_86 (by decide) (fun _ => ?_) (fun _ => ?_)
      · refine x_iconst (v := (1 : Int32)) C d_Db_bellsNeeded_89 (by decide) ?_
        exact x_iret C d_Db_bellsNeeded_90
      · refine x_aload_n C d_Db_bellsNeeded_91 1 rfl ?_
        refine x_lload C d_Db_bellsNeeded_92 0 rfl ?_
        refine x_lload_n C d_Db_bellsNeeded_94 2 rfl ?_
        refine x_land C d_Db_bellsNeeded_95 ?_
        refine x_aload C d_Db_bellsNeeded_96 4 rfl ?_
        refine x_iload C d_Db_bellsNeeded_98 5 rfl ?_
        refine x_gd (fun h10 => ?_)
        refine x_callVI (As := [.long (r6 &&& v1J), .ref v5R, .int v6I]) C (c_Db_isCovered G l v0R (r6 &&& v1J) v5R v6I σ7) (okO_iff.mp h10) rfl w1496 w50 w1494 w1497 w130 k_Db_isCovered rfl (by decide) (by decide) rfl (Nat.le_of_ble_eq_true rfl) d_Db_bellsNeeded_100 (fun r8 σ9 => ?_)
        refine x_if_ne (tgt := 116) C d_Db_bellsNeeded_103 (by decide) (fun _ => ?_) (fun _ => ?_)
        · refine x_aload C d_Db_bellsNeeded_106 4 rfl ?_
          refine x_iload C d_Db_bellsNeeded_108 5 rfl ?_
          refine x_iload C d_Db_bellsNeeded_110 6 rfl ?_
          refine x_gd (fun h11 => ?_)
          refine x_gd (fun h12 => ?_)
          refine x_astI C (okO_iff.mp h11) (inB_iff.mp h12) d_Db_bellsNeeded_112 ?_
          refine x_letS (fun σ13 e14 => ?_)
          refine x_iinc (v := v6I + (1 : Int32)) (lv' := [(6, .int (v6I + (1 : Int32))), (8, .long r6), (0, .ref v0R), (1, .long v1J), (3, .long v3J), (5, .ref v5R), (7, .int v7I)]) C d_Db_bellsNeeded_113 5 rfl rfl (by decide) rfl ?_
          refine x_lv [2, 3, 4, 5, 0, 6] rfl ?_
          exact IH.2.2.1 v0R v1J v3J v5R (v6I + (1 : Int32)) v7I (σ13)
        · refine x_lv [1, 2, 3, 4, 5, 6] rfl ?_
          exact IH.2.2.1 v0R v1J v3J v5R v6I v7I (σ9)
    · refine x_lv [1, 2, 3, 4, 5, 6] rfl ?_
      exact IH.2.2.1 v0R v1J v3J v5R v6I v7I (σ7)
set_option maxRecDepth 20000 in
theorem s_Db_bellsNeeded_2 {G : GX} {p : Program} {l : Launch} {e : Env} {s : State} {m : MethodId} {args : Array Value} {below : List Frame} {meth : Method} {c : Code} {z0 u0 n : Nat} (C : Cx G p s m args meth c prog_4_method_13_code 10 "BellPlate$Doubt" ((some FieldType.int))) (IH : I_Db_bellsNeeded G p l e s m args below meth c z0 u0 n) (v0R : Nat) (v1J : Int64) (v3J : Int64) (v5R : Nat) (v6I : Int32) (v7I : Int32) (σ : AM) : VX (QM eI G args s below z0 u0) G p l e s m args below meth c 2 z0 u0 10 (lpK (lpn F_Db_bellsNeeded n) (T_Db_bellsNeeded_2 v0R v1J v3J v5R v6I v7I σ)) 116 [(0, .ref v0R), (1, .long v1J), (3, .long v3J), (5, .ref v5R), (6, .int v6I), (7, .int v7I)] [] σ := by
  unfold T_Db_bellsNeeded_2
  refine x_iinc (v := v7I + ((-1) : Int32)) (lv' := [(7, .int (v7I + ((-1) : Int32))), (0, .ref v0R), (1, .long v1J), (3, .long v3J), (5, .ref v5R), (6, .int v6I)]) C d_Db_bellsNeeded_116 5 rfl rfl (by decide) rfl ?_
  refine x_goto (tgt := 51) C d_Db_bellsNeeded_119 (by decide) ?_
  refine x_lv [1, 2, 3, 4, 5, 0] rfl ?_
  exact IH.2.1 v0R v1J v3J v5R v6I (v7I + ((-1) : Int32)) (σ)
set_option maxRecDepth 20000 in
theorem s_Db_bellsNeeded_3 {G : GX} {p : Program} {l : Launch} {e : Env} {s : State} {m : MethodId} {args : Array Value} {below : List Frame} {meth : Method} {c : Code} {z0 u0 n : Nat} (C : Cx G p s m args meth c prog_4_method_13_code 10 "BellPlate$Doubt" ((some FieldType.int))) (IH : I_Db_bellsNeeded G p l e s m args below meth c z0 u0 n) (s0I : Int32) (σ : AM) : VX (QM eI G args s below z0 u0) G p l e s m args below meth c 2 z0 u0 10 (lpK (lpn F_Db_bellsNeeded n) (T_Db_bellsNeeded_3 s0I σ)) 139 [] [.int s0I] σ := by
  unfold T_Db_bellsNeeded_3
  exact x_iret C d_Db_bellsNeeded_139
theorem i_Db_bellsNeeded {G : GX} {p : Program} {l : Launch} {e : Env} {s : State} {m : MethodId} {args : Array Value} {below : List Frame} {meth : Method} {c : Code} {z0 u0 : Nat} (C : Cx G p s m args meth c prog_4_method_13_code 10 "BellPlate$Doubt" ((some FieldType.int))) (n : Nat) : I_Db_bellsNeeded G p l e s m args below meth c z0 u0 n := by
  induction n with
  | zero => exact ⟨fun _ _ => x_none, fun _ _ _ _ _ _ _ => x_none, fun _ _ _ _ _ _ _ => x_none, fun _ _ => x_none⟩
  | succ n IH => exact ⟨fun v0R σ => s_Db_bellsNeeded_0 C IH v0R σ, fun v0R v1J v3J v5R v6I v7I σ => s_Db_bellsNeeded_1 C IH v0R v1J v3J v5R v6I v7I σ, fun v0R v1J v3J v5R v6I v7I σ => s_Db_bellsNeeded_2 C IH v0R v1J v3J v5R v6I v7I σ, fun s0I σ => s_Db_bellsNeeded_3 C IH s0I σ⟩
theorem c_Db_bellsNeeded (G : GX) (l : Launch) (v0R : Nat) (σ : AM) : CT eI G l 2 y_Db_bellsNeeded prog_4_method_13_code 10 ((some FieldType.int)) [.ref v0R] σ (M_Db_bellsNeeded v0R σ) := by
  refine ct_of (by decide +kernel) (Nat.le_of_ble_eq_true rfl) (fun p e s m args below meth c C hin => ?_)
  refine x_lve (lv' := [(0, .ref v0R)]) rfl ?_
  intro r σ' h
  obtain ⟨n, hn⟩ := (lp_iff _ _ _).mp h
  exact (i_Db_bellsNeeded C n).1 v0R σ r σ' hn
/-! BellPlate$Doubt.weightsIfLate(I)I -/
abbrev y_Db_weightsIfLate : MethodName := ⟨"BellPlate$Doubt", "weightsIfLate", "(I)I"⟩
theorem k_Db_weightsIfLate : y_Db_weightsIfLate.cls ≠ "java/lang/invoke/MethodHandle" ∧ y_Db_weightsIfLate.cls ≠ "java/lang/invoke/VarHandle" ∧ (parseMethodDescriptor y_Db_weightsIfLate.desc).map (fun d => d.parameters.length) = some 1 := by decide +kernel
theorem d_Db_weightsIfLate_0 : decode prog_4_method_16_code 0 = .ok (.aload_n 0, 1) := by decide +kernel
theorem d_Db_weightsIfLate_1 : decode prog_4_method_16_code 1 = .ok (.getfield 15, 3) := by decide +kernel
theorem d_Db_weightsIfLate_4 : decode prog_4_method_16_code 4 = .ok (.aload_n 0, 1) := by decide +kernel
theorem d_Db_weightsIfLate_5 : decode prog_4_method_16_code 5 = .ok (.getfield 19, 3) := by decide +kernel
theorem d_Db_weightsIfLate_8 : decode prog_4_method_16_code 8 = .ok (.iconst 1, 1) := by decide +kernel
theorem d_Db_weightsIfLate_9 : decode prog_4_method_16_code 9 = .ok (.iload_n 1, 1) := by decide +kernel
theorem d_Db_weightsIfLate_10 : decode prog_4_method_16_code 10 = .ok (.invokevirtual 164, 3) := by decide +kernel
theorem d_Db_weightsIfLate_13 : decode prog_4_method_16_code 13 = .ok (.aload_n 0, 1) := by decide +kernel
theorem d_Db_weightsIfLate_14 : decode prog_4_method_16_code 14 = .ok (.getfield 19, 3) := by decide +kernel
theorem d_Db_weightsIfLate_17 : decode prog_4_method_16_code 17 = .ok (.iconst 0, 1) := by decide +kernel
theorem d_Db_weightsIfLate_18 : decode prog_4_method_16_code 18 = .ok (.iload_n 1, 1) := by decide +kernel
theorem d_Db_weightsIfLate_19 : decode prog_4_method_16_code 19 = .ok (.invokevirtual 164, 3) := by decide +kernel
theorem d_Db_weightsIfLate_22 : decode prog_4_method_16_code 22 = .ok (.invokevirtual 179, 3) := by decide +kernel
theorem d_Db_weightsIfLate_25 : decode prog_4_method_16_code 25 = .ok (.ireturn, 1) := by decide +kernel
abbrev S_Db_weightsIfLate : Type := Nat × Nat × Int32 × AM
noncomputable def T_Db_weightsIfLate_0 (v0R : Nat) (v1I : Int32) (σ : AM) : S_Db_weightsIfLate ⊕ Option (Int32 × AM) :=
  gdT (okO σ v0R 9) <| gdT (okO σ (aR σ v0R 1) 3) <| gdT (okO σ (aR σ v0R 2) 4) <| bndT (M_Bk_setsTold (aR σ v0R 2) (1 : Int32) v1I σ) fun r4 σ5 => gdT (okO σ5 v0R 9) <| gdT (okO σ5 (aR σ5 v0R 2) 4) <| bndT (M_Bk_setsTold (aR σ5 v0R 2) (0 : Int32) v1I σ5) fun r8 σ9 => gdT (okO σ9 (aR σ v0R 1) 3) <| bndT (M_Ls_weightsAs (aR σ v0R 1) r4 r8 σ9) fun r10 σ11 => .inr (some (r10, σ11))
noncomputable def F_Db_weightsIfLate : S_Db_weightsIfLate → S_Db_weightsIfLate ⊕ Option (Int32 × AM) := fun s => match s.1 with
  | _ => T_Db_weightsIfLate_0 (s.2.1) (s.2.2.1) (s.2.2.2)
noncomputable def L_Db_weightsIfLate_0 (v0R : Nat) (v1I : Int32) (σ : AM) : Option (Int32 × AM) := lp F_Db_weightsIfLate (0, v0R, v1I, σ)
set_option maxRecDepth 20000 in
theorem E_Db_weightsIfLate_0 (v0R : Nat) (v1I : Int32) (σ : AM) : L_Db_weightsIfLate_0 v0R v1I σ = (gd (okO σ v0R 9) <| gd (okO σ (aR σ v0R 1) 3) <| gd (okO σ (aR σ v0R 2) 4) <| bnd (M_Bk_setsTold (aR σ v0R 2) (1 : Int32) v1I σ) fun r4 σ5 => gd (okO σ5 v0R 9) <| gd (okO σ5 (aR σ5 v0R 2) 4) <| bnd (M_Bk_setsTold (aR σ5 v0R 2) (0 : Int32) v1I σ5) fun r8 σ9 => gd (okO σ9 (aR σ v0R 1) 3) <| bnd (M_Ls_weightsAs (aR σ v0R 1) r4 r8 σ9) fun r10 σ11 => (some (r10, σ11))) := by
  unfold L_Db_weightsIfLate_0
  rw [lp_eq]
  show lpK (lp F_Db_weightsIfLate) (T_Db_weightsIfLate_0 v0R v1I σ) = _
  unfold T_Db_weightsIfLate_0
  simp only [lpK_ite, lq_inl, lq_inr, lpK_bnd, lpK_gd, lq_let]
  try rfl
noncomputable def M_Db_weightsIfLate (v0R : Nat) (v1I : Int32) (σ : AM) : Option (Int32 × AM) := mw σ (L_Db_weightsIfLate_0 v0R v1I σ)
def I_Db_weightsIfLate (G : GX) (p : Program) (l : Launch) (e : Env) (s : State) (m : MethodId) (args : Array Value) (below : List Frame) (meth : Method) (c : Code) (z0 u0 n : Nat) : Prop :=
  (∀ (v0R : Nat) (v1I : Int32) (σ : AM), VX (QM eI G args s below z0 u0) G p l e s m args below meth c 1 z0 u0 2 (lpn F_Db_weightsIfLate n (0, v0R, v1I, σ)) 0 [(0, .ref v0R), (1, .int v1I)] [] σ)
set_option maxRecDepth 20000 in
theorem s_Db_weightsIfLate_0 {G : GX} {p : Program} {l : Launch} {e : Env} {s : State} {m : MethodId} {args : Array Value} {below : List Frame} {meth : Method} {c : Code} {z0 u0 n : Nat} (C : Cx G p s m args meth c prog_4_method_16_code 2 "BellPlate$Doubt" ((some FieldType.int))) (IH : I_Db_weightsIfLate G p l e s m args below meth c z0 u0 n) (v0R : Nat) (v1I : Int32) (σ : AM) : VX (QM eI G args s below z0 u0) G p l e s m args below meth c 1 z0 u0 2 (lpK (lpn F_Db_weightsIfLate n) (T_Db_weightsIfLate_0 v0R v1I σ)) 0 [(0, .ref v0R), (1, .int v1I)] [] σ := by
  unfold T_Db_weightsIfLate_0
  refine x_aload_n C d_Db_weightsIfLate_0 0 rfl ?_
  refine x_gd (fun h1 => ?_)
  refine x_gd (fun h2 => ?_)
  refine x_getR (k := 1) (kv := 3) C (okO_iff.mp h1) rfl j8_ok (by decide) rfl (okO_iff.mp h2) (by decide) w537 d_Db_weightsIfLate_1 ?_
  refine x_aload_n C d_Db_weightsIfLate_4 0 rfl ?_
  refine x_gd (fun h3 => ?_)
  refine x_getR (k := 2) (kv := 4) C (okO_iff.mp h1) rfl j8_ok (by decide) rfl (okO_iff.mp h3) (by decide) w538 d_Db_weightsIfLate_5 ?_
  refine x_iconst (v := (1 : Int32)) C d_Db_weightsIfLate_8 (by decide) ?_
  refine x_iload_n C d_Db_weightsIfLate_9 1 rfl ?_
  refine x_callVJ (As := [.int (1 : Int32), .int v1I]) C (c_Bk_setsTold G l (aR σ v0R 2) (1 : Int32) v1I σ) (okO_iff.mp h3) rfl w1047 w1048 w1492 w1049 w124 k_Bk_setsTold rfl (by decide) (by decide) rfl (Nat.le_of_ble_eq_true rfl) d_Db_weightsIfLate_10 (fun r4 σ5 => ?_)
  refine x_aload_n C d_Db_weightsIfLate_13 0 rfl ?_
  refine x_gd (fun h6 => ?_)
  refine x_gd (fun h7 => ?_)
  refine x_getR (k := 2) (kv := 4) C (okO_iff.mp h6) rfl j8_ok (by decide) rfl (okO_iff.mp h7) (by decide) w538 d_Db_weightsIfLate_14 ?_
  refine x_iconst (v := (0 : Int32)) C d_Db_weightsIfLate_17 (by decide) ?_
  refine x_iload_n C d_Db_weightsIfLate_18 1 rfl ?_
  refine x_callVJ (As := [.int (0 : Int32), .int v1I]) C (c_Bk_setsTold G l (aR σ5 v0R 2) (0 : Int32) v1I σ5) (okO_iff.mp h7) rfl w1047 w1048 w1492 w1049 w124 k_Bk_setsTold rfl (by decide) (by decide) rfl (Nat.le_of_ble_eq_true rfl) d_Db_weightsIfLate_19 (fun r8 σ9 => ?_)
  refine x_gd (fun h12 => ?_)
  refine x_callVI (As := [.long r4, .long r8]) C (c_Ls_weightsAs G l (aR σ v0R 1) r4 r8 σ9) (okO_iff.mp h12) rfl w1515 w1516 w1514 w1517 w123 k_Ls_weightsAs rfl (by decide) (by decide) rfl (Nat.le_of_ble_eq_true rfl) d_Db_weightsIfLate_22 (fun r10 σ11 => ?_)
  exact x_iret C d_Db_weightsIfLate_25
theorem i_Db_weightsIfLate {G : GX} {p : Program} {l : Launch} {e : Env} {s : State} {m : MethodId} {args : Array Value} {below : List Frame} {meth : Method} {c : Code} {z0 u0 : Nat} (C : Cx G p s m args meth c prog_4_method_16_code 2 "BellPlate$Doubt" ((some FieldType.int))) (n : Nat) : I_Db_weightsIfLate G p l e s m args below meth c z0 u0 n := by
  induction n with
  | zero => exact fun _ _ _ => x_none
  | succ n IH => exact fun v0R v1I σ => s_Db_weightsIfLate_0 C IH v0R v1I σ
theorem c_Db_weightsIfLate (G : GX) (l : Launch) (v0R : Nat) (v1I : Int32) (σ : AM) : CT eI G l 1 y_Db_weightsIfLate prog_4_method_16_code 2 ((some FieldType.int)) [.ref v0R, .int v1I] σ (M_Db_weightsIfLate v0R v1I σ) := by
  refine ct_of (by decide +kernel) (Nat.le_of_ble_eq_true rfl) (fun p e s m args below meth c C hin => ?_)
  refine x_lve (lv' := [(0, .ref v0R), (1, .int v1I)]) rfl ?_
  intro r σ' h
  obtain ⟨n, hn⟩ := (lp_iff _ _ _).mp h
  exact (i_Db_weightsIfLate C n) v0R v1I σ r σ' hn
/-! BellPlate$Doubt.bestLag()I -/
abbrev y_Db_bestLag : MethodName := ⟨"BellPlate$Doubt", "bestLag", "()I"⟩
theorem k_Db_bestLag : y_Db_bestLag.cls ≠ "java/lang/invoke/MethodHandle" ∧ y_Db_bestLag.cls ≠ "java/lang/invoke/VarHandle" ∧ (parseMethodDescriptor y_Db_bestLag.desc).map (fun d => d.parameters.length) = some 0 := by decide +kernel
theorem d_Db_bestLag_0 : decode prog_4_method_17_code 0 = .ok (.iconst 0, 1) := by decide +kernel
theorem d_Db_bestLag_1 : decode prog_4_method_17_code 1 = .ok (.istore_n 1, 1) := by decide +kernel
theorem d_Db_bestLag_2 : decode prog_4_method_17_code 2 = .ok (.aload_n 0, 1) := by decide +kernel
theorem d_Db_bestLag_3 : decode prog_4_method_17_code 3 = .ok (.iconst 0, 1) := by decide +kernel
theorem d_Db_bestLag_4 : decode prog_4_method_17_code 4 = .ok (.invokevirtual 183, 3) := by decide +kernel
theorem d_Db_bestLag_7 : decode prog_4_method_17_code 7 = .ok (.istore_n 2, 1) := by decide +kernel
theorem d_Db_bestLag_8 : decode prog_4_method_17_code 8 = .ok (.iconst 1, 1) := by decide +kernel
theorem d_Db_bestLag_9 : decode prog_4_method_17_code 9 = .ok (.istore_n 3, 1) := by decide +kernel
theorem d_Db_bestLag_10 : decode prog_4_method_17_code 10 = .ok (.iload_n 3, 1) := by decide +kernel
theorem d_Db_bestLag_11 : decode prog_4_method_17_code 11 = .ok (.iconst 5, 1) := by decide +kernel
theorem d_Db_bestLag_12 : decode prog_4_method_17_code 12 = .ok (.if_icmp .gt 27, 3) := by decide +kernel
theorem d_Db_bestLag_15 : decode prog_4_method_17_code 15 = .ok (.aload_n 0, 1) := by decide +kernel
theorem d_Db_bestLag_16 : decode prog_4_method_17_code 16 = .ok (.iload_n 3, 1) := by decide +kernel
theorem d_Db_bestLag_17 : decode prog_4_method_17_code 17 = .ok (.invokevirtual 183, 3) := by decide +kernel
theorem d_Db_bestLag_20 : decode prog_4_method_17_code 20 = .ok (.istore 4, 2) := by decide +kernel
theorem d_Db_bestLag_22 : decode prog_4_method_17_code 22 = .ok (.iload 4, 2) := by decide +kernel
theorem d_Db_bestLag_24 : decode prog_4_method_17_code 24 = .ok (.iload_n 2, 1) := by decide +kernel
theorem d_Db_bestLag_25 : decode prog_4_method_17_code 25 = .ok (.if_icmp .le 8, 3) := by decide +kernel
theorem d_Db_bestLag_28 : decode prog_4_method_17_code 28 = .ok (.iload 4, 2) := by decide +kernel
theorem d_Db_bestLag_30 : decode prog_4_method_17_code 30 = .ok (.istore_n 2, 1) := by decide +kernel
theorem d_Db_bestLag_31 : decode prog_4_method_17_code 31 = .ok (.iload_n 3, 1) := by decide +kernel
theorem d_Db_bestLag_32 : decode prog_4_method_17_code 32 = .ok (.istore_n 1, 1) := by decide +kernel
theorem d_Db_bestLag_33 : decode prog_4_method_17_code 33 = .ok (.iinc 3 1, 3) := by decide +kernel
theorem d_Db_bestLag_36 : decode prog_4_method_17_code 36 = .ok (.goto (-26), 3) := by decide +kernel
theorem d_Db_bestLag_39 : decode prog_4_method_17_code 39 = .ok (.iload_n 1, 1) := by decide +kernel
theorem d_Db_bestLag_40 : decode prog_4_method_17_code 40 = .ok (.ireturn, 1) := by decide +kernel
abbrev S_Db_bestLag : Type := Nat × Nat × Int32 × Int32 × Int32 × AM
noncomputable def T_Db_bestLag_0 (v0R : Nat) (σ : AM) : S_Db_bestLag ⊕ Option (Int32 × AM) :=
  gdT (okO σ v0R 9) <| bndT (M_Db_weightsIfLate v0R (0 : Int32) σ) fun r1 σ2 => .inl (1, v0R, (0 : Int32), r1, (1 : Int32), σ2)
noncomputable def T_Db_bestLag_1 (v0R : Nat) (v1I : Int32) (v2I : Int32) (v3I : Int32) (σ : AM) : S_Db_bestLag ⊕ Option (Int32 × AM) :=
  if (5 : Int32) < v3I then (.inr (some (v1I, σ))) else (gdT (okO σ v0R 9) <| bndT (M_Db_weightsIfLate v0R v3I σ) fun r1 σ2 => if v2I < r1 then (.inl (2, v0R, v3I, r1, v3I, σ2)) else (.inl (2, v0R, v1I, v2I, v3I, σ2)))
noncomputable def T_Db_bestLag_2 (v0R : Nat) (v1I : Int32) (v2I : Int32) (v3I : Int32) (σ : AM) : S_Db_bestLag ⊕ Option (Int32 × AM) :=
  .inl (1, v0R, v1I, v2I, v3I + (1 : Int32), σ)
noncomputable def F_Db_bestLag : S_Db_bestLag → S_Db_bestLag ⊕ Option (Int32 × AM) := fun s => match s.1 with
  | 0 => T_Db_bestLag_0 (s.2.1) (s.2.2.2.2.2)
  | 1 => T_Db_bestLag_1 (s.2.1) (s.2.2.1) (s.2.2.2.1) (s.2.2.2.2.1) (s.2.2.2.2.2)
  | _ => T_Db_bestLag_2 (s.2.1) (s.2.2.1) (s.2.2.2.1) (s.2.2.2.2.1) (s.2.2.2.2.2)
noncomputable def L_Db_bestLag_0 (v0R : Nat) (σ : AM) : Option (Int32 × AM) := lp F_Db_bestLag (0, v0R, 0, 0, 0, σ)
noncomputable def L_Db_bestLag_1 (v0R : Nat) (v1I : Int32) (v2I : Int32) (v3I : Int32) (σ : AM) : Option (Int32 × AM) := lp F_Db_bestLag (1, v0R, v1I, v2I, v3I, σ)
noncomputable def L_Db_bestLag_2 (v0R : Nat) (v1I : Int32) (v2I : Int32) (v3I : Int32) (σ : AM) : Option (Int32 × AM) := lp F_Db_bestLag (2, v0R, v1I, v2I, v3I, σ)
set_option maxRecDepth 20000 in
theorem E_Db_bestLag_0 (v0R : Nat) (σ : AM) : L_Db_bestLag_0 v0R σ = (gd (okO σ v0R 9) <| bnd (M_Db_weightsIfLate v0R (0 : Int32) σ) fun r1 σ2 => L_Db_bestLag_1 v0R ((0 : Int32)) r1 ((1 : Int32)) σ2) := by
  unfold L_Db_bestLag_0
  rw [lp_eq]
  show lpK (lp F_Db_bestLag) (T_Db_bestLag_0 v0R σ) = _
  unfold T_Db_bestLag_0
  simp only [lpK_ite, lq_inl, lq_inr, lpK_bnd, lpK_gd, lq_let]
  try rfl
set_option maxRecDepth 20000 in
theorem E_Db_bestLag_1 (v0R : Nat) (v1I : Int32) (v2I : Int32) (v3I : Int32) (σ : AM) : L_Db_bestLag_1 v0R v1I v2I v3I σ = (if (5 : Int32) < v3I then ((some (v1I, σ))) else (gd (okO σ v0R 9) <| bnd (M_Db_weightsIfLate v0R v3I σ) fun r1 σ2 => if v2I < r1 then (L_Db_bestLag_2 v0R v3I r1 v3I σ2) else (L_Db_bestLag_2 v0R v1I v2I v3I σ2))) := by
  unfold L_Db_bestLag_1
  rw [lp_eq]
  show lpK (lp F_Db_bestLag) (T_Db_bestLag_1 v0R v1I v2I v3I σ) = _
  unfold T_Db_bestLag_1
  simp only [lpK_ite, lq_inl, lq_inr, lpK_bnd, lpK_gd, lq_let]
  try rfl
set_option maxRecDepth 20000 in
theorem E_Db_bestLag_2 (v0R : Nat) (v1I : Int32) (v2I : Int32) (v3I : Int32) (σ : AM) : L_Db_bestLag_2 v0R v1I v2I v3I σ = (L_Db_bestLag_1 v0R v1I v2I (v3I + (1 : Int32)) σ) := by
  unfold L_Db_bestLag_2
  rw [lp_eq]
  show lpK (lp F_Db_bestLag) (T_Db_bestLag_2 v0R v1I v2I v3I σ) = _
  unfold T_Db_bestLag_2
  simp only [lpK_ite, lq_inl, lq_inr, lpK_bnd, lpK_gd, lq_let]
  try rfl
noncomputable def M_Db_bestLag (v0R : Nat) (σ : AM) : Option (Int32 × AM) := mw σ (L_Db_bestLag_0 v0R σ)
def I_Db_bestLag (G : GX) (p : Program) (l : Launch) (e : Env) (s : State) (m : MethodId) (args : Array Value) (below : List Frame) (meth : Method) (c : Code) (z0 u0 n : Nat) : Prop :=
  (∀ (v0R : Nat) (σ : AM), VX (QM eI G args s below z0 u0) G p l e s m args below meth c 2 z0 u0 5 (lpn F_Db_bestLag n (0, v0R, 0, 0, 0, σ)) 0 [(0, .ref v0R)] [] σ) ∧
  (∀ (v0R : Nat) (v1I : Int32) (v2I : Int32) (v3I : Int32) (σ : AM), VX (QM eI G args s below z0 u0) G p l e s m args below meth c 2 z0 u0 5 (lpn F_Db_bestLag n (1, v0R, v1I, v2I, v3I, σ)) 10 [(0, .ref v0R), (1, .int v1I), (2, .int v2I), (3, .int v3I)] [] σ) ∧
  (∀ (v0R : Nat) (v1I : Int32) (v2I : Int32) (v3I : Int32) (σ : AM), VX (QM eI G args s below z0 u0) G p l e s m args below meth c 2 z0 u0 5 (lpn F_Db_bestLag n (2, v0R, v1I, v2I, v3I, σ)) 33 [(0, .ref v0R), (1, .int v1I), (2, .int v2I), (3, .int v3I)] [] σ)
set_option maxRecDepth 20000 in
theorem s_Db_bestLag_0 {G : GX} {p : Program} {l : Launch} {e : Env} {s : State} {m : MethodId} {args : Array Value} {below : List Frame} {meth : Method} {c : Code} {z0 u0 n : Nat} (C : Cx G p s m args meth c prog_4_method_17_code 5 "BellPlate$Doubt" ((some FieldType.int))) (IH : I_Db_bestLag G p l e s m args below meth c z0 u0 n) (v0R : Nat) (σ : AM) : VX (QM eI G args s below z0 u0) G p l e s m args below meth c 2 z0 u0 5 (lpK (lpn F_Db_bestLag n) (T_Db_bestLag_0 v0R σ)) 0 [(0, .ref v0R)] [] σ := by
  unfold T_Db_bestLag_0
  refine x_iconst (v := (0 : Int32)) C d_Db_bestLag_0 (by decide) ?_
  refine x_istore_n (lv' := [(1, .int (0 : Int32)), (0, .ref v0R)]) C d_Db_bestLag_1 (by decide) rfl rfl ?_
  refine x_aload_n C d_Db_bestLag_2 1 rfl ?_
  refine x_iconst (v := (0 : Int32)) C d_Db_bestLag_3 (by decide) ?_
  refine x_gd (fun h3 => ?_)
  refine x_callVI (As := [.int (0 : Int32)]) C (c_Db_weightsIfLate G l v0R (0 : Int32) σ) (okO_iff.mp h3) rfl w1511 w1512 w1510 w1513 w130 k_Db_weightsIfLate rfl (by decide) (by decide) rfl (Nat.le_of_ble_eq_true rfl) d_Db_bestLag_4 (fun r1 σ2 => ?_)
  refine x_istore_n (lv' := [(2, .int r1), (1, .int (0 : Int32)), (0, .ref v0R)]) C d_Db_bestLag_7 (by decide) rfl rfl ?_
  refine x_iconst (v := (1 : Int32)) C d_Db_bestLag_8 (by decide) ?_
  refine x_istore_n (lv' := [(3, .int (1 : Int32)), (2, .int r1), (1, .int (0 : Int32)), (0, .ref v0R)]) C d_Db_bestLag_9 (by decide) rfl rfl ?_
  refine x_lv [3, 2, 1, 0] rfl ?_
  exact IH.2.1 v0R ((0 : Int32)) r1 ((1 : Int32)) (σ2)
set_option maxRecDepth 20000 in
theorem s_Db_bestLag_1 {G : GX} {p : Program} {l : Launch} {e : Env} {s : State} {m : MethodId} {args : Array Value} {below : List Frame} {meth : Method} {c : Code} {z0 u0 n : Nat} (C : Cx G p s m args meth c prog_4_method_17_code 5 "BellPlate$Doubt" ((some FieldType.int))) (IH : I_Db_bestLag G p l e s m args below meth c z0 u0 n) (v0R : Nat) (v1I : Int32) (v2I : Int32) (v3I : Int32) (σ : AM) : VX (QM eI G args s below z0 u0) G p l e s m args below meth c 2 z0 u0 5 (lpK (lpn F_Db_bestLag n) (T_Db_bestLag_1 v0R v1I v2I v3I σ)) 10 [(0, .ref v0R), (1, .int v1I), (2, .int v2I), (3, .int v3I)] [] σ := by
  unfold T_Db_bestLag_1
  refine x_iload_n C d_Db_bestLag_10 3 rfl ?_
  refine x_iconst (v := (5 : Int32)) C d_Db_bestLag_11 (by decide) ?_
  refine x_icmp_gt (tgt := 39) C d_Db_bestLag_12 (by decide) (fun _ => ?_) (fun _ => ?_)
  · refine x_iload_n C d_Db_bestLag_39 1 rfl ?_
    exact x_iret C d_Db_bestLag_40
  · refine x_aload_n C d_Db_bestLag_15 0 rfl ?_
    refine x_iload_n C d_Db_bestLag_16 3 rfl ?_
    refine x_gd (fun h3 => ?_)
    refine x_callVI (As := [.int v3I]) C (c_Db_weightsIfLate G l v0R v3I σ) (okO_iff.mp h3) rfl w1511 w1512 w1510 w1513 w130 k_Db_weightsIfLate rfl (by decide) (by decide) rfl (Nat.le_of_ble_eq_true rfl) d_Db_bestLag_17 (fun r1 σ2 => ?_)
    refine x_istore (lv' := [(4, .int r1), (0, .ref v0R), (1, .int v1I), (2, .int v2I), (3, .int v3I)]) C d_Db_bestLag_20 (by decide) rfl ?_
    refine x_iload C d_Db_bestLag_22 0 rfl ?_
    refine x_iload_n C d_Db_bestLag_24 3 rfl ?_
    refine x_icmp_le (tgt := 33) C d_Db_bestLag_25 (by decide) (fun _ => ?_) (fun _ => ?_)
    · refine x_iload C d_Db_bestLag_28 0 rfl ?_
      refine x_istore_n (lv' := [(2, .int r1), (4, .int r1), (0, .ref v0R), (1, .int v1I), (3, .int v3I)]) C d_Db_bestLag_30 (by decide) rfl rfl ?_
      refine x_iload_n C d_Db_bestLag_31 4 rfl ?_
      refine x_istore_n (lv' := [(1, .int v3I), (2, .int r1), (4, .int r1), (0, .ref v0R), (3, .int v3I)]) C d_Db_bestLag_32 (by decide) rfl rfl ?_
      refine x_lv [3, 0, 1, 4] rfl ?_
      exact IH.2.2 v0R v3I r1 v3I (σ2)
    · refine x_lv [1, 2, 3, 4] rfl ?_
      exact IH.2.2 v0R v1I v2I v3I (σ2)
set_option maxRecDepth 20000 in
theorem s_Db_bestLag_2 {G : GX} {p : Program} {l : Launch} {e : Env} {s : State} {m : MethodId} {args : Array Value} {below : List Frame} {meth : Method} {c : Code} {z0 u0 n : Nat} (C : Cx G p s m args meth c prog_4_method_17_code 5 "BellPlate$Doubt" ((some FieldType.int))) (IH : I_Db_bestLag G p l e s m args below meth c z0 u0 n) (v0R : Nat) (v1I : Int32) (v2I : Int32) (v3I : Int32) (σ : AM) : VX (QM eI G args s below z0 u0) G p l e s m args below meth c 2 z0 u0 5 (lpK (lpn F_Db_bestLag n) (T_Db_bestLag_2 v0R v1I v2I v3I σ)) 33 [(0, .ref v0R), (1, .int v1I), (2, .int v2I), (3, .int v3I)] [] σ := by
  unfold T_Db_bestLag_2
  refine x_iinc (v := v3I + (1 : Int32)) (lv' := [(3, .int (v3I + (1 : Int32))), (0, .ref v0R), (1, .int v1I), (2, .int v2I)]) C d_Db_bestLag_33 3 rfl rfl (by decide) rfl ?_
  refine x_goto (tgt := 10) C d_Db_bestLag_36 (by decide) ?_
  refine x_lv [1, 2, 3, 0] rfl ?_
  exact IH.2.1 v0R v1I v2I (v3I + (1 : Int32)) (σ)
theorem i_Db_bestLag {G : GX} {p : Program} {l : Launch} {e : Env} {s : State} {m : MethodId} {args : Array Value} {below : List Frame} {meth : Method} {c : Code} {z0 u0 : Nat} (C : Cx G p s m args meth c prog_4_method_17_code 5 "BellPlate$Doubt" ((some FieldType.int))) (n : Nat) : I_Db_bestLag G p l e s m args below meth c z0 u0 n := by
  induction n with
  | zero => exact ⟨fun _ _ => x_none, fun _ _ _ _ _ => x_none, fun _ _ _ _ _ => x_none⟩
  | succ n IH => exact ⟨fun v0R σ => s_Db_bestLag_0 C IH v0R σ, fun v0R v1I v2I v3I σ => s_Db_bestLag_1 C IH v0R v1I v2I v3I σ, fun v0R v1I v2I v3I σ => s_Db_bestLag_2 C IH v0R v1I v2I v3I σ⟩
theorem c_Db_bestLag (G : GX) (l : Launch) (v0R : Nat) (σ : AM) : CT eI G l 2 y_Db_bestLag prog_4_method_17_code 5 ((some FieldType.int)) [.ref v0R] σ (M_Db_bestLag v0R σ) := by
  refine ct_of (by decide +kernel) (Nat.le_of_ble_eq_true rfl) (fun p e s m args below meth c C hin => ?_)
  refine x_lve (lv' := [(0, .ref v0R)]) rfl ?_
  intro r σ' h
  obtain ⟨n, hn⟩ := (lp_iff _ _ _).mp h
  exact (i_Db_bestLag C n).1 v0R σ r σ' hn
