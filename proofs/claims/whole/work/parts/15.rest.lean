/-! BellPlate$Rest.row()[I -/
abbrev y_Rs_row : MethodName := ⟨"BellPlate$Rest", "row", "()[I"⟩
theorem k_Rs_row : y_Rs_row.cls ≠ "java/lang/invoke/MethodHandle" ∧ y_Rs_row.cls ≠ "java/lang/invoke/VarHandle" ∧ (parseMethodDescriptor y_Rs_row.desc).map (fun d => d.parameters.length) = some 0 := by decide +kernel
theorem d_Rs_row_0 : decode prog_10_method_8_code 0 = .ok (.aload_n 0, 1) := by decide +kernel
theorem d_Rs_row_1 : decode prog_10_method_8_code 1 = .ok (.getfield 29, 3) := by decide +kernel
theorem d_Rs_row_4 : decode prog_10_method_8_code 4 = .ok (.areturn, 1) := by decide +kernel
abbrev S_Rs_row : Type := Nat × Nat × AM
noncomputable def T_Rs_row_0 (v0R : Nat) (σ : AM) : S_Rs_row ⊕ Option (Nat × AM) :=
  gdT (okO σ v0R 5) <| gdT (okO σ (aR σ v0R 4) 101) <| .inr (some ((aR σ v0R 4), σ))
noncomputable def F_Rs_row : S_Rs_row → S_Rs_row ⊕ Option (Nat × AM) := fun s => match s.1 with
  | _ => T_Rs_row_0 (s.2.1) (s.2.2)
noncomputable def L_Rs_row_0 (v0R : Nat) (σ : AM) : Option (Nat × AM) := lp F_Rs_row (0, v0R, σ)
set_option maxRecDepth 20000 in
theorem E_Rs_row_0 (v0R : Nat) (σ : AM) : L_Rs_row_0 v0R σ = (gd (okO σ v0R 5) <| gd (okO σ (aR σ v0R 4) 101) <| (some ((aR σ v0R 4), σ))) := by
  unfold L_Rs_row_0
  rw [lp_eq]
  show lpK (lp F_Rs_row) (T_Rs_row_0 v0R σ) = _
  unfold T_Rs_row_0
  simp only [lpK_ite, lq_inl, lq_inr, lpK_bnd, lpK_gd, lq_let]
  try rfl
noncomputable def M_Rs_row (v0R : Nat) (σ : AM) : Option (Nat × AM) := mw σ (L_Rs_row_0 v0R σ)
def I_Rs_row (G : GX) (p : Program) (l : Launch) (e : Env) (s : State) (m : MethodId) (args : Array Value) (below : List Frame) (meth : Method) (c : Code) (z0 u0 n : Nat) : Prop :=
  (∀ (v0R : Nat) (σ : AM), VX (QM eR G args s below z0 u0) G p l e s m args below meth c 0 z0 u0 1 (lpn F_Rs_row n (0, v0R, σ)) 0 [(0, .ref v0R)] [] σ)
set_option maxRecDepth 20000 in
theorem s_Rs_row_0 {G : GX} {p : Program} {l : Launch} {e : Env} {s : State} {m : MethodId} {args : Array Value} {below : List Frame} {meth : Method} {c : Code} {z0 u0 n : Nat} (C : Cx G p s m args meth c prog_10_method_8_code 1 "BellPlate$Rest" ((some (FieldType.array FieldType.int)))) (IH : I_Rs_row G p l e s m args below meth c z0 u0 n) (v0R : Nat) (σ : AM) : VX (QM eR G args s below z0 u0) G p l e s m args below meth c 0 z0 u0 1 (lpK (lpn F_Rs_row n) (T_Rs_row_0 v0R σ)) 0 [(0, .ref v0R)] [] σ := by
  unfold T_Rs_row_0
  refine x_aload_n C d_Rs_row_0 0 rfl ?_
  refine x_gd (fun h1 => ?_)
  refine x_gd (fun h2 => ?_)
  refine x_getR (k := 4) (kv := 101) C (okO_iff.mp h1) rfl j4_ok (by decide) rfl (okO_iff.mp h2) (by decide) w343 d_Rs_row_1 ?_
  exact x_aret (by first | exact Or.inl ⟨_, rfl⟩ | exact Or.inr ⟨_, rfl⟩) C d_Rs_row_4
theorem i_Rs_row {G : GX} {p : Program} {l : Launch} {e : Env} {s : State} {m : MethodId} {args : Array Value} {below : List Frame} {meth : Method} {c : Code} {z0 u0 : Nat} (C : Cx G p s m args meth c prog_10_method_8_code 1 "BellPlate$Rest" ((some (FieldType.array FieldType.int)))) (n : Nat) : I_Rs_row G p l e s m args below meth c z0 u0 n := by
  induction n with
  | zero => exact fun _ _ => x_none
  | succ n IH => exact fun v0R σ => s_Rs_row_0 C IH v0R σ
theorem c_Rs_row (G : GX) (l : Launch) (v0R : Nat) (σ : AM) : CT eR G l 0 y_Rs_row prog_10_method_8_code 1 ((some (FieldType.array FieldType.int))) [.ref v0R] σ (M_Rs_row v0R σ) := by
  refine ct_of (by decide +kernel) (Nat.le_of_ble_eq_true rfl) (fun p e s m args below meth c C hin => ?_)
  refine x_lve (lv' := [(0, .ref v0R)]) rfl ?_
  intro r σ' h
  obtain ⟨n, hn⟩ := (lp_iff _ _ _).mp h
  exact (i_Rs_row C n) v0R σ r σ' hn
/-! BellPlate$Rest.size()I -/
abbrev y_Rs_size : MethodName := ⟨"BellPlate$Rest", "size", "()I"⟩
theorem k_Rs_size : y_Rs_size.cls ≠ "java/lang/invoke/MethodHandle" ∧ y_Rs_size.cls ≠ "java/lang/invoke/VarHandle" ∧ (parseMethodDescriptor y_Rs_size.desc).map (fun d => d.parameters.length) = some 0 := by decide +kernel
theorem d_Rs_size_0 : decode prog_10_method_4_code 0 = .ok (.aload_n 0, 1) := by decide +kernel
theorem d_Rs_size_1 : decode prog_10_method_4_code 1 = .ok (.getfield 50, 3) := by decide +kernel
theorem d_Rs_size_4 : decode prog_10_method_4_code 4 = .ok (.ireturn, 1) := by decide +kernel
abbrev S_Rs_size : Type := Nat × Nat × AM
noncomputable def T_Rs_size_0 (v0R : Nat) (σ : AM) : S_Rs_size ⊕ Option (Int32 × AM) :=
  gdT (okO σ v0R 5) <| .inr (some ((aI σ v0R 5), σ))
noncomputable def F_Rs_size : S_Rs_size → S_Rs_size ⊕ Option (Int32 × AM) := fun s => match s.1 with
  | _ => T_Rs_size_0 (s.2.1) (s.2.2)
noncomputable def L_Rs_size_0 (v0R : Nat) (σ : AM) : Option (Int32 × AM) := lp F_Rs_size (0, v0R, σ)
set_option maxRecDepth 20000 in
theorem E_Rs_size_0 (v0R : Nat) (σ : AM) : L_Rs_size_0 v0R σ = (gd (okO σ v0R 5) <| (some ((aI σ v0R 5), σ))) := by
  unfold L_Rs_size_0
  rw [lp_eq]
  show lpK (lp F_Rs_size) (T_Rs_size_0 v0R σ) = _
  unfold T_Rs_size_0
  simp only [lpK_ite, lq_inl, lq_inr, lpK_bnd, lpK_gd, lq_let]
  try rfl
noncomputable def M_Rs_size (v0R : Nat) (σ : AM) : Option (Int32 × AM) := mw σ (L_Rs_size_0 v0R σ)
def I_Rs_size (G : GX) (p : Program) (l : Launch) (e : Env) (s : State) (m : MethodId) (args : Array Value) (below : List Frame) (meth : Method) (c : Code) (z0 u0 n : Nat) : Prop :=
  (∀ (v0R : Nat) (σ : AM), VX (QM eI G args s below z0 u0) G p l e s m args below meth c 0 z0 u0 1 (lpn F_Rs_size n (0, v0R, σ)) 0 [(0, .ref v0R)] [] σ)
set_option maxRecDepth 20000 in
theorem s_Rs_size_0 {G : GX} {p : Program} {l : Launch} {e : Env} {s : State} {m : MethodId} {args : Array Value} {below : List Frame} {meth : Method} {c : Code} {z0 u0 n : Nat} (C : Cx G p s m args meth c prog_10_method_4_code 1 "BellPlate$Rest" ((some FieldType.int))) (IH : I_Rs_size G p l e s m args below meth c z0 u0 n) (v0R : Nat) (σ : AM) : VX (QM eI G args s below z0 u0) G p l e s m args below meth c 0 z0 u0 1 (lpK (lpn F_Rs_size n) (T_Rs_size_0 v0R σ)) 0 [(0, .ref v0R)] [] σ := by
  unfold T_Rs_size_0
  refine x_aload_n C d_Rs_size_0 0 rfl ?_
  refine x_gd (fun h1 => ?_)
  refine x_getI (k := 5) C (okO_iff.mp h1) rfl j4_ok (by decide) rfl w344 d_Rs_size_1 ?_
  exact x_iret C d_Rs_size_4
theorem i_Rs_size {G : GX} {p : Program} {l : Launch} {e : Env} {s : State} {m : MethodId} {args : Array Value} {below : List Frame} {meth : Method} {c : Code} {z0 u0 : Nat} (C : Cx G p s m args meth c prog_10_method_4_code 1 "BellPlate$Rest" ((some FieldType.int))) (n : Nat) : I_Rs_size G p l e s m args below meth c z0 u0 n := by
  induction n with
  | zero => exact fun _ _ => x_none
  | succ n IH => exact fun v0R σ => s_Rs_size_0 C IH v0R σ
theorem c_Rs_size (G : GX) (l : Launch) (v0R : Nat) (σ : AM) : CT eI G l 0 y_Rs_size prog_10_method_4_code 1 ((some FieldType.int)) [.ref v0R] σ (M_Rs_size v0R σ) := by
  refine ct_of (by decide +kernel) (Nat.le_of_ble_eq_true rfl) (fun p e s m args below meth c C hin => ?_)
  refine x_lve (lv' := [(0, .ref v0R)]) rfl ?_
  intro r σ' h
  obtain ⟨n, hn⟩ := (lp_iff _ _ _).mp h
  exact (i_Rs_size C n) v0R σ r σ' hn
/-! BellPlate$Rest.listAt(I)J -/
abbrev y_Rs_listAt : MethodName := ⟨"BellPlate$Rest", "listAt", "(I)J"⟩
theorem k_Rs_listAt : y_Rs_listAt.cls ≠ "java/lang/invoke/MethodHandle" ∧ y_Rs_listAt.cls ≠ "java/lang/invoke/VarHandle" ∧ (parseMethodDescriptor y_Rs_listAt.desc).map (fun d => d.parameters.length) = some 1 := by decide +kernel
theorem d_Rs_listAt_0 : decode prog_10_method_9_code 0 = .ok (.aload_n 0, 1) := by decide +kernel
theorem d_Rs_listAt_1 : decode prog_10_method_9_code 1 = .ok (.getfield 9, 3) := by decide +kernel
theorem d_Rs_listAt_4 : decode prog_10_method_9_code 4 = .ok (.aload_n 0, 1) := by decide +kernel
theorem d_Rs_listAt_5 : decode prog_10_method_9_code 5 = .ok (.getfield 29, 3) := by decide +kernel
theorem d_Rs_listAt_8 : decode prog_10_method_9_code 8 = .ok (.iload_n 1, 1) := by decide +kernel
theorem d_Rs_listAt_9 : decode prog_10_method_9_code 9 = .ok (.iaload, 1) := by decide +kernel
theorem d_Rs_listAt_10 : decode prog_10_method_9_code 10 = .ok (.invokevirtual 67, 3) := by decide +kernel
theorem d_Rs_listAt_13 : decode prog_10_method_9_code 13 = .ok (.lreturn, 1) := by decide +kernel
abbrev S_Rs_listAt : Type := Nat × Nat × Int32 × AM
noncomputable def T_Rs_listAt_0 (v0R : Nat) (v1I : Int32) (σ : AM) : S_Rs_listAt ⊕ Option (Int64 × AM) :=
  gdT (okO σ v0R 5) <| gdT (okO σ (aR σ v0R 0) 3) <| gdT (okO σ (aR σ v0R 4) 101) <| gdT (inB v1I (aN σ (aR σ v0R 4))) <| bndT (M_Ls_at (aR σ v0R 0) (aI σ (aR σ v0R 4) v1I.toNatClampNeg) σ) fun r5 σ6 => .inr (some (r5, σ6))
noncomputable def F_Rs_listAt : S_Rs_listAt → S_Rs_listAt ⊕ Option (Int64 × AM) := fun s => match s.1 with
  | _ => T_Rs_listAt_0 (s.2.1) (s.2.2.1) (s.2.2.2)
noncomputable def L_Rs_listAt_0 (v0R : Nat) (v1I : Int32) (σ : AM) : Option (Int64 × AM) := lp F_Rs_listAt (0, v0R, v1I, σ)
set_option maxRecDepth 20000 in
theorem E_Rs_listAt_0 (v0R : Nat) (v1I : Int32) (σ : AM) : L_Rs_listAt_0 v0R v1I σ = (gd (okO σ v0R 5) <| gd (okO σ (aR σ v0R 0) 3) <| gd (okO σ (aR σ v0R 4) 101) <| gd (inB v1I (aN σ (aR σ v0R 4))) <| bnd (M_Ls_at (aR σ v0R 0) (aI σ (aR σ v0R 4) v1I.toNatClampNeg) σ) fun r5 σ6 => (some (r5, σ6))) := by
  unfold L_Rs_listAt_0
  rw [lp_eq]
  show lpK (lp F_Rs_listAt) (T_Rs_listAt_0 v0R v1I σ) = _
  unfold T_Rs_listAt_0
  simp only [lpK_ite, lq_inl, lq_inr, lpK_bnd, lpK_gd, lq_let]
  try rfl
noncomputable def M_Rs_listAt (v0R : Nat) (v1I : Int32) (σ : AM) : Option (Int64 × AM) := mw σ (L_Rs_listAt_0 v0R v1I σ)
def I_Rs_listAt (G : GX) (p : Program) (l : Launch) (e : Env) (s : State) (m : MethodId) (args : Array Value) (below : List Frame) (meth : Method) (c : Code) (z0 u0 n : Nat) : Prop :=
  (∀ (v0R : Nat) (v1I : Int32) (σ : AM), VX (QM eJ G args s below z0 u0) G p l e s m args below meth c 1 z0 u0 2 (lpn F_Rs_listAt n (0, v0R, v1I, σ)) 0 [(0, .ref v0R), (1, .int v1I)] [] σ)
set_option maxRecDepth 20000 in
theorem s_Rs_listAt_0 {G : GX} {p : Program} {l : Launch} {e : Env} {s : State} {m : MethodId} {args : Array Value} {below : List Frame} {meth : Method} {c : Code} {z0 u0 n : Nat} (C : Cx G p s m args meth c prog_10_method_9_code 2 "BellPlate$Rest" ((some FieldType.long))) (IH : I_Rs_listAt G p l e s m args below meth c z0 u0 n) (v0R : Nat) (v1I : Int32) (σ : AM) : VX (QM eJ G args s below z0 u0) G p l e s m args below meth c 1 z0 u0 2 (lpK (lpn F_Rs_listAt n) (T_Rs_listAt_0 v0R v1I σ)) 0 [(0, .ref v0R), (1, .int v1I)] [] σ := by
  unfold T_Rs_listAt_0
  refine x_aload_n C d_Rs_listAt_0 0 rfl ?_
  refine x_gd (fun h1 => ?_)
  refine x_gd (fun h2 => ?_)
  refine x_getR (k := 0) (kv := 3) C (okO_iff.mp h1) rfl j4_ok (by decide) rfl (okO_iff.mp h2) (by decide) w339 d_Rs_listAt_1 ?_
  refine x_aload_n C d_Rs_listAt_4 0 rfl ?_
  refine x_gd (fun h3 => ?_)
  refine x_getR (k := 4) (kv := 101) C (okO_iff.mp h1) rfl j4_ok (by decide) rfl (okO_iff.mp h3) (by decide) w343 d_Rs_listAt_5 ?_
  refine x_iload_n C d_Rs_listAt_8 1 rfl ?_
  refine x_gd (fun h4 => ?_)
  refine x_aldI C (okO_iff.mp h3) (inB_iff.mp h4) d_Rs_listAt_9 ?_
  refine x_callVJ (As := [.int (aI σ (aR σ v0R 4) v1I.toNatClampNeg)]) C (c_Ls_at G l (aR σ v0R 0) (aI σ (aR σ v0R 4) v1I.toNatClampNeg) σ) (okO_iff.mp h2) rfl w996 w997 w1055 w998 w123 k_Ls_at rfl (by decide) (by decide) rfl (Nat.le_of_ble_eq_true rfl) d_Rs_listAt_10 (fun r5 σ6 => ?_)
  exact x_lret C d_Rs_listAt_13
theorem i_Rs_listAt {G : GX} {p : Program} {l : Launch} {e : Env} {s : State} {m : MethodId} {args : Array Value} {below : List Frame} {meth : Method} {c : Code} {z0 u0 : Nat} (C : Cx G p s m args meth c prog_10_method_9_code 2 "BellPlate$Rest" ((some FieldType.long))) (n : Nat) : I_Rs_listAt G p l e s m args below meth c z0 u0 n := by
  induction n with
  | zero => exact fun _ _ _ => x_none
  | succ n IH => exact fun v0R v1I σ => s_Rs_listAt_0 C IH v0R v1I σ
theorem c_Rs_listAt (G : GX) (l : Launch) (v0R : Nat) (v1I : Int32) (σ : AM) : CT eJ G l 1 y_Rs_listAt prog_10_method_9_code 2 ((some FieldType.long)) [.ref v0R, .int v1I] σ (M_Rs_listAt v0R v1I σ) := by
  refine ct_of (by decide +kernel) (Nat.le_of_ble_eq_true rfl) (fun p e s m args below meth c C hin => ?_)
  refine x_lve (lv' := [(0, .ref v0R), (1, .int v1I)]) rfl ?_
  intro r σ' h
  obtain ⟨n, hn⟩ := (lp_iff _ _ _).mp h
  exact (i_Rs_listAt C n) v0R v1I σ r σ' hn
/-! BellPlate$Rest.<init>(LBellPlate$Lists;LBellPlate$Book;)V -/
abbrev y_Rs_init : MethodName := ⟨"BellPlate$Rest", "<init>", "(LBellPlate$Lists;LBellPlate$Book;)V"⟩
theorem k_Rs_init : y_Rs_init.cls ≠ "java/lang/invoke/MethodHandle" ∧ y_Rs_init.cls ≠ "java/lang/invoke/VarHandle" ∧ (parseMethodDescriptor y_Rs_init.desc).map (fun d => d.parameters.length) = some 2 := by decide +kernel
theorem d_Rs_init_0 : decode prog_10_method_1_code 0 = .ok (.aload_n 0, 1) := by decide +kernel
theorem d_Rs_init_1 : decode prog_10_method_1_code 1 = .ok (.invokespecial 3, 3) := by decide +kernel
theorem d_Rs_init_4 : decode prog_10_method_1_code 4 = .ok (.aload_n 0, 1) := by decide +kernel
theorem d_Rs_init_5 : decode prog_10_method_1_code 5 = .ok (.aload_n 1, 1) := by decide +kernel
theorem d_Rs_init_6 : decode prog_10_method_1_code 6 = .ok (.putfield 9, 3) := by decide +kernel
theorem d_Rs_init_9 : decode prog_10_method_1_code 9 = .ok (.aload_n 0, 1) := by decide +kernel
theorem d_Rs_init_10 : decode prog_10_method_1_code 10 = .ok (.aload_n 2, 1) := by decide +kernel
theorem d_Rs_init_11 : decode prog_10_method_1_code 11 = .ok (.putfield 15, 3) := by decide +kernel
theorem d_Rs_init_14 : decode prog_10_method_1_code 14 = .ok (.aload_n 0, 1) := by decide +kernel
theorem d_Rs_init_15 : decode prog_10_method_1_code 15 = .ok (.bipush 10, 2) := by decide +kernel
theorem d_Rs_init_17 : decode prog_10_method_1_code 17 = .ok (.newarray .int, 2) := by decide +kernel
theorem d_Rs_init_19 : decode prog_10_method_1_code 19 = .ok (.putfield 21, 3) := by decide +kernel
theorem d_Rs_init_22 : decode prog_10_method_1_code 22 = .ok (.aload_n 0, 1) := by decide +kernel
theorem d_Rs_init_23 : decode prog_10_method_1_code 23 = .ok (.iconst 1, 1) := by decide +kernel
theorem d_Rs_init_24 : decode prog_10_method_1_code 24 = .ok (.newarray .boolean, 2) := by decide +kernel
theorem d_Rs_init_26 : decode prog_10_method_1_code 26 = .ok (.putfield 25, 3) := by decide +kernel
theorem d_Rs_init_29 : decode prog_10_method_1_code 29 = .ok (.aload_n 0, 1) := by decide +kernel
theorem d_Rs_init_30 : decode prog_10_method_1_code 30 = .ok (.iconst 1, 1) := by decide +kernel
theorem d_Rs_init_31 : decode prog_10_method_1_code 31 = .ok (.newarray .int, 2) := by decide +kernel
theorem d_Rs_init_33 : decode prog_10_method_1_code 33 = .ok (.putfield 29, 3) := by decide +kernel
theorem d_Rs_init_36 : decode prog_10_method_1_code 36 = .ok (.aload_n 0, 1) := by decide +kernel
theorem d_Rs_init_37 : decode prog_10_method_1_code 37 = .ok (.iconst (-1), 1) := by decide +kernel
theorem d_Rs_init_38 : decode prog_10_method_1_code 38 = .ok (.putfield 32, 3) := by decide +kernel
theorem d_Rs_init_41 : decode prog_10_method_1_code 41 = .ok (.return_, 1) := by decide +kernel
abbrev S_Rs_init : Type := Nat × Nat × Nat × Nat × AM
noncomputable def T_Rs_init_0 (v0R : Nat) (v1R : Nat) (v2R : Nat) (σ : AM) : S_Rs_init ⊕ Option (Unit × AM) :=
  gdT (okO σ v0R 5) <| gdT (okO σ v1R 3) <| letT (sR σ v0R 0 v1R) fun σ3 => gdT (okO σ3 v2R 4) <| letT (sR σ3 v0R 1 v2R) fun σ6 => letT (nw σ6 101 (10 : Int32).toNatClampNeg) fun σ8 => gdT (okO σ8 v0R 5) <| letT (sR σ8 v0R 2 (aZ σ6)) fun σ11 => letT (nw σ11 103 (1 : Int32).toNatClampNeg) fun σ13 => gdT (okO σ13 v0R 5) <| letT (sR σ13 v0R 3 (aZ σ11)) fun σ16 => letT (nw σ16 101 (1 : Int32).toNatClampNeg) fun σ18 => gdT (okO σ18 v0R 5) <| letT (sR σ18 v0R 4 (aZ σ16)) fun σ21 => letT (sI σ21 v0R 9 ((-1) : Int32)) fun σ23 => .inr (some ((), σ23))
noncomputable def F_Rs_init : S_Rs_init → S_Rs_init ⊕ Option (Unit × AM) := fun s => match s.1 with
  | _ => T_Rs_init_0 (s.2.1) (s.2.2.1) (s.2.2.2.1) (s.2.2.2.2)
noncomputable def L_Rs_init_0 (v0R : Nat) (v1R : Nat) (v2R : Nat) (σ : AM) : Option (Unit × AM) := lp F_Rs_init (0, v0R, v1R, v2R, σ)
set_option maxRecDepth 20000 in
theorem E_Rs_init_0 (v0R : Nat) (v1R : Nat) (v2R : Nat) (σ : AM) : L_Rs_init_0 v0R v1R v2R σ = (gd (okO σ v0R 5) <| gd (okO σ v1R 3) <| letT (sR σ v0R 0 v1R) fun σ3 => gd (okO σ3 v2R 4) <| letT (sR σ3 v0R 1 v2R) fun σ6 => letT (nw σ6 101 (10 : Int32).toNatClampNeg) fun σ8 => gd (okO σ8 v0R 5) <| letT (sR σ8 v0R 2 (aZ σ6)) fun σ11 => letT (nw σ11 103 (1 : Int32).toNatClampNeg) fun σ13 => gd (okO σ13 v0R 5) <| letT (sR σ13 v0R 3 (aZ σ11)) fun σ16 => letT (nw σ16 101 (1 : Int32).toNatClampNeg) fun σ18 => gd (okO σ18 v0R 5) <| letT (sR σ18 v0R 4 (aZ σ16)) fun σ21 => letT (sI σ21 v0R 9 ((-1) : Int32)) fun σ23 => (some ((), σ23))) := by
  unfold L_Rs_init_0
  rw [lp_eq]
  show lpK (lp F_Rs_init) (T_Rs_init_0 v0R v1R v2R σ) = _
  unfold T_Rs_init_0
  simp only [lpK_ite, lq_inl, lq_inr, lpK_bnd, lpK_gd, lq_let]
  try rfl
noncomputable def M_Rs_init (v0R : Nat) (v1R : Nat) (v2R : Nat) (σ : AM) : Option (Unit × AM) := mw σ (L_Rs_init_0 v0R v1R v2R σ)
def I_Rs_init (G : GX) (p : Program) (l : Launch) (e : Env) (s : State) (m : MethodId) (args : Array Value) (below : List Frame) (meth : Method) (c : Code) (z0 u0 n : Nat) : Prop :=
  (∀ (v0R : Nat) (v1R : Nat) (v2R : Nat) (σ : AM), VX (QM eV G args s below z0 u0) G p l e s m args below meth c 1 z0 u0 3 (lpn F_Rs_init n (0, v0R, v1R, v2R, σ)) 0 [(0, .ref v0R), (1, .ref v1R), (2, .ref v2R)] [] σ)
set_option maxRecDepth 20000 in
theorem s_Rs_init_0 {G : GX} {p : Program} {l : Launch} {e : Env} {s : State} {m : MethodId} {args : Array Value} {below : List Frame} {meth : Method} {c : Code} {z0 u0 n : Nat} (C : Cx G p s m args meth c prog_10_method_1_code 3 "BellPlate$Rest" ((none))) (hin : meth.name = "<init>") (IH : I_Rs_init G p l e s m args below meth c z0 u0 n) (v0R : Nat) (v1R : Nat) (v2R : Nat) (σ : AM) : VX (QM eV G args s below z0 u0) G p l e s m args below meth c 1 z0 u0 3 (lpK (lpn F_Rs_init n) (T_Rs_init_0 v0R v1R v2R σ)) 0 [(0, .ref v0R), (1, .ref v1R), (2, .ref v2R)] [] σ := by
  unfold T_Rs_init_0
  refine x_aload_n C d_Rs_init_0 0 rfl ?_
  refine x_gd (fun h1 => ?_)
  refine x_obj C (okO_iff.mp h1) w338 w153 w154 (by decide) (Nat.le_of_ble_eq_true rfl) d_Rs_init_1 ?_
  refine x_aload_n C d_Rs_init_4 0 rfl ?_
  refine x_aload_n C d_Rs_init_5 1 rfl ?_
  refine x_gd (fun h2 => ?_)
  refine x_putRF (k := 0) (kv := 3) C (okO_iff.mp h1) rfl j4_ok y4_ok n4_ok (by decide) rfl (okO_iff.mp h2) (by decide) rfl hin rfl rfl rfl w339 d_Rs_init_6 ?_
  refine x_letS (fun σ3 e4 => ?_)
  refine x_aload_n C d_Rs_init_9 0 rfl ?_
  refine x_aload_n C d_Rs_init_10 2 rfl ?_
  refine x_gd (fun h5 => ?_)
  refine x_putRF (k := 1) (kv := 4) C (by first | exact (okO_iff.mp h1) | (rw [e4]; exact (okO_iff.mp h1))) rfl j4_ok y4_ok n4_ok (by decide) rfl (okO_iff.mp h5) (by decide) rfl hin rfl rfl rfl w340 d_Rs_init_11 ?_
  refine x_letS (fun σ6 e7 => ?_)
  refine x_aload_n C d_Rs_init_14 0 rfl ?_
  refine x_bipush (v := (10 : Int32)) C d_Rs_init_15 (by decide) ?_
  refine x_newaI C w203 (by decide) (by decide) d_Rs_init_17 ?_
  refine x_letS (fun σ8 e9 => ?_)
  refine x_gd (fun h10 => ?_)
  refine x_putRF (k := 2) (kv := 101) C (okO_iff.mp h10) rfl j4_ok y4_ok n4_ok (by decide) rfl (fr_K e9) (by decide) rfl hin rfl rfl rfl w341 d_Rs_init_19 ?_
  refine x_letS (fun σ11 e12 => ?_)
  refine x_aload_n C d_Rs_init_22 0 rfl ?_
  refine x_iconst (v := (1 : Int32)) C d_Rs_init_23 (by decide) ?_
  refine x_newaZ C w332 (by decide) (by decide) d_Rs_init_24 ?_
  refine x_letS (fun σ13 e14 => ?_)
  refine x_gd (fun h15 => ?_)
  refine x_putR (k := 3) (kv := 103) C (okO_iff.mp h15) rfl j4_ok y4_ok n4_ok (by decide) rfl (fr_K e14) (by decide) rfl rfl rfl w342 d_Rs_init_26 ?_
  refine x_letS (fun σ16 e17 => ?_)
  refine x_aload_n C d_Rs_init_29 0 rfl ?_
  refine x_iconst (v := (1 : Int32)) C d_Rs_init_30 (by decide) ?_
  refine x_newaI C w203 (by decide) (by decide) d_Rs_init_31 ?_
  refine x_letS (fun σ18 e19 => ?_)
  refine x_gd (fun h20 => ?_)
  refine x_putR (k := 4) (kv := 101) C (okO_iff.mp h20) rfl j4_ok y4_ok n4_ok (by decide) rfl (fr_K e19) (by decide) rfl rfl rfl w343 d_Rs_init_33 ?_
  refine x_letS (fun σ21 e22 => ?_)
  refine x_aload_n C d_Rs_init_36 0 rfl ?_
  refine x_iconst (v := ((-1) : Int32)) C d_Rs_init_37 (by decide) ?_
  refine x_putI (k := 9) C (by first | exact (okO_iff.mp h20) | (rw [e22]; exact (okO_iff.mp h20))) rfl j4_ok y4_ok n4_ok (by decide) rfl rfl rfl rfl w348 d_Rs_init_38 ?_
  refine x_letS (fun σ23 e24 => ?_)
  exact x_vret C d_Rs_init_41
theorem i_Rs_init {G : GX} {p : Program} {l : Launch} {e : Env} {s : State} {m : MethodId} {args : Array Value} {below : List Frame} {meth : Method} {c : Code} {z0 u0 : Nat} (C : Cx G p s m args meth c prog_10_method_1_code 3 "BellPlate$Rest" ((none))) (hin : meth.name = "<init>") (n : Nat) : I_Rs_init G p l e s m args below meth c z0 u0 n := by
  induction n with
  | zero => exact fun _ _ _ _ => x_none
  | succ n IH => exact fun v0R v1R v2R σ => s_Rs_init_0 C hin IH v0R v1R v2R σ
theorem c_Rs_init (G : GX) (l : Launch) (v0R : Nat) (v1R : Nat) (v2R : Nat) (σ : AM) : CT eV G l 1 y_Rs_init prog_10_method_1_code 3 (none) [.ref v0R, .ref v1R, .ref v2R] σ (M_Rs_init v0R v1R v2R σ) := by
  refine ct_of (by decide +kernel) (Nat.le_of_ble_eq_true rfl) (fun p e s m args below meth c C hin => ?_)
  refine x_lve (lv' := [(0, .ref v0R), (1, .ref v1R), (2, .ref v2R)]) rfl ?_
  intro r σ' h
  obtain ⟨n, hn⟩ := (lp_iff _ _ _).mp h
  exact (i_Rs_init C hin n) v0R v1R v2R σ r σ' hn
/-! BellPlate$Rest.keep(IJ)V -/
abbrev y_Rs_keep : MethodName := ⟨"BellPlate$Rest", "keep", "(IJ)V"⟩
theorem k_Rs_keep : y_Rs_keep.cls ≠ "java/lang/invoke/MethodHandle" ∧ y_Rs_keep.cls ≠ "java/lang/invoke/VarHandle" ∧ (parseMethodDescriptor y_Rs_keep.desc).map (fun d => d.parameters.length) = some 2 := by decide +kernel
theorem d_Rs_keep_0 : decode prog_10_method_3_code 0 = .ok (.aload_n 0, 1) := by decide +kernel
theorem d_Rs_keep_1 : decode prog_10_method_3_code 1 = .ok (.getfield 29, 3) := by decide +kernel
theorem d_Rs_keep_4 : decode prog_10_method_3_code 4 = .ok (.aload_n 0, 1) := by decide +kernel
theorem d_Rs_keep_5 : decode prog_10_method_3_code 5 = .ok (.getfield 50, 3) := by decide +kernel
theorem d_Rs_keep_8 : decode prog_10_method_3_code 8 = .ok (.iload_n 1, 1) := by decide +kernel
theorem d_Rs_keep_9 : decode prog_10_method_3_code 9 = .ok (.iastore, 1) := by decide +kernel
theorem d_Rs_keep_10 : decode prog_10_method_3_code 10 = .ok (.aload_n 0, 1) := by decide +kernel
theorem d_Rs_keep_11 : decode prog_10_method_3_code 11 = .ok (.dup, 1) := by decide +kernel
theorem d_Rs_keep_12 : decode prog_10_method_3_code 12 = .ok (.getfield 50, 3) := by decide +kernel
theorem d_Rs_keep_15 : decode prog_10_method_3_code 15 = .ok (.iconst 1, 1) := by decide +kernel
theorem d_Rs_keep_16 : decode prog_10_method_3_code 16 = .ok (.iadd, 1) := by decide +kernel
theorem d_Rs_keep_17 : decode prog_10_method_3_code 17 = .ok (.putfield 50, 3) := by decide +kernel
theorem d_Rs_keep_20 : decode prog_10_method_3_code 20 = .ok (.aload_n 0, 1) := by decide +kernel
theorem d_Rs_keep_21 : decode prog_10_method_3_code 21 = .ok (.dup, 1) := by decide +kernel
theorem d_Rs_keep_22 : decode prog_10_method_3_code 22 = .ok (.getfield 53, 3) := by decide +kernel
theorem d_Rs_keep_25 : decode prog_10_method_3_code 25 = .ok (.aload_n 0, 1) := by decide +kernel
theorem d_Rs_keep_26 : decode prog_10_method_3_code 26 = .ok (.getfield 9, 3) := by decide +kernel
theorem d_Rs_keep_29 : decode prog_10_method_3_code 29 = .ok (.iload_n 1, 1) := by decide +kernel
theorem d_Rs_keep_30 : decode prog_10_method_3_code 30 = .ok (.invokevirtual 79, 3) := by decide +kernel
theorem d_Rs_keep_33 : decode prog_10_method_3_code 33 = .ok (.iadd, 1) := by decide +kernel
theorem d_Rs_keep_34 : decode prog_10_method_3_code 34 = .ok (.putfield 53, 3) := by decide +kernel
theorem d_Rs_keep_37 : decode prog_10_method_3_code 37 = .ok (.aload_n 0, 1) := by decide +kernel
theorem d_Rs_keep_38 : decode prog_10_method_3_code 38 = .ok (.dup, 1) := by decide +kernel
theorem d_Rs_keep_39 : decode prog_10_method_3_code 39 = .ok (.getfield 56, 3) := by decide +kernel
theorem d_Rs_keep_42 : decode prog_10_method_3_code 42 = .ok (.lload_n 2, 1) := by decide +kernel
theorem d_Rs_keep_43 : decode prog_10_method_3_code 43 = .ok (.lor, 1) := by decide +kernel
theorem d_Rs_keep_44 : decode prog_10_method_3_code 44 = .ok (.putfield 56, 3) := by decide +kernel
theorem d_Rs_keep_47 : decode prog_10_method_3_code 47 = .ok (.aload_n 0, 1) := by decide +kernel
theorem d_Rs_keep_48 : decode prog_10_method_3_code 48 = .ok (.dup, 1) := by decide +kernel
theorem d_Rs_keep_49 : decode prog_10_method_3_code 49 = .ok (.getfield 62, 3) := by decide +kernel
theorem d_Rs_keep_52 : decode prog_10_method_3_code 52 = .ok (.lload_n 2, 1) := by decide +kernel
theorem d_Rs_keep_53 : decode prog_10_method_3_code 53 = .ok (.land, 1) := by decide +kernel
theorem d_Rs_keep_54 : decode prog_10_method_3_code 54 = .ok (.putfield 62, 3) := by decide +kernel
theorem d_Rs_keep_57 : decode prog_10_method_3_code 57 = .ok (.return_, 1) := by decide +kernel
abbrev S_Rs_keep : Type := Nat × Nat × Int32 × Int64 × AM
noncomputable def T_Rs_keep_0 (v0R : Nat) (v1I : Int32) (v2J : Int64) (σ : AM) : S_Rs_keep ⊕ Option (Unit × AM) :=
  gdT (okO σ v0R 5) <| gdT (okO σ (aR σ v0R 4) 101) <| gdT (inB (aI σ v0R 5) (aN σ (aR σ v0R 4))) <| letT (sI σ (aR σ v0R 4) (aI σ v0R 5).toNatClampNeg v1I) fun σ4 => letT (sI σ4 v0R 5 ((aI σ4 v0R 5) + (1 : Int32))) fun σ6 => gdT (okO σ6 (aR σ6 v0R 0) 3) <| bndT (M_Ls_share (aR σ6 v0R 0) v1I σ6) fun r9 σ10 => gdT (okO σ10 v0R 5) <| letT (sI σ10 v0R 6 ((aI σ6 v0R 6) + r9)) fun σ12 => letT (sL σ12 v0R 7 ((aL σ12 v0R 7) ||| v2J)) fun σ14 => letT (sL σ14 v0R 8 ((aL σ14 v0R 8) &&& v2J)) fun σ16 => .inr (some ((), σ16))
noncomputable def F_Rs_keep : S_Rs_keep → S_Rs_keep ⊕ Option (Unit × AM) := fun s => match s.1 with
  | _ => T_Rs_keep_0 (s.2.1) (s.2.2.1) (s.2.2.2.1) (s.2.2.2.2)
noncomputable def L_Rs_keep_0 (v0R : Nat) (v1I : Int32) (v2J : Int64) (σ : AM) : Option (Unit × AM) := lp F_Rs_keep (0, v0R, v1I, v2J, σ)
set_option maxRecDepth 20000 in
theorem E_Rs_keep_0 (v0R : Nat) (v1I : Int32) (v2J : Int64) (σ : AM) : L_Rs_keep_0 v0R v1I v2J σ = (gd (okO σ v0R 5) <| gd (okO σ (aR σ v0R 4) 101) <| gd (inB (aI σ v0R 5) (aN σ (aR σ v0R 4))) <| letT (sI σ (aR σ v0R 4) (aI σ v0R 5).toNatClampNeg v1I) fun σ4 => letT (sI σ4 v0R 5 ((aI σ4 v0R 5) + (1 : Int32))) fun σ6 => gd (okO σ6 (aR σ6 v0R 0) 3) <| bnd (M_Ls_share (aR σ6 v0R 0) v1I σ6) fun r9 σ10 => gd (okO σ10 v0R 5) <| letT (sI σ10 v0R 6 ((aI σ6 v0R 6) + r9)) fun σ12 => letT (sL σ12 v0R 7 ((aL σ12 v0R 7) ||| v2J)) fun σ14 => letT (sL σ14 v0R 8 ((aL σ14 v0R 8) &&& v2J)) fun σ16 => (some ((), σ16))) := by
  unfold L_Rs_keep_0
  rw [lp_eq]
  show lpK (lp F_Rs_keep) (T_Rs_keep_0 v0R v1I v2J σ) = _
  unfold T_Rs_keep_0
  simp only [lpK_ite, lq_inl, lq_inr, lpK_bnd, lpK_gd, lq_let]
  try rfl
noncomputable def M_Rs_keep (v0R : Nat) (v1I : Int32) (v2J : Int64) (σ : AM) : Option (Unit × AM) := mw σ (L_Rs_keep_0 v0R v1I v2J σ)
def I_Rs_keep (G : GX) (p : Program) (l : Launch) (e : Env) (s : State) (m : MethodId) (args : Array Value) (below : List Frame) (meth : Method) (c : Code) (z0 u0 n : Nat) : Prop :=
  (∀ (v0R : Nat) (v1I : Int32) (v2J : Int64) (σ : AM), VX (QM eV G args s below z0 u0) G p l e s m args below meth c 1 z0 u0 4 (lpn F_Rs_keep n (0, v0R, v1I, v2J, σ)) 0 [(0, .ref v0R), (1, .int v1I), (2, .long v2J)] [] σ)
set_option maxRecDepth 20000 in
theorem s_Rs_keep_0 {G : GX} {p : Program} {l : Launch} {e : Env} {s : State} {m : MethodId} {args : Array Value} {below : List Frame} {meth : Method} {c : Code} {z0 u0 n : Nat} (C : Cx G p s m args meth c prog_10_method_3_code 4 "BellPlate$Rest" ((none))) (IH : I_Rs_keep G p l e s m args below meth c z0 u0 n) (v0R : Nat) (v1I : Int32) (v2J : Int64) (σ : AM) : VX (QM eV G args s below z0 u0) G p l e s m args below meth c 1 z0 u0 4 (lpK (lpn F_Rs_keep n) (T_Rs_keep_0 v0R v1I v2J σ)) 0 [(0, .ref v0R), (1, .int v1I), (2, .long v2J)] [] σ := by
  unfold T_Rs_keep_0
  refine x_aload_n C d_Rs_keep_0 0 rfl ?_
  refine x_gd (fun h1 => ?_)
  refine x_gd (fun h2 => ?_)
  refine x_getR (k := 4) (kv := 101) C (okO_iff.mp h1) rfl j4_ok (by decide) rfl (okO_iff.mp h2) (by decide) w343 d_Rs_keep_1 ?_
  refine x_aload_n C d_Rs_keep_4 0 rfl ?_
  refine x_getI (k := 5) C (okO_iff.mp h1) rfl j4_ok (by decide) rfl w344 d_Rs_keep_5 ?_
  refine x_iload_n C d_Rs_keep_8 1 rfl ?_
  refine x_gd (fun h3 => ?_)
  refine x_astI C (okO_iff.mp h2) (inB_iff.mp h3) d_Rs_keep_9 ?_
  refine x_letS (fun σ4 e5 => ?_)
  refine x_aload_n C d_Rs_keep_10 0 rfl ?_
  refine x_dup C d_Rs_keep_11 rfl ?_
  refine x_getI (k := 5) C (by first | exact (okO_iff.mp h1) | (rw [e5]; exact (okO_iff.mp h1))) rfl j4_ok (by decide) rfl w344 d_Rs_keep_12 ?_
  refine x_iconst (v := (1 : Int32)) C d_Rs_keep_15 (by decide) ?_
  refine x_iadd C d_Rs_keep_16 ?_
  refine x_putI (k := 5) C (by first | exact (okO_iff.mp h1) | (rw [e5]; exact (okO_iff.mp h1))) rfl j4_ok y4_ok n4_ok (by decide) rfl rfl rfl rfl w344 d_Rs_keep_17 ?_
  refine x_letS (fun σ6 e7 => ?_)
  refine x_aload_n C d_Rs_keep_20 0 rfl ?_
  refine x_dup C d_Rs_keep_21 rfl ?_
  refine x_getI (k := 6) C (by first | exact (okO_iff.mp h1) | (rw [e7, e5]; exact (okO_iff.mp h1))) rfl j4_ok (by decide) rfl w345 d_Rs_keep_22 ?_
  refine x_aload_n C d_Rs_keep_25 0 rfl ?_
  refine x_gd (fun h8 => ?_)
  refine x_getR (k := 0) (kv := 3) C (by first | exact (okO_iff.mp h1) | (rw [e7, e5]; exact (okO_iff.mp h1))) rfl j4_ok (by decide) rfl (okO_iff.mp h8) (by decide) w339 d_Rs_keep_26 ?_
  refine x_iload_n C d_Rs_keep_29 1 rfl ?_
  refine x_callVI (As := [.int v1I]) C (c_Ls_share G l (aR σ6 v0R 0) v1I σ6) (okO_iff.mp h8) rfl w1076 w1077 w1075 w1078 w123 k_Ls_share rfl (by decide) (by decide) rfl (Nat.le_of_ble_eq_true rfl) d_Rs_keep_30 (fun r9 σ10 => ?_)
  refine x_iadd C d_Rs_keep_33 ?_
  refine x_gd (fun h11 => ?_)
  refine x_putI (k := 6) C (okO_iff.mp h11) rfl j4_ok y4_ok n4_ok (by decide) rfl rfl rfl rfl w345 d_Rs_keep_34 ?_
  refine x_letS (fun σ12 e13 => ?_)
  refine x_aload_n C d_Rs_keep_37 0 rfl ?_
  refine x_dup C d_Rs_keep_38 rfl ?_
  refine x_getJ (k := 7) C (by first | exact (okO_iff.mp h11) | (rw [e13]; exact (okO_iff.mp h11))) rfl j4_ok (by decide) rfl w346 d_Rs_keep_39 ?_
  refine x_lload_n C d_Rs_keep_42 2 rfl ?_
  refine x_lor C d_Rs_keep_43 ?_
  refine x_putJ (k := 7) C (by first | exact (okO_iff.mp h11) | (rw [e13]; exact (okO_iff.mp h11))) rfl j4_ok y4_ok n4_ok (by decide) rfl rfl rfl rfl w346 d_Rs_keep_44 ?_
  refine x_letS (fun σ14 e15 => ?_)
  refine x_aload_n C d_Rs_keep_47 0 rfl ?_
  refine x_dup C d_Rs_keep_48 rfl ?_
  refine x_getJ (k := 8) C (by first | exact (okO_iff.mp h11) | (rw [e15, e13]; exact (okO_iff.mp h11))) rfl j4_ok (by decide) rfl w347 d_Rs_keep_49 ?_
  refine x_lload_n C d_Rs_keep_52 2 rfl ?_
  refine x_land C d_Rs_keep_53 ?_
  refine x_putJ (k := 8) C (by first | exact (okO_iff.mp h11) | (rw [e15, e13]; exact (okO_iff.mp h11))) rfl j4_ok y4_ok n4_ok (by decide) rfl rfl rfl rfl w347 d_Rs_keep_54 ?_
  refine x_letS (fun σ16 e17 => ?_)
  exact x_vret C d_Rs_keep_57
theorem i_Rs_keep {G : GX} {p : Program} {l : Launch} {e : Env} {s : State} {m : MethodId} {args : Array Value} {below : List Frame} {meth : Method} {c : Code} {z0 u0 : Nat} (C : Cx G p s m args meth c prog_10_method_3_code 4 "BellPlate$Rest" ((none))) (n : Nat) : I_Rs_keep G p l e s m args below meth c z0 u0 n := by
  induction n with
  | zero => exact fun _ _ _ _ => x_none
  | succ n IH => exact fun v0R v1I v2J σ => s_Rs_keep_0 C IH v0R v1I v2J σ
theorem c_Rs_keep (G : GX) (l : Launch) (v0R : Nat) (v1I : Int32) (v2J : Int64) (σ : AM) : CT eV G l 1 y_Rs_keep prog_10_method_3_code 4 (none) [.ref v0R, .int v1I, .long v2J] σ (M_Rs_keep v0R v1I v2J σ) := by
  refine ct_of (by decide +kernel) (Nat.le_of_ble_eq_true rfl) (fun p e s m args below meth c C hin => ?_)
  refine x_lve (lv' := [(0, .ref v0R), (1, .int v1I), (2, .long v2J)]) rfl ?_
  intro r σ' h
  obtain ⟨n, hn⟩ := (lp_iff _ _ _).mp h
  exact (i_Rs_keep C n) v0R v1I v2J σ r σ' hn
/-! BellPlate$Rest.refresh()V -/
abbrev y_Rs_refresh : MethodName := ⟨"BellPlate$Rest", "refresh", "()V"⟩
theorem k_Rs_refresh : y_Rs_refresh.cls ≠ "java/lang/invoke/MethodHandle" ∧ y_Rs_refresh.cls ≠ "java/lang/invoke/VarHandle" ∧ (parseMethodDescriptor y_Rs_refresh.desc).map (fun d => d.parameters.length) = some 0 := by decide +kernel
theorem d_Rs_refresh_0 : decode prog_10_method_2_code 0 = .ok (.aload_n 0, 1) := by decide +kernel
theorem d_Rs_refresh_1 : decode prog_10_method_2_code 1 = .ok (.getfield 32, 3) := by decide +kernel
theorem d_Rs_refresh_4 : decode prog_10_method_2_code 4 = .ok (.aload_n 0, 1) := by decide +kernel
theorem d_Rs_refresh_5 : decode prog_10_method_2_code 5 = .ok (.getfield 15, 3) := by decide +kernel
theorem d_Rs_refresh_8 : decode prog_10_method_2_code 8 = .ok (.invokevirtual 36, 3) := by decide +kernel
theorem d_Rs_refresh_11 : decode prog_10_method_2_code 11 = .ok (.if_icmp .ne 4, 3) := by decide +kernel
theorem d_Rs_refresh_14 : decode prog_10_method_2_code 14 = .ok (.return_, 1) := by decide +kernel
theorem d_Rs_refresh_15 : decode prog_10_method_2_code 15 = .ok (.aload_n 0, 1) := by decide +kernel
theorem d_Rs_refresh_16 : decode prog_10_method_2_code 16 = .ok (.aload_n 0, 1) := by decide +kernel
theorem d_Rs_refresh_17 : decode prog_10_method_2_code 17 = .ok (.getfield 15, 3) := by decide +kernel
theorem d_Rs_refresh_20 : decode prog_10_method_2_code 20 = .ok (.invokevirtual 36, 3) := by decide +kernel
theorem d_Rs_refresh_23 : decode prog_10_method_2_code 23 = .ok (.putfield 32, 3) := by decide +kernel
theorem d_Rs_refresh_26 : decode prog_10_method_2_code 26 = .ok (.aload_n 0, 1) := by decide +kernel
theorem d_Rs_refresh_27 : decode prog_10_method_2_code 27 = .ok (.getfield 9, 3) := by decide +kernel
theorem d_Rs_refresh_30 : decode prog_10_method_2_code 30 = .ok (.invokevirtual 41, 3) := by decide +kernel
theorem d_Rs_refresh_33 : decode prog_10_method_2_code 33 = .ok (.aload_n 0, 1) := by decide +kernel
theorem d_Rs_refresh_34 : decode prog_10_method_2_code 34 = .ok (.getfield 29, 3) := by decide +kernel
theorem d_Rs_refresh_37 : decode prog_10_method_2_code 37 = .ok (.arraylength, 1) := by decide +kernel
theorem d_Rs_refresh_38 : decode prog_10_method_2_code 38 = .ok (.if_icmp .le 29, 3) := by decide +kernel
theorem d_Rs_refresh_41 : decode prog_10_method_2_code 41 = .ok (.aload_n 0, 1) := by decide +kernel
theorem d_Rs_refresh_42 : decode prog_10_method_2_code 42 = .ok (.aload_n 0, 1) := by decide +kernel
theorem d_Rs_refresh_43 : decode prog_10_method_2_code 43 = .ok (.getfield 9, 3) := by decide +kernel
theorem d_Rs_refresh_46 : decode prog_10_method_2_code 46 = .ok (.invokevirtual 41, 3) := by decide +kernel
theorem d_Rs_refresh_49 : decode prog_10_method_2_code 49 = .ok (.newarray .int, 2) := by decide +kernel
theorem d_Rs_refresh_51 : decode prog_10_method_2_code 51 = .ok (.putfield 29, 3) := by decide +kernel
theorem d_Rs_refresh_54 : decode prog_10_method_2_code 54 = .ok (.aload_n 0, 1) := by decide +kernel
theorem d_Rs_refresh_55 : decode prog_10_method_2_code 55 = .ok (.aload_n 0, 1) := by decide +kernel
theorem d_Rs_refresh_56 : decode prog_10_method_2_code 56 = .ok (.getfield 9, 3) := by decide +kernel
theorem d_Rs_refresh_59 : decode prog_10_method_2_code 59 = .ok (.invokevirtual 41, 3) := by decide +kernel
theorem d_Rs_refresh_62 : decode prog_10_method_2_code 62 = .ok (.newarray .boolean, 2) := by decide +kernel
theorem d_Rs_refresh_64 : decode prog_10_method_2_code 64 = .ok (.putfield 25, 3) := by decide +kernel
theorem d_Rs_refresh_67 : decode prog_10_method_2_code 67 = .ok (.aload_n 0, 1) := by decide +kernel
theorem d_Rs_refresh_68 : decode prog_10_method_2_code 68 = .ok (.getfield 15, 3) := by decide +kernel
theorem d_Rs_refresh_71 : decode prog_10_method_2_code 71 = .ok (.iconst 1, 1) := by decide +kernel
theorem d_Rs_refresh_72 : decode prog_10_method_2_code 72 = .ok (.iconst 0, 1) := by decide +kernel
theorem d_Rs_refresh_73 : decode prog_10_method_2_code 73 = .ok (.invokevirtual 46, 3) := by decide +kernel
theorem d_Rs_refresh_76 : decode prog_10_method_2_code 76 = .ok (.lstore_n 1, 1) := by decide +kernel
theorem d_Rs_refresh_77 : decode prog_10_method_2_code 77 = .ok (.aload_n 0, 1) := by decide +kernel
theorem d_Rs_refresh_78 : decode prog_10_method_2_code 78 = .ok (.getfield 15, 3) := by decide +kernel
theorem d_Rs_refresh_81 : decode prog_10_method_2_code 81 = .ok (.iconst 0, 1) := by decide +kernel
theorem d_Rs_refresh_82 : decode prog_10_method_2_code 82 = .ok (.iconst 0, 1) := by decide +kernel
theorem d_Rs_refresh_83 : decode prog_10_method_2_code 83 = .ok (.invokevirtual 46, 3) := by decide +kernel
theorem d_Rs_refresh_86 : decode prog_10_method_2_code 86 = .ok (.lstore_n 3, 1) := by decide +kernel
theorem d_Rs_refresh_87 : decode prog_10_method_2_code 87 = .ok (.aload_n 0, 1) := by decide +kernel
theorem d_Rs_refresh_88 : decode prog_10_method_2_code 88 = .ok (.iconst 0, 1) := by decide +kernel
theorem d_Rs_refresh_89 : decode prog_10_method_2_code 89 = .ok (.putfield 50, 3) := by decide +kernel
theorem d_Rs_refresh_92 : decode prog_10_method_2_code 92 = .ok (.aload_n 0, 1) := by decide +kernel
theorem d_Rs_refresh_93 : decode prog_10_method_2_code 93 = .ok (.iconst 0, 1) := by decide +kernel
theorem d_Rs_refresh_94 : decode prog_10_method_2_code 94 = .ok (.putfield 53, 3) := by decide +kernel
theorem d_Rs_refresh_97 : decode prog_10_method_2_code 97 = .ok (.aload_n 0, 1) := by decide +kernel
theorem d_Rs_refresh_98 : decode prog_10_method_2_code 98 = .ok (.lconst 0, 1) := by decide +kernel
theorem d_Rs_refresh_99 : decode prog_10_method_2_code 99 = .ok (.putfield 56, 3) := by decide +kernel
theorem d_Rs_refresh_102 : decode prog_10_method_2_code 102 = .ok (.aload_n 0, 1) := by decide +kernel
theorem d_Rs_refresh_103 : decode prog_10_method_2_code 103 = .ok (.ldc2_w 60, 3) := by decide +kernel
theorem d_Rs_refresh_106 : decode prog_10_method_2_code 106 = .ok (.putfield 62, 3) := by decide +kernel
theorem d_Rs_refresh_109 : decode prog_10_method_2_code 109 = .ok (.iconst 0, 1) := by decide +kernel
theorem d_Rs_refresh_110 : decode prog_10_method_2_code 110 = .ok (.istore 5, 2) := by decide +kernel
theorem d_Rs_refresh_112 : decode prog_10_method_2_code 112 = .ok (.iload 5, 2) := by decide +kernel
theorem d_Rs_refresh_114 : decode prog_10_method_2_code 114 = .ok (.aload_n 0, 1) := by decide +kernel
theorem d_Rs_refresh_115 : decode prog_10_method_2_code 115 = .ok (.getfield 9, 3) := by decide +kernel
theorem d_Rs_refresh_118 : decode prog_10_method_2_code 118 = .ok (.invokevirtual 65, 3) := by decide +kernel
theorem d_Rs_refresh_121 : decode prog_10_method_2_code 121 = .ok (.if_icmp .ge 84, 3) := by decide +kernel
theorem d_Rs_refresh_124 : decode prog_10_method_2_code 124 = .ok (.aload_n 0, 1) := by decide +kernel
theorem d_Rs_refresh_125 : decode prog_10_method_2_code 125 = .ok (.getfield 9, 3) := by decide +kernel
theorem d_Rs_refresh_128 : decode prog_10_method_2_code 128 = .ok (.iload 5, 2) := by decide +kernel
theorem d_Rs_refresh_130 : decode prog_10_method_2_code 130 = .ok (.invokevirtual 67, 3) := by decide +kernel
theorem d_Rs_refresh_133 : decode prog_10_method_2_code 133 = .ok (.lstore 6, 2) := by decide +kernel
theorem d_Rs_refresh_135 : decode prog_10_method_2_code 135 = .ok (.aload_n 0, 1) := by decide +kernel
theorem d_Rs_refresh_136 : decode prog_10_method_2_code 136 = .ok (.getfield 25, 3) := by decide +kernel
theorem d_Rs_refresh_139 : decode prog_10_method_2_code 139 = .ok (.iload 5, 2) := by decide +kernel
theorem d_Rs_refresh_141 : decode prog_10_method_2_code 141 = .ok (.lload 6, 2) := by decide +kernel
theorem d_Rs_refresh_143 : decode prog_10_method_2_code 143 = .ok (.lload_n 3, 1) := by decide +kernel
theorem d_Rs_refresh_144 : decode prog_10_method_2_code 144 = .ok (.land, 1) := by decide +kernel
theorem d_Rs_refresh_145 : decode prog_10_method_2_code 145 = .ok (.lconst 0, 1) := by decide +kernel
theorem d_Rs_refresh_146 : decode prog_10_method_2_code 146 = .ok (.lcmp, 1) := by decide +kernel
theorem d_Rs_refresh_147 : decode prog_10_method_2_code 147 = .ok (.ifCond .ne 32, 3) := by decide +kernel
theorem d_Rs_refresh_150 : decode prog_10_method_2_code 150 = .ok (.lload 6, 2) := by decide +kernel
theorem d_Rs_refresh_152 : decode prog_10_method_2_code 152 = .ok (.ldc2_w 60, 3) := by decide +kernel
theorem d_Rs_refresh_155 : decode prog_10_method_2_code 155 = .ok (.lxor, 1) := by decide +kernel
theorem d_Rs_refresh_156 : decode prog_10_method_2_code 156 = .ok (.lload_n 1, 1) := by decide +kernel
theorem d_Rs_refresh_157 : decode prog_10_method_2_code 157 = .ok (.land, 1) := by decide +kernel
theorem d_Rs_refresh_158 : decode prog_10_method_2_code 158 = .ok (.lconst 0, 1) := by decide +kernel
theorem d_Rs_refresh_159 : decode prog_10_method_2_code 159 = .ok (.lcmp, 1) := by decide +kernel
theorem d_Rs_refresh_160 : decode prog_10_method_2_code 160 = .ok (.ifCond .ne 19, 3) := by decide +kernel
theorem d_Rs_refresh_163 : decode prog_10_method_2_code 163 = .ok (.aload_n 0, 1) := by decide +kernel
theorem d_Rs_refresh_164 : decode prog_10_method_2_code 164 = .ok (.getfield 15, 3) := by decide +kernel
theorem d_Rs_refresh_167 : decode prog_10_method_2_code 167 = .ok (.lload 6, 2) := by decide +kernel
theorem d_Rs_refresh_169 : decode prog_10_method_2_code 169 = .ok (.invokevirtual 71, 3) := by decide +kernel
theorem d_Rs_refresh_172 : decode prog_10_method_2_code 172 = .ok (.ifCond .eq 7, 3) := by decide +kernel
theorem d_Rs_refresh_175 : decode prog_10_method_2_code 175 = .ok (.iconst 1, 1) := by decide +kernel
theorem d_Rs_refresh_176 : decode prog_10_method_2_code 176 = .ok (.goto 4, 3) := by decide +kernel
theorem d_Rs_refresh_179 : decode prog_10_method_2_code 179 = .ok (.iconst 0, 1) := by decide +kernel
theorem d_Rs_refresh_180 : decode prog_10_method_2_code 180 = .ok (.bastore, 1) := by decide +kernel
theorem d_Rs_refresh_181 : decode prog_10_method_2_code 181 = .ok (.aload_n 0, 1) := by decide +kernel
theorem d_Rs_refresh_182 : decode prog_10_method_2_code 182 = .ok (.getfield 25, 3) := by decide +kernel
theorem d_Rs_refresh_185 : decode prog_10_method_2_code 185 = .ok (.iload 5, 2) := by decide +kernel
theorem d_Rs_refresh_187 : decode prog_10_method_2_code 187 = .ok (.baload, 1) := by decide +kernel
theorem d_Rs_refresh_188 : decode prog_10_method_2_code 188 = .ok (.ifCond .eq 11, 3) := by decide +kernel
theorem d_Rs_refresh_191 : decode prog_10_method_2_code 191 = .ok (.aload_n 0, 1) := by decide +kernel
theorem d_Rs_refresh_192 : decode prog_10_method_2_code 192 = .ok (.iload 5, 2) := by decide +kernel
theorem d_Rs_refresh_194 : decode prog_10_method_2_code 194 = .ok (.lload 6, 2) := by decide +kernel
theorem d_Rs_refresh_196 : decode prog_10_method_2_code 196 = .ok (.invokevirtual 75, 3) := by decide +kernel
theorem d_Rs_refresh_199 : decode prog_10_method_2_code 199 = .ok (.iinc 5 1, 3) := by decide +kernel
theorem d_Rs_refresh_202 : decode prog_10_method_2_code 202 = .ok (.goto (-90), 3) := by decide +kernel
theorem d_Rs_refresh_205 : decode prog_10_method_2_code 205 = .ok (.return_, 1) := by decide +kernel
abbrev S_Rs_refresh : Type := Nat × Nat × Int64 × Int64 × Int32 × Int64 × Nat × Int32 × Int32 × AM
noncomputable def T_Rs_refresh_0 (v0R : Nat) (σ : AM) : S_Rs_refresh ⊕ Option (Unit × AM) :=
  gdT (okO σ v0R 5) <| gdT (okO σ (aR σ v0R 1) 4) <| bndT (M_Bk_age (aR σ v0R 1) σ) fun r3 σ4 => if (aI σ v0R 9) = r3 then (.inr (some ((), σ4))) else (gdT (okO σ4 v0R 5) <| gdT (okO σ4 (aR σ4 v0R 1) 4) <| bndT (M_Bk_age (aR σ4 v0R 1) σ4) fun r7 σ8 => gdT (okO σ8 v0R 5) <| letT (sI σ8 v0R 9 r7) fun σ10 => gdT (okO σ10 (aR σ10 v0R 0) 3) <| bndT (M_Ls_room (aR σ10 v0R 0) σ10) fun r13 σ14 => gdT (okO σ14 v0R 5) <| gdT (okO σ14 (aR σ14 v0R 4) 101) <| if (nI (aN σ14 (aR σ14 v0R 4))) < r13 then (gdT (okO σ14 (aR σ14 v0R 0) 3) <| bndT (M_Ls_room (aR σ14 v0R 0) σ14) fun r18 σ19 => gdT (okN r18) <| letT (nw σ19 101 r18.toNatClampNeg) fun σ20 => gdT (okO σ20 v0R 5) <| letT (sR σ20 v0R 4 (aZ σ19)) fun σ24 => gdT (okO σ24 (aR σ24 v0R 0) 3) <| bndT (M_Ls_room (aR σ24 v0R 0) σ24) fun r27 σ28 => gdT (okN r27) <| letT (nw σ28 103 r27.toNatClampNeg) fun σ29 => gdT (okO σ29 v0R 5) <| letT (sR σ29 v0R 3 (aZ σ28)) fun σ33 => .inl (1, v0R, 0, 0, 0, 0, 0, 0, 0, σ33)) else (.inl (1, v0R, 0, 0, 0, 0, 0, 0, 0, σ14)))
noncomputable def T_Rs_refresh_1 (v0R : Nat) (σ : AM) : S_Rs_refresh ⊕ Option (Unit × AM) :=
  gdT (okO σ v0R 5) <| gdT (okO σ (aR σ v0R 1) 4) <| bndT (M_Bk_setsTold (aR σ v0R 1) (1 : Int32) (0 : Int32) σ) fun r3 σ4 => gdT (okO σ4 v0R 5) <| gdT (okO σ4 (aR σ4 v0R 1) 4) <| bndT (M_Bk_setsTold (aR σ4 v0R 1) (0 : Int32) (0 : Int32) σ4) fun r7 σ8 => gdT (okO σ8 v0R 5) <| letT (sI σ8 v0R 5 (0 : Int32)) fun σ10 => letT (sI σ10 v0R 6 (0 : Int32)) fun σ12 => letT (sL σ12 v0R 7 (0 : Int64)) fun σ14 => letT (sL σ14 v0R 8 ((-1) : Int64)) fun σ16 => .inl (2, v0R, r3, r7, (0 : Int32), 0, 0, 0, 0, σ16)
noncomputable def T_Rs_refresh_2 (v0R : Nat) (v1J : Int64) (v3J : Int64) (v5I : Int32) (σ : AM) : S_Rs_refresh ⊕ Option (Unit × AM) :=
  gdT (okO σ v0R 5) <| gdT (okO σ (aR σ v0R 0) 3) <| bndT (M_Ls_size (aR σ v0R 0) σ) fun r3 σ4 => if v5I < r3 then (gdT (okO σ4 v0R 5) <| gdT (okO σ4 (aR σ4 v0R 0) 3) <| bndT (M_Ls_at (aR σ4 v0R 0) v5I σ4) fun r7 σ8 => gdT (okO σ8 v0R 5) <| gdT (okO σ8 (aR σ8 v0R 3) 103) <| if (lg_cmp (r7 &&& v3J) (0 : Int64)) = 0 then (if (lg_cmp ((r7 ^^^ ((-1) : Int64)) &&& v1J) (0 : Int64)) = 0 then (gdT (okO σ8 (aR σ8 v0R 1) 4) <| bndT (M_Bk_hintsHold (aR σ8 v0R 1) r7 σ8) fun r12 σ13 => if r12 = 0 then (.inl (3, v0R, v1J, v3J, v5I, r7, aR σ8 v0R 3, v5I, 0, σ13)) else (.inl (4, v0R, v1J, v3J, v5I, r7, aR σ8 v0R 3, v5I, (1 : Int32), σ13))) else (.inl (3, v0R, v1J, v3J, v5I, r7, aR σ8 v0R 3, v5I, 0, σ8))) else (.inl (3, v0R, v1J, v3J, v5I, r7, aR σ8 v0R 3, v5I, 0, σ8))) else (.inr (some ((), σ4)))
noncomputable def T_Rs_refresh_3 (v0R : Nat) (v1J : Int64) (v3J : Int64) (v5I : Int32) (v6J : Int64) (s0R : Nat) (s1I : Int32) (σ : AM) : S_Rs_refresh ⊕ Option (Unit × AM) :=
  .inl (4, v0R, v1J, v3J, v5I, v6J, s0R, s1I, (0 : Int32), σ)
noncomputable def T_Rs_refresh_4 (v0R : Nat) (v1J : Int64) (v3J : Int64) (v5I : Int32) (v6J : Int64) (s0R : Nat) (s1I : Int32) (s2I : Int32) (σ : AM) : S_Rs_refresh ⊕ Option (Unit × AM) :=
  gdT (okO σ s0R 103) <| gdT (inB s1I (aN σ s0R)) <| letT (sI σ s0R s1I.toNatClampNeg (vp_nar .boolean s2I)) fun σ3 => gdT (okO σ3 v0R 5) <| gdT (okO σ3 (aR σ3 v0R 3) 103) <| gdT (inB v5I (aN σ3 (aR σ3 v0R 3))) <| if (aI σ3 (aR σ3 v0R 3) v5I.toNatClampNeg) = 0 then (.inl (5, v0R, v1J, v3J, v5I, 0, 0, 0, 0, σ3)) else (bndT (M_Rs_keep v0R v5I v6J σ3) fun _ σ9 => .inl (5, v0R, v1J, v3J, v5I, 0, 0, 0, 0, σ9))
noncomputable def T_Rs_refresh_5 (v0R : Nat) (v1J : Int64) (v3J : Int64) (v5I : Int32) (σ : AM) : S_Rs_refresh ⊕ Option (Unit × AM) :=
  .inl (2, v0R, v1J, v3J, v5I + (1 : Int32), 0, 0, 0, 0, σ)
noncomputable def F_Rs_refresh : S_Rs_refresh → S_Rs_refresh ⊕ Option (Unit × AM) := fun s => match s.1 with
  | 0 => T_Rs_refresh_0 (s.2.1) (s.2.2.2.2.2.2.2.2.2)
  | 1 => T_Rs_refresh_1 (s.2.1) (s.2.2.2.2.2.2.2.2.2)
  | 2 => T_Rs_refresh_2 (s.2.1) (s.2.2.1) (s.2.2.2.1) (s.2.2.2.2.1) (s.2.2.2.2.2.2.2.2.2)
  | 3 => T_Rs_refresh_3 (s.2.1) (s.2.2.1) (s.2.2.2.1) (s.2.2.2.2.1) (s.2.2.2.2.2.1) (s.2.2.2.2.2.2.1) (s.2.2.2.2.2.2.2.1) (s.2.2.2.2.2.2.2.2.2)
  | 4 => T_Rs_refresh_4 (s.2.1) (s.2.2.1) (s.2.2.2.1) (s.2.2.2.2.1) (s.2.2.2.2.2.1) (s.2.2.2.2.2.2.1) (s.2.2.2.2.2.2.2.1) (s.2.2.2.2.2.2.2.2.1) (s.2.2.2.2.2.2.2.2.2)
  | _ => T_Rs_refresh_5 (s.2.1) (s.2.2.1) (s.2.2.2.1) (s.2.2.2.2.1) (s.2.2.2.2.2.2.2.2.2)
noncomputable def L_Rs_refresh_0 (v0R : Nat) (σ : AM) : Option (Unit × AM) := lp F_Rs_refresh (0, v0R, 0, 0, 0, 0, 0, 0, 0, σ)
noncomputable def L_Rs_refresh_1 (v0R : Nat) (σ : AM) : Option (Unit × AM) := lp F_Rs_refresh (1, v0R, 0, 0, 0, 0, 0, 0, 0, σ)
noncomputable def L_Rs_refresh_2 (v0R : Nat) (v1J : Int64) (v3J : Int64) (v5I : Int32) (σ : AM) : Option (Unit × AM) := lp F_Rs_refresh (2, v0R, v1J, v3J, v5I, 0, 0, 0, 0, σ)
noncomputable def L_Rs_refresh_3 (v0R : Nat) (v1J : Int64) (v3J : Int64) (v5I : Int32) (v6J : Int64) (s0R : Nat) (s1I : Int32) (σ : AM) : Option (Unit × AM) := lp F_Rs_refresh (3, v0R, v1J, v3J, v5I, v6J, s0R, s1I, 0, σ)
noncomputable def L_Rs_refresh_4 (v0R : Nat) (v1J : Int64) (v3J : Int64) (v5I : Int32) (v6J : Int64) (s0R : Nat) (s1I : Int32) (s2I : Int32) (σ : AM) : Option (Unit × AM) := lp F_Rs_refresh (4, v0R, v1J, v3J, v5I, v6J, s0R, s1I, s2I, σ)
noncomputable def L_Rs_refresh_5 (v0R : Nat) (v1J : Int64) (v3J : Int64) (v5I : Int32) (σ : AM) : Option (Unit × AM) := lp F_Rs_refresh (5, v0R, v1J, v3J, v5I, 0, 0, 0, 0, σ)
set_option maxRecDepth 20000 in
theorem E_Rs_refresh_0 (v0R : Nat) (σ : AM) : L_Rs_refresh_0 v0R σ = (gd (okO σ v0R 5) <| gd (okO σ (aR σ v0R 1) 4) <| bnd (M_Bk_age (aR σ v0R 1) σ) fun r3 σ4 => if (aI σ v0R 9) = r3 then ((some ((), σ4))) else (gd (okO σ4 v0R 5) <| gd (okO σ4 (aR σ4 v0R 1) 4) <| bnd (M_Bk_age (aR σ4 v0R 1) σ4) fun r7 σ8 => gd (okO σ8 v0R 5) <| letT (sI σ8 v0R 9 r7) fun σ10 => gd (okO σ10 (aR σ10 v0R 0) 3) <| bnd (M_Ls_room (aR σ10 v0R 0) σ10) fun r13 σ14 => gd (okO σ14 v0R 5) <| gd (okO σ14 (aR σ14 v0R 4) 101) <| if (nI (aN σ14 (aR σ14 v0R 4))) < r13 then (gd (okO σ14 (aR σ14 v0R 0) 3) <| bnd (M_Ls_room (aR σ14 v0R 0) σ14) fun r18 σ19 => gd (okN r18) <| letT (nw σ19 101 r18.toNatClampNeg) fun σ20 => gd (okO σ20 v0R 5) <| letT (sR σ20 v0R 4 (aZ σ19)) fun σ24 => gd (okO σ24 (aR σ24 v0R 0) 3) <| bnd (M_Ls_room (aR σ24 v0R 0) σ24) fun r27 σ28 => gd (okN r27) <| letT (nw σ28 103 r27.toNatClampNeg) fun σ29 => gd (okO σ29 v0R 5) <| letT (sR σ29 v0R 3 (aZ σ28)) fun σ33 => L_Rs_refresh_1 v0R σ33) else (L_Rs_refresh_1 v0R σ14))) := by
  unfold L_Rs_refresh_0
  rw [lp_eq]
  show lpK (lp F_Rs_refresh) (T_Rs_refresh_0 v0R σ) = _
  unfold T_Rs_refresh_0
  simp only [lpK_ite, lq_inl, lq_inr, lpK_bnd, lpK_gd, lq_let]
  try rfl
set_option maxRecDepth 20000 in
theorem E_Rs_refresh_1 (v0R : Nat) (σ : AM) : L_Rs_refresh_1 v0R σ = (gd (okO σ v0R 5) <| gd (okO σ (aR σ v0R 1) 4) <| bnd (M_Bk_setsTold (aR σ v0R 1) (1 : Int32) (0 : Int32) σ) fun r3 σ4 => gd (okO σ4 v0R 5) <| gd (okO σ4 (aR σ4 v0R 1) 4) <| bnd (M_Bk_setsTold (aR σ4 v0R 1) (0 : Int32) (0 : Int32) σ4) fun r7 σ8 => gd (okO σ8 v0R 5) <| letT (sI σ8 v0R 5 (0 : Int32)) fun σ10 => letT (sI σ10 v0R 6 (0 : Int32)) fun σ12 => letT (sL σ12 v0R 7 (0 : Int64)) fun σ14 => letT (sL σ14 v0R 8 ((-1) : Int64)) fun σ16 => L_Rs_refresh_2 v0R r3 r7 ((0 : Int32)) σ16) := by
  unfold L_Rs_refresh_1
  rw [lp_eq]
  show lpK (lp F_Rs_refresh) (T_Rs_refresh_1 v0R σ) = _
  unfold T_Rs_refresh_1
  simp only [lpK_ite, lq_inl, lq_inr, lpK_bnd, lpK_gd, lq_let]
  try rfl
set_option maxRecDepth 20000 in
theorem E_Rs_refresh_2 (v0R : Nat) (v1J : Int64) (v3J : Int64) (v5I : Int32) (σ : AM) : L_Rs_refresh_2 v0R v1J v3J v5I σ = (gd (okO σ v0R 5) <| gd (okO σ (aR σ v0R 0) 3) <| bnd (M_Ls_size (aR σ v0R 0) σ) fun r3 σ4 => if v5I < r3 then (gd (okO σ4 v0R 5) <| gd (okO σ4 (aR σ4 v0R 0) 3) <| bnd (M_Ls_at (aR σ4 v0R 0) v5I σ4) fun r7 σ8 => gd (okO σ8 v0R 5) <| gd (okO σ8 (aR σ8 v0R 3) 103) <| if (lg_cmp (r7 &&& v3J) (0 : Int64)) = 0 then (if (lg_cmp ((r7 ^^^ ((-1) : Int64)) &&& v1J) (0 : Int64)) = 0 then (gd (okO σ8 (aR σ8 v0R 1) 4) <| bnd (M_Bk_hintsHold (aR σ8 v0R 1) r7 σ8) fun r12 σ13 => if r12 = 0 then (L_Rs_refresh_3 v0R v1J v3J v5I r7 (aR σ8 v0R 3) v5I σ13) else (L_Rs_refresh_4 v0R v1J v3J v5I r7 (aR σ8 v0R 3) v5I ((1 : Int32)) σ13)) else (L_Rs_refresh_3 v0R v1J v3J v5I r7 (aR σ8 v0R 3) v5I σ8)) else (L_Rs_refresh_3 v0R v1J v3J v5I r7 (aR σ8 v0R 3) v5I σ8)) else ((some ((), σ4)))) := by
  unfold L_Rs_refresh_2
  rw [lp_eq]
  show lpK (lp F_Rs_refresh) (T_Rs_refresh_2 v0R v1J v3J v5I σ) = _
  unfold T_Rs_refresh_2
  simp only [lpK_ite, lq_inl, lq_inr, lpK_bnd, lpK_gd, lq_let]
  try rfl
set_option maxRecDepth 20000 in
theorem E_Rs_refresh_3 (v0R : Nat) (v1J : Int64) (v3J : Int64) (v5I : Int32) (v6J : Int64) (s0R : Nat) (s1I : Int32) (σ : AM) : L_Rs_refresh_3 v0R v1J v3J v5I v6J s0R s1I σ = (L_Rs_refresh_4 v0R v1J v3J v5I v6J s0R s1I ((0 : Int32)) σ) := by
  unfold L_Rs_refresh_3
  rw [lp_eq]
  show lpK (lp F_Rs_refresh) (T_Rs_refresh_3 v0R v1J v3J v5I v6J s0R s1I σ) = _
  unfold T_Rs_refresh_3
  simp only [lpK_ite, lq_inl, lq_inr, lpK_bnd, lpK_gd, lq_let]
  try rfl
set_option maxRecDepth 20000 in
theorem E_Rs_refresh_4 (v0R : Nat) (v1J : Int64) (v3J : Int64) (v5I : Int32) (v6J : Int64) (s0R : Nat) (s1I : Int32) (s2I : Int32) (σ : AM) : L_Rs_refresh_4 v0R v1J v3J v5I v6J s0R s1I s2I σ = (gd (okO σ s0R 103) <| gd (inB s1I (aN σ s0R)) <| letT (sI σ s0R s1I.toNatClampNeg (vp_nar .boolean s2I)) fun σ3 => gd (okO σ3 v0R 5) <| gd (okO σ3 (aR σ3 v0R 3) 103) <| gd (inB v5I (aN σ3 (aR σ3 v0R 3))) <| if (aI σ3 (aR σ3 v0R 3) v5I.toNatClampNeg) = 0 then (L_Rs_refresh_5 v0R v1J v3J v5I σ3) else (bnd (M_Rs_keep v0R v5I v6J σ3) fun _ σ9 => L_Rs_refresh_5 v0R v1J v3J v5I σ9)) := by
  unfold L_Rs_refresh_4
  rw [lp_eq]
  show lpK (lp F_Rs_refresh) (T_Rs_refresh_4 v0R v1J v3J v5I v6J s0R s1I s2I σ) = _
  unfold T_Rs_refresh_4
  simp only [lpK_ite, lq_inl, lq_inr, lpK_bnd, lpK_gd, lq_let]
  try rfl
set_option maxRecDepth 20000 in
theorem E_Rs_refresh_5 (v0R : Nat) (v1J : Int64) (v3J : Int64) (v5I : Int32) (σ : AM) : L_Rs_refresh_5 v0R v1J v3J v5I σ = (L_Rs_refresh_2 v0R v1J v3J (v5I + (1 : Int32)) σ) := by
  unfold L_Rs_refresh_5
  rw [lp_eq]
  show lpK (lp F_Rs_refresh) (T_Rs_refresh_5 v0R v1J v3J v5I σ) = _
  unfold T_Rs_refresh_5
  simp only [lpK_ite, lq_inl, lq_inr, lpK_bnd, lpK_gd, lq_let]
  try rfl
noncomputable def M_Rs_refresh (v0R : Nat) (σ : AM) : Option (Unit × AM) := mw σ (L_Rs_refresh_0 v0R σ)
def I_Rs_refresh (G : GX) (p : Program) (l : Launch) (e : Env) (s : State) (m : MethodId) (args : Array Value) (below : List Frame) (meth : Method) (c : Code) (z0 u0 n : Nat) : Prop :=
  (∀ (v0R : Nat) (σ : AM), VX (QM eV G args s below z0 u0) G p l e s m args below meth c 2 z0 u0 8 (lpn F_Rs_refresh n (0, v0R, 0, 0, 0, 0, 0, 0, 0, σ)) 0 [(0, .ref v0R)] [] σ) ∧
  (∀ (v0R : Nat) (σ : AM), VX (QM eV G args s below z0 u0) G p l e s m args below meth c 2 z0 u0 8 (lpn F_Rs_refresh n (1, v0R, 0, 0, 0, 0, 0, 0, 0, σ)) 67 [(0, .ref v0R)] [] σ) ∧
  (∀ (v0R : Nat) (v1J : Int64) (v3J : Int64) (v5I : Int32) (σ : AM), VX (QM eV G args s below z0 u0) G p l e s m args below meth c 2 z0 u0 8 (lpn F_Rs_refresh n (2, v0R, v1J, v3J, v5I, 0, 0, 0, 0, σ)) 112 [(0, .ref v0R), (1, .long v1J), (3, .long v3J), (5, .int v5I)] [] σ) ∧
  (∀ (v0R : Nat) (v1J : Int64) (v3J : Int64) (v5I : Int32) (v6J : Int64) (s0R : Nat) (s1I : Int32) (σ : AM), VX (QM eV G args s below z0 u0) G p l e s m args below meth c 2 z0 u0 8 (lpn F_Rs_refresh n (3, v0R, v1J, v3J, v5I, v6J, s0R, s1I, 0, σ)) 179 [(0, .ref v0R), (1, .long v1J), (3, .long v3J), (5, .int v5I), (6, .long v6J)] [.int s1I, .ref s0R] σ) ∧
  (∀ (v0R : Nat) (v1J : Int64) (v3J : Int64) (v5I : Int32) (v6J : Int64) (s0R : Nat) (s1I : Int32) (s2I : Int32) (σ : AM), VX (QM eV G args s below z0 u0) G p l e s m args below meth c 2 z0 u0 8 (lpn F_Rs_refresh n (4, v0R, v1J, v3J, v5I, v6J, s0R, s1I, s2I, σ)) 180 [(0, .ref v0R), (1, .long v1J), (3, .long v3J), (5, .int v5I), (6, .long v6J)] [.int s2I, .int s1I, .ref s0R] σ) ∧
  (∀ (v0R : Nat) (v1J : Int64) (v3J : Int64) (v5I : Int32) (σ : AM), VX (QM eV G args s below z0 u0) G p l e s m args below meth c 2 z0 u0 8 (lpn F_Rs_refresh n (5, v0R, v1J, v3J, v5I, 0, 0, 0, 0, σ)) 199 [(0, .ref v0R), (1, .long v1J), (3, .long v3J), (5, .int v5I)] [] σ)
set_option maxRecDepth 20000 in
theorem s_Rs_refresh_0 {G : GX} {p : Program} {l : Launch} {e : Env} {s : State} {m : MethodId} {args : Array Value} {below : List Frame} {meth : Method} {c : Code} {z0 u0 n : Nat} (C : Cx G p s m args meth c prog_10_method_2_code 8 "BellPlate$Rest" ((none))) (IH : I_Rs_refresh G p l e s m args below meth c z0 u0 n) (v0R : Nat) (σ : AM) : VX (QM eV G args s below z0 u0) G p l e s m args below meth c 2 z0 u0 8 (lpK (lpn F_Rs_refresh n) (T_Rs_refresh_0 v0R σ)) 0 [(0, .ref v0R)] [] σ := by
  unfold T_Rs_refresh_0
  refine x_aload_n C d_Rs_refresh_0 0 rfl ?_
  refine x_gd (fun h1 => ?_)
  refine x_getI (k := 9) C (okO_iff.mp h1) rfl j4_ok (by decide) rfl w348 d_Rs_refresh_1 ?_
  refine x_aload_n C d_Rs_refresh_4 0 rfl ?_
  refine x_gd (fun h2 => ?_)
  refine x_getR (k := 1) (kv := 4) C (okO_iff.mp h1) rfl j4_ok (by decide) rfl (okO_iff.mp h2) (by decide) w340 d_Rs_refresh_5 ?_
  refine x_callVI (As := []) C (c_Bk_age G l (aR σ v0R 1)  σ) (okO_iff.mp h2) rfl w1039 w1040 w1038 w1041 w124 k_Bk_age rfl (by decide) (by decide) rfl (Nat.le_of_ble_eq_true rfl) d_Rs_refresh_8 (fun r3 σ4 => ?_)
  refine x_icmp_ne (tgt := 15) C d_Rs_refresh_11 (by decide) (fun _ => ?_) (fun _ => ?_)
  · exact x_vret C d_Rs_refresh_14
  · refine x_aload_n C d_Rs_refresh_15 0 rfl ?_
    refine x_aload_n C d_Rs_refresh_16 0 rfl ?_
    refine x_gd (fun h5 => ?_)
    refine x_gd (fun h6 => ?_)
    refine x_getR (k := 1) (kv := 4) C (okO_iff.mp h5) rfl j4_ok (by decide) rfl (okO_iff.mp h6) (by decide) w340 d_Rs_refresh_17 ?_
    refine x_callVI (As := []) C (c_Bk_age G l (aR σ4 v0R 1)  σ4) (okO_iff.mp h6) rfl w1039 w1040 w1038 w1041 w124 k_Bk_age rfl (by decide) (by decide) rfl (Nat.le_of_ble_eq_true rfl) d_Rs_refresh_20 (fun r7 σ8 => ?_)
    refine x_gd (fun h9 => ?_)
    refine x_putI (k := 9) C (okO_iff.mp h9) rfl j4_ok y4_ok n4_ok (by decide) rfl rfl rfl rfl w348 d_Rs_refresh_23 ?_
    refine x_letS (fun σ10 e11 => ?_)
    refine x_aload_n C d_Rs_refresh_26 0 rfl ?_
    refine x_gd (fun h12 => ?_)
    refine x_getR (k := 0) (kv := 3) C (by first | exact (okO_iff.mp h9) | (rw [e11]; exact (okO_iff.mp h9))) rfl j4_ok (by decide) rfl (okO_iff.mp h12) (by decide) w339 d_Rs_refresh_27 ?_
    refine x_callVI (As := []) C (c_Ls_room G l (aR σ10 v0R 0)  σ10) (okO_iff.mp h12) rfl w1043 w1044 w1042 w1045 w123 k_Ls_room rfl (by decide) (by decide) rfl (Nat.le_of_ble_eq_true rfl) d_Rs_refresh_30 (fun r13 σ14 => ?_)
    refine x_aload_n C d_Rs_refresh_33 0 rfl ?_
    refine x_gd (fun h15 => ?_)
    refine x_gd (fun h16 => ?_)
    refine x_getR (k := 4) (kv := 101) C (okO_iff.mp h15) rfl j4_ok (by decide) rfl (okO_iff.mp h16) (by decide) w343 d_Rs_refresh_34 ?_
    refine x_alen (t := 0) C (okO_iff.mp h16) (by decide) d_Rs_refresh_37 ?_
    refine x_icmp_le (tgt := 67) C d_Rs_refresh_38 (by decide) (fun _ => ?_) (fun _ => ?_)
    · refine x_aload_n C d_Rs_refresh_41 0 rfl ?_
      refine x_aload_n C d_Rs_refresh_42 0 rfl ?_
      refine x_gd (fun h17 => ?_)
      refine x_getR (k := 0) (kv := 3) C (okO_iff.mp h15) rfl j4_ok (by decide) rfl (okO_iff.mp h17) (by decide) w339 d_Rs_refresh_43 ?_
      refine x_callVI (As := []) C (c_Ls_room G l (aR σ14 v0R 0)  σ14) (okO_iff.mp h17) rfl w1043 w1044 w1042 w1045 w123 k_Ls_room rfl (by decide) (by decide) rfl (Nat.le_of_ble_eq_true rfl) d_Rs_refresh_46 (fun r18 σ19 => ?_)
      refine x_gd (fun h22 => ?_)
      refine x_newaI C w203 (okN_iff.mp h22).1 (okN_iff.mp h22).2 d_Rs_refresh_49 ?_
      refine x_letS (fun σ20 e21 => ?_)
      refine x_gd (fun h23 => ?_)
      refine x_putR (k := 4) (kv := 101) C (okO_iff.mp h23) rfl j4_ok y4_ok n4_ok (by decide) rfl (fr_K e21) (by decide) rfl rfl rfl w343 d_Rs_refresh_51 ?_
      refine x_letS (fun σ24 e25 => ?_)
      refine x_aload_n C d_Rs_refresh_54 0 rfl ?_
      refine x_aload_n C d_Rs_refresh_55 0 rfl ?_
      refine x_gd (fun h26 => ?_)
      refine x_getR (k := 0) (kv := 3) C (by first | exact (okO_iff.mp h23) | (rw [e25]; exact (okO_iff.mp h23))) rfl j4_ok (by decide) rfl (okO_iff.mp h26) (by decide) w339 d_Rs_refresh_56 ?_
      refine x_callVI (As := []) C (c_Ls_room G l (aR σ24 v0R 0)  σ24) (okO_iff.mp h26) rfl w1043 w1044 w1042 w1045 w123 k_Ls_room rfl (by decide) (by decide) rfl (Nat.le_of_ble_eq_true rfl) d_Rs_refresh_59 (fun r27 σ28 => ?_)
      refine x_gd (fun h31 => ?_)
      refine x_newaZ C w332 (okN_iff.mp h31).1 (okN_iff.mp h31).2 d_Rs_refresh_62 ?_
      refine x_letS (fun σ29 e30 => ?_)
      refine x_gd (fun h32 => ?_)
      refine x_putR (k := 3) (kv := 103) C (okO_iff.mp h32) rfl j4_ok y4_ok n4_ok (by decide) rfl (fr_K e30) (by decide) rfl rfl rfl w342 d_Rs_refresh_64 ?_
      refine x_letS (fun σ33 e34 => ?_)
      exact IH.2.1 v0R (σ33)
    · exact IH.2.1 v0R (σ14)
set_option maxRecDepth 20000 in
theorem s_Rs_refresh_1 {G : GX} {p : Program} {l : Launch} {e : Env} {s : State} {m : MethodId} {args : Array Value} {below : List Frame} {meth : Method} {c : Code} {z0 u0 n : Nat} (C : Cx G p s m args meth c prog_10_method_2_code 8 "BellPlate$Rest" ((none))) (IH : I_Rs_refresh G p l e s m args below meth c z0 u0 n) (v0R : Nat) (σ : AM) : VX (QM eV G args s below z0 u0) G p l e s m args below meth c 2 z0 u0 8 (lpK (lpn F_Rs_refresh n) (T_Rs_refresh_1 v0R σ)) 67 [(0, .ref v0R)] [] σ := by
  unfold T_Rs_refresh_1
  refine x_aload_n C d_Rs_refresh_67 0 rfl ?_
  refine x_gd (fun h1 => ?_)
  refine x_gd (fun h2 => ?_)
  refine x_getR (k := 1) (kv := 4) C (okO_iff.mp h1) rfl j4_ok (by decide) rfl (okO_iff.mp h2) (by decide) w340 d_Rs_refresh_68 ?_
  refine x_iconst (v := (1 : Int32)) C d_Rs_refresh_71 (by decide) ?_
  refine x_iconst (v := (0 : Int32)) C d_Rs_refresh_72 (by decide) ?_
  refine x_callVJ (As := [.int (1 : Int32), .int (0 : Int32)]) C (c_Bk_setsTold G l (aR σ v0R 1) (1 : Int32) (0 : Int32) σ) (okO_iff.mp h2) rfl w1047 w1048 w1046 w1049 w124 k_Bk_setsTold rfl (by decide) (by decide) rfl (Nat.le_of_ble_eq_true rfl) d_Rs_refresh_73 (fun r3 σ4 => ?_)
  refine x_lstore_n (lv' := [(1, .long r3), (0, .ref v0R)]) C d_Rs_refresh_76 (by decide) rfl rfl ?_
  refine x_aload_n C d_Rs_refresh_77 1 rfl ?_
  refine x_gd (fun h5 => ?_)
  refine x_gd (fun h6 => ?_)
  refine x_getR (k := 1) (kv := 4) C (okO_iff.mp h5) rfl j4_ok (by decide) rfl (okO_iff.mp h6) (by decide) w340 d_Rs_refresh_78 ?_
  refine x_iconst (v := (0 : Int32)) C d_Rs_refresh_81 (by decide) ?_
  refine x_iconst (v := (0 : Int32)) C d_Rs_refresh_82 (by decide) ?_
  refine x_callVJ (As := [.int (0 : Int32), .int (0 : Int32)]) C (c_Bk_setsTold G l (aR σ4 v0R 1) (0 : Int32) (0 : Int32) σ4) (okO_iff.mp h6) rfl w1047 w1048 w1046 w1049 w124 k_Bk_setsTold rfl (by decide) (by decide) rfl (Nat.le_of_ble_eq_true rfl) d_Rs_refresh_83 (fun r7 σ8 => ?_)
  refine x_lstore_n (lv' := [(3, .long r7), (1, .long r3), (0, .ref v0R)]) C d_Rs_refresh_86 (by decide) rfl rfl ?_
  refine x_aload_n C d_Rs_refresh_87 2 rfl ?_
  refine x_iconst (v := (0 : Int32)) C d_Rs_refresh_88 (by decide) ?_
  refine x_gd (fun h9 => ?_)
  refine x_putI (k := 5) C (okO_iff.mp h9) rfl j4_ok y4_ok n4_ok (by decide) rfl rfl rfl rfl w344 d_Rs_refresh_89 ?_
  refine x_letS (fun σ10 e11 => ?_)
  refine x_aload_n C d_Rs_refresh_92 2 rfl ?_
  refine x_iconst (v := (0 : Int32)) C d_Rs_refresh_93 (by decide) ?_
  refine x_putI (k := 6) C (by first | exact (okO_iff.mp h9) | (rw [e11]; exact (okO_iff.mp h9))) rfl j4_ok y4_ok n4_ok (by decide) rfl rfl rfl rfl w345 d_Rs_refresh_94 ?_
  refine x_letS (fun σ12 e13 => ?_)
  refine x_aload_n C d_Rs_refresh_97 2 rfl ?_
  refine x_lconst (v := (0 : Int64)) C d_Rs_refresh_98 (by decide) ?_
  refine x_putJ (k := 7) C (by first | exact (okO_iff.mp h9) | (rw [e13, e11]; exact (okO_iff.mp h9))) rfl j4_ok y4_ok n4_ok (by decide) rfl rfl rfl rfl w346 d_Rs_refresh_99 ?_
  refine x_letS (fun σ14 e15 => ?_)
  refine x_aload_n C d_Rs_refresh_102 2 rfl ?_
  refine x_ldc2 C d_Rs_refresh_103 w1050 ?_
  refine x_putJ (k := 8) C (by first | exact (okO_iff.mp h9) | (rw [e15, e13, e11]; exact (okO_iff.mp h9))) rfl j4_ok y4_ok n4_ok (by decide) rfl rfl rfl rfl w347 d_Rs_refresh_106 ?_
  refine x_letS (fun σ16 e17 => ?_)
  refine x_iconst (v := (0 : Int32)) C d_Rs_refresh_109 (by decide) ?_
  refine x_istore (lv' := [(5, .int (0 : Int32)), (3, .long r7), (1, .long r3), (0, .ref v0R)]) C d_Rs_refresh_110 (by decide) rfl ?_
  refine x_lv [3, 2, 1, 0] rfl ?_
  exact IH.2.2.1 v0R r3 r7 ((0 : Int32)) (σ16)
set_option maxRecDepth 20000 in
theorem s_Rs_refresh_2 {G : GX} {p : Program} {l : Launch} {e : Env} {s : State} {m : MethodId} {args : Array Value} {below : List Frame} {meth : Method} {c : Code} {z0 u0 n : Nat} (C : Cx G p s m args meth c prog_10_method_2_code 8 "BellPlate$Rest" ((none))) (IH : I_Rs_refresh G p l e s m args below meth c z0 u0 n) (v0R : Nat) (v1J : Int64) (v3J : Int64) (v5I : Int32) (σ : AM) : VX (QM eV G args s below z0 u0) G p l e s m args below meth c 2 z0 u0 8 (lpK (lpn F_Rs_refresh n) (T_Rs_refresh_2 v0R v1J v3J v5I σ)) 112 [(0, .ref v0R), (1, .long v1J), (3, .long v3J), (5, .int v5I)] [] σ := by
  unfold T_Rs_refresh_2
  refine x_iload C d_Rs_refresh_112 3 rfl ?_
  refine x_aload_n C d_Rs_refresh_114 0 rfl ?_
  refine x_gd (fun h1 => ?_)
  refine x_gd (fun h2 => ?_)
  refine x_getR (k := 0) (kv := 3) C (okO_iff.mp h1) rfl j4_ok (by decide) rfl (okO_iff.mp h2) (by decide) w339 d_Rs_refresh_115 ?_
  refine x_callVI (As := []) C (c_Ls_size G l (aR σ v0R 0)  σ) (okO_iff.mp h2) rfl w1052 w1053 w1051 w1054 w123 k_Ls_size rfl (by decide) (by decide) rfl (Nat.le_of_ble_eq_true rfl) d_Rs_refresh_118 (fun r3 σ4 => ?_)
  refine x_icmp_ge (tgt := 205) C d_Rs_refresh_121 (by decide) (fun _ => ?_) (fun _ => ?_)
  · refine x_aload_n C d_Rs_refresh_124 0 rfl ?_
    refine x_gd (fun h5 => ?_)
    refine x_gd (fun h6 => ?_)
    refine x_getR (k := 0) (kv := 3) C (okO_iff.mp h5) rfl j4_ok (by decide) rfl (okO_iff.mp h6) (by decide) w339 d_Rs_refresh_125 ?_
    refine x_iload C d_Rs_refresh_128 3 rfl ?_
    refine x_callVJ (As := [.int v5I]) C (c_Ls_at G l (aR σ4 v0R 0) v5I σ4) (okO_iff.mp h6) rfl w996 w997 w1055 w998 w123 k_Ls_at rfl (by decide) (by decide) rfl (Nat.le_of_ble_eq_true rfl) d_Rs_refresh_130 (fun r7 σ8 => ?_)
    refine x_lstore (lv' := [(6, .long r7), (0, .ref v0R), (1, .long v1J), (3, .long v3J), (5, .int v5I)]) C d_Rs_refresh_133 (by decide) rfl ?_
    refine x_aload_n C d_Rs_refresh_135 1 rfl ?_
    refine x_gd (fun h9 => ?_)
    refine x_gd (fun h10 => ?_)
    refine x_getR (k := 3) (kv := 103) C (okO_iff.mp h9) rfl j4_ok (by decide) rfl (okO_iff.mp h10) (by decide) w342 d_Rs_refresh_136 ?_
    refine x_iload C d_Rs_refresh_139 4 rfl ?_
    refine x_lload C d_Rs_refresh_141 0 rfl ?_
    refine x_lload_n C d_Rs_refresh_143 3 rfl ?_
    refine x_land C d_Rs_refresh_144 ?_
    refine x_lconst (v := (0 : Int64)) C d_Rs_refresh_145 (by decide) ?_
    refine x_lcmp C d_Rs_refresh_146 ?_
    refine x_if_ne (tgt := 179) C d_Rs_refresh_147 (by decide) (fun _ => ?_) (fun _ => ?_)
    · refine x_lload C d_Rs_refresh_150 0 rfl ?_
      refine x_ldc2 C d_Rs_refresh_152 w1050 ?_
      refine x_lxor C d_Rs_refresh_155 ?_
      refine x_lload_n C d_Rs_refresh_156 2 rfl ?_
      refine x_land C d_Rs_refresh_157 ?_
      refine x_lconst (v := (0 : Int64)) C d_Rs_refresh_158 (by decide) ?_
      refine x_lcmp C d_Rs_refresh_159 ?_
      refine x_if_ne (tgt := 179) C d_Rs_refresh_160 (by decide) (fun _ => ?_) (fun _ => ?_)
      · refine x_aload_n C d_Rs_refresh_163 1 rfl ?_
        refine x_gd (fun h11 => ?_)
        refine x_getR (k := 1) (kv := 4) C (okO_iff.mp h9) rfl j4_ok (by decide) rfl (okO_iff.mp h11) (by decide) w340 d_Rs_refresh_164 ?_
        refine x_lload C d_Rs_refresh_167 0 rfl ?_
        refine x_callVI (As := [.long r7]) C (c_Bk_hintsHold G l (aR σ8 v0R 1) r7 σ8) (okO_iff.mp h11) rfl w1057 w1058 w1056 w1059 w124 k_Bk_hintsHold rfl (by decide) (by decide) rfl (Nat.le_of_ble_eq_true rfl) d_Rs_refresh_169 (fun r12 σ13 => ?_)
        refine x_if_eq (tgt := 179) C d_Rs_refresh_172 (by decide) (fun _ => ?_) (fun _ => ?_)
        · refine x_lv [1, 2, 3, 4, 0] rfl ?_
          exact IH.2.2.2.1 v0R v1J v3J v5I r7 (aR σ8 v0R 3) v5I (σ13)
        · refine x_iconst (v := (1 : Int32)) C d_Rs_refresh_175 (by decide) ?_
          refine x_goto (tgt := 180) C d_Rs_refresh_176 (by decide) ?_
          refine x_lv [1, 2, 3, 4, 0] rfl ?_
          exact IH.2.2.2.2.1 v0R v1J v3J v5I r7 (aR σ8 v0R 3) v5I ((1 : Int32)) (σ13)
      · refine x_lv [1, 2, 3, 4, 0] rfl ?_
        exact IH.2.2.2.1 v0R v1J v3J v5I r7 (aR σ8 v0R 3) v5I (σ8)
    · refine x_lv [1, 2, 3, 4, 0] rfl ?_
      exact IH.2.2.2.1 v0R v1J v3J v5I r7 (aR σ8 v0R 3) v5I (σ8)
  · exact x_vret C d_Rs_refresh_205
set_option maxRecDepth 20000 in
theorem s_Rs_refresh_3 {G : GX} {p : Program} {l : Launch} {e : Env} {s : State} {m : MethodId} {args : Array Value} {below : List Frame} {meth : Method} {c : Code} {z0 u0 n : Nat} (C : Cx G p s m args meth c prog_10_method_2_code 8 "BellPlate$Rest" ((none))) (IH : I_Rs_refresh G p l e s m args below meth c z0 u0 n) (v0R : Nat) (v1J : Int64) (v3J : Int64) (v5I : Int32) (v6J : Int64) (s0R : Nat) (s1I : Int32) (σ : AM) : VX (QM eV G args s below z0 u0) G p l e s m args below meth c 2 z0 u0 8 (lpK (lpn F_Rs_refresh n) (T_Rs_refresh_3 v0R v1J v3J v5I v6J s0R s1I σ)) 179 [(0, .ref v0R), (1, .long v1J), (3, .long v3J), (5, .int v5I), (6, .long v6J)] [.int s1I, .ref s0R] σ := by
  unfold T_Rs_refresh_3
  refine x_iconst (v := (0 : Int32)) C d_Rs_refresh_179 (by decide) ?_
  exact IH.2.2.2.2.1 v0R v1J v3J v5I v6J s0R s1I ((0 : Int32)) (σ)
set_option maxRecDepth 20000 in
theorem s_Rs_refresh_4 {G : GX} {p : Program} {l : Launch} {e : Env} {s : State} {m : MethodId} {args : Array Value} {below : List Frame} {meth : Method} {c : Code} {z0 u0 n : Nat} (C : Cx G p s m args meth c prog_10_method_2_code 8 "BellPlate$Rest" ((none))) (IH : I_Rs_refresh G p l e s m args below meth c z0 u0 n) (v0R : Nat) (v1J : Int64) (v3J : Int64) (v5I : Int32) (v6J : Int64) (s0R : Nat) (s1I : Int32) (s2I : Int32) (σ : AM) : VX (QM eV G args s below z0 u0) G p l e s m args below meth c 2 z0 u0 8 (lpK (lpn F_Rs_refresh n) (T_Rs_refresh_4 v0R v1J v3J v5I v6J s0R s1I s2I σ)) 180 [(0, .ref v0R), (1, .long v1J), (3, .long v3J), (5, .int v5I), (6, .long v6J)] [.int s2I, .int s1I, .ref s0R] σ := by
  unfold T_Rs_refresh_4
  refine x_gd (fun h1 => ?_)
  refine x_gd (fun h2 => ?_)
  refine x_astZ C (okO_iff.mp h1) (inB_iff.mp h2) d_Rs_refresh_180 ?_
  refine x_letS (fun σ3 e4 => ?_)
  refine x_aload_n C d_Rs_refresh_181 0 rfl ?_
  refine x_gd (fun h5 => ?_)
  refine x_gd (fun h6 => ?_)
  refine x_getR (k := 3) (kv := 103) C (okO_iff.mp h5) rfl j4_ok (by decide) rfl (okO_iff.mp h6) (by decide) w342 d_Rs_refresh_182 ?_
  refine x_iload C d_Rs_refresh_185 3 rfl ?_
  refine x_gd (fun h7 => ?_)
  refine x_aldZ C (okO_iff.mp h6) (inB_iff.mp h7) d_Rs_refresh_187 ?_
  refine x_if_eq (tgt := 199) C d_Rs_refresh_188 (by decide) (fun _ => ?_) (fun _ => ?_)
  · refine x_lv [0, 1, 2, 3] rfl ?_
    exact IH.2.2.2.2.2 v0R v1J v3J v5I (σ3)
  · refine x_aload_n C d_Rs_refresh_191 0 rfl ?_
    refine x_iload C d_Rs_refresh_192 3 rfl ?_
    refine x_lload C d_Rs_refresh_194 4 rfl ?_
    refine x_callVV (As := [.int v5I, .long v6J]) C (c_Rs_keep G l v0R v5I v6J σ3) (okO_iff.mp h5) rfl w1073 w23 w1071 w1074 w125 k_Rs_keep rfl (by decide) (by decide) rfl (Nat.le_of_ble_eq_true rfl) d_Rs_refresh_196 (fun r8 σ9 => ?_)
    refine x_lv [0, 1, 2, 3] rfl ?_
    exact IH.2.2.2.2.2 v0R v1J v3J v5I (σ9)
set_option maxRecDepth 20000 in
theorem s_Rs_refresh_5 {G : GX} {p : Program} {l : Launch} {e : Env} {s : State} {m : MethodId} {args : Array Value} {below : List Frame} {meth : Method} {c : Code} {z0 u0 n : Nat} (C : Cx G p s m args meth c prog_10_method_2_code 8 "BellPlate$Rest" ((none))) (IH : I_Rs_refresh G p l e s m args below meth c z0 u0 n) (v0R : Nat) (v1J : Int64) (v3J : Int64) (v5I : Int32) (σ : AM) : VX (QM eV G args s below z0 u0) G p l e s m args below meth c 2 z0 u0 8 (lpK (lpn F_Rs_refresh n) (T_Rs_refresh_5 v0R v1J v3J v5I σ)) 199 [(0, .ref v0R), (1, .long v1J), (3, .long v3J), (5, .int v5I)] [] σ := by
  unfold T_Rs_refresh_5
  refine x_iinc (v := v5I + (1 : Int32)) (lv' := [(5, .int (v5I + (1 : Int32))), (0, .ref v0R), (1, .long v1J), (3, .long v3J)]) C d_Rs_refresh_199 3 rfl rfl (by decide) rfl ?_
  refine x_goto (tgt := 112) C d_Rs_refresh_202 (by decide) ?_
  refine x_lv [1, 2, 3, 0] rfl ?_
  exact IH.2.2.1 v0R v1J v3J (v5I + (1 : Int32)) (σ)
theorem i_Rs_refresh {G : GX} {p : Program} {l : Launch} {e : Env} {s : State} {m : MethodId} {args : Array Value} {below : List Frame} {meth : Method} {c : Code} {z0 u0 : Nat} (C : Cx G p s m args meth c prog_10_method_2_code 8 "BellPlate$Rest" ((none))) (n : Nat) : I_Rs_refresh G p l e s m args below meth c z0 u0 n := by
  induction n with
  | zero => exact ⟨fun _ _ => x_none, fun _ _ => x_none, fun _ _ _ _ _ => x_none, fun _ _ _ _ _ _ _ _ => x_none, fun _ _ _ _ _ _ _ _ _ => x_none, fun _ _ _ _ _ => x_none⟩
  | succ n IH => exact ⟨fun v0R σ => s_Rs_refresh_0 C IH v0R σ, fun v0R σ => s_Rs_refresh_1 C IH v0R σ, fun v0R v1J v3J v5I σ => s_Rs_refresh_2 C IH v0R v1J v3J v5I σ, fun v0R v1J v3J v5I v6J s0R s1I σ => s_Rs_refresh_3 C IH v0R v1J v3J v5I v6J s0R s1I σ, fun v0R v1J v3J v5I v6J s0R s1I s2I σ => s_Rs_refresh_4 C IH v0R v1J v3J v5I v6J s0R s1I s2I σ, fun v0R v1J v3J v5I σ => s_Rs_refresh_5 C IH v0R v1J v3J v5I σ⟩
theorem c_Rs_refresh (G : GX) (l : Launch) (v0R : Nat) (σ : AM) : CT eV G l 2 y_Rs_refresh prog_10_method_2_code 8 (none) [.ref v0R] σ (M_Rs_refresh v0R σ) := by
  refine ct_of (by decide +kernel) (Nat.le_of_ble_eq_true rfl) (fun p e s m args below meth c C hin => ?_)
  refine x_lve (lv' := [(0, .ref v0R)]) rfl ?_
  intro r σ' h
  obtain ⟨n, hn⟩ := (lp_iff _ _ _).mp h
  exact (i_Rs_refresh C n).1 v0R σ r σ' hn
/-! BellPlate$Rest.weights()I -/
abbrev y_Rs_weights : MethodName := ⟨"BellPlate$Rest", "weights", "()I"⟩
theorem k_Rs_weights : y_Rs_weights.cls ≠ "java/lang/invoke/MethodHandle" ∧ y_Rs_weights.cls ≠ "java/lang/invoke/VarHandle" ∧ (parseMethodDescriptor y_Rs_weights.desc).map (fun d => d.parameters.length) = some 0 := by decide +kernel
theorem d_Rs_weights_0 : decode prog_10_method_5_code 0 = .ok (.aload_n 0, 1) := by decide +kernel
theorem d_Rs_weights_1 : decode prog_10_method_5_code 1 = .ok (.getfield 53, 3) := by decide +kernel
theorem d_Rs_weights_4 : decode prog_10_method_5_code 4 = .ok (.ireturn, 1) := by decide +kernel
abbrev S_Rs_weights : Type := Nat × Nat × AM
noncomputable def T_Rs_weights_0 (v0R : Nat) (σ : AM) : S_Rs_weights ⊕ Option (Int32 × AM) :=
  gdT (okO σ v0R 5) <| .inr (some ((aI σ v0R 6), σ))
noncomputable def F_Rs_weights : S_Rs_weights → S_Rs_weights ⊕ Option (Int32 × AM) := fun s => match s.1 with
  | _ => T_Rs_weights_0 (s.2.1) (s.2.2)
noncomputable def L_Rs_weights_0 (v0R : Nat) (σ : AM) : Option (Int32 × AM) := lp F_Rs_weights (0, v0R, σ)
set_option maxRecDepth 20000 in
theorem E_Rs_weights_0 (v0R : Nat) (σ : AM) : L_Rs_weights_0 v0R σ = (gd (okO σ v0R 5) <| (some ((aI σ v0R 6), σ))) := by
  unfold L_Rs_weights_0
  rw [lp_eq]
  show lpK (lp F_Rs_weights) (T_Rs_weights_0 v0R σ) = _
  unfold T_Rs_weights_0
  simp only [lpK_ite, lq_inl, lq_inr, lpK_bnd, lpK_gd, lq_let]
  try rfl
noncomputable def M_Rs_weights (v0R : Nat) (σ : AM) : Option (Int32 × AM) := mw σ (L_Rs_weights_0 v0R σ)
def I_Rs_weights (G : GX) (p : Program) (l : Launch) (e : Env) (s : State) (m : MethodId) (args : Array Value) (below : List Frame) (meth : Method) (c : Code) (z0 u0 n : Nat) : Prop :=
  (∀ (v0R : Nat) (σ : AM), VX (QM eI G args s below z0 u0) G p l e s m args below meth c 0 z0 u0 1 (lpn F_Rs_weights n (0, v0R, σ)) 0 [(0, .ref v0R)] [] σ)
set_option maxRecDepth 20000 in
theorem s_Rs_weights_0 {G : GX} {p : Program} {l : Launch} {e : Env} {s : State} {m : MethodId} {args : Array Value} {below : List Frame} {meth : Method} {c : Code} {z0 u0 n : Nat} (C : Cx G p s m args meth c prog_10_method_5_code 1 "BellPlate$Rest" ((some FieldType.int))) (IH : I_Rs_weights G p l e s m args below meth c z0 u0 n) (v0R : Nat) (σ : AM) : VX (QM eI G args s below z0 u0) G p l e s m args below meth c 0 z0 u0 1 (lpK (lpn F_Rs_weights n) (T_Rs_weights_0 v0R σ)) 0 [(0, .ref v0R)] [] σ := by
  unfold T_Rs_weights_0
  refine x_aload_n C d_Rs_weights_0 0 rfl ?_
  refine x_gd (fun h1 => ?_)
  refine x_getI (k := 6) C (okO_iff.mp h1) rfl j4_ok (by decide) rfl w345 d_Rs_weights_1 ?_
  exact x_iret C d_Rs_weights_4
theorem i_Rs_weights {G : GX} {p : Program} {l : Launch} {e : Env} {s : State} {m : MethodId} {args : Array Value} {below : List Frame} {meth : Method} {c : Code} {z0 u0 : Nat} (C : Cx G p s m args meth c prog_10_method_5_code 1 "BellPlate$Rest" ((some FieldType.int))) (n : Nat) : I_Rs_weights G p l e s m args below meth c z0 u0 n := by
  induction n with
  | zero => exact fun _ _ => x_none
  | succ n IH => exact fun v0R σ => s_Rs_weights_0 C IH v0R σ
theorem c_Rs_weights (G : GX) (l : Launch) (v0R : Nat) (σ : AM) : CT eI G l 0 y_Rs_weights prog_10_method_5_code 1 ((some FieldType.int)) [.ref v0R] σ (M_Rs_weights v0R σ) := by
  refine ct_of (by decide +kernel) (Nat.le_of_ble_eq_true rfl) (fun p e s m args below meth c C hin => ?_)
  refine x_lve (lv' := [(0, .ref v0R)]) rfl ?_
  intro r σ' h
  obtain ⟨n, hn⟩ := (lp_iff _ _ _).mp h
  exact (i_Rs_weights C n) v0R σ r σ' hn
/-! BellPlate$Rest.some()J -/
abbrev y_Rs_some : MethodName := ⟨"BellPlate$Rest", "some", "()J"⟩
theorem k_Rs_some : y_Rs_some.cls ≠ "java/lang/invoke/MethodHandle" ∧ y_Rs_some.cls ≠ "java/lang/invoke/VarHandle" ∧ (parseMethodDescriptor y_Rs_some.desc).map (fun d => d.parameters.length) = some 0 := by decide +kernel
theorem d_Rs_some_0 : decode prog_10_method_6_code 0 = .ok (.aload_n 0, 1) := by decide +kernel
theorem d_Rs_some_1 : decode prog_10_method_6_code 1 = .ok (.getfield 56, 3) := by decide +kernel
theorem d_Rs_some_4 : decode prog_10_method_6_code 4 = .ok (.lreturn, 1) := by decide +kernel
abbrev S_Rs_some : Type := Nat × Nat × AM
noncomputable def T_Rs_some_0 (v0R : Nat) (σ : AM) : S_Rs_some ⊕ Option (Int64 × AM) :=
  gdT (okO σ v0R 5) <| .inr (some ((aL σ v0R 7), σ))
noncomputable def F_Rs_some : S_Rs_some → S_Rs_some ⊕ Option (Int64 × AM) := fun s => match s.1 with
  | _ => T_Rs_some_0 (s.2.1) (s.2.2)
noncomputable def L_Rs_some_0 (v0R : Nat) (σ : AM) : Option (Int64 × AM) := lp F_Rs_some (0, v0R, σ)
set_option maxRecDepth 20000 in
theorem E_Rs_some_0 (v0R : Nat) (σ : AM) : L_Rs_some_0 v0R σ = (gd (okO σ v0R 5) <| (some ((aL σ v0R 7), σ))) := by
  unfold L_Rs_some_0
  rw [lp_eq]
  show lpK (lp F_Rs_some) (T_Rs_some_0 v0R σ) = _
  unfold T_Rs_some_0
  simp only [lpK_ite, lq_inl, lq_inr, lpK_bnd, lpK_gd, lq_let]
  try rfl
noncomputable def M_Rs_some (v0R : Nat) (σ : AM) : Option (Int64 × AM) := mw σ (L_Rs_some_0 v0R σ)
def I_Rs_some (G : GX) (p : Program) (l : Launch) (e : Env) (s : State) (m : MethodId) (args : Array Value) (below : List Frame) (meth : Method) (c : Code) (z0 u0 n : Nat) : Prop :=
  (∀ (v0R : Nat) (σ : AM), VX (QM eJ G args s below z0 u0) G p l e s m args below meth c 0 z0 u0 1 (lpn F_Rs_some n (0, v0R, σ)) 0 [(0, .ref v0R)] [] σ)
set_option maxRecDepth 20000 in
theorem s_Rs_some_0 {G : GX} {p : Program} {l : Launch} {e : Env} {s : State} {m : MethodId} {args : Array Value} {below : List Frame} {meth : Method} {c : Code} {z0 u0 n : Nat} (C : Cx G p s m args meth c prog_10_method_6_code 1 "BellPlate$Rest" ((some FieldType.long))) (IH : I_Rs_some G p l e s m args below meth c z0 u0 n) (v0R : Nat) (σ : AM) : VX (QM eJ G args s below z0 u0) G p l e s m args below meth c 0 z0 u0 1 (lpK (lpn F_Rs_some n) (T_Rs_some_0 v0R σ)) 0 [(0, .ref v0R)] [] σ := by
  unfold T_Rs_some_0
  refine x_aload_n C d_Rs_some_0 0 rfl ?_
  refine x_gd (fun h1 => ?_)
  refine x_getJ (k := 7) C (okO_iff.mp h1) rfl j4_ok (by decide) rfl w346 d_Rs_some_1 ?_
  exact x_lret C d_Rs_some_4
theorem i_Rs_some {G : GX} {p : Program} {l : Launch} {e : Env} {s : State} {m : MethodId} {args : Array Value} {below : List Frame} {meth : Method} {c : Code} {z0 u0 : Nat} (C : Cx G p s m args meth c prog_10_method_6_code 1 "BellPlate$Rest" ((some FieldType.long))) (n : Nat) : I_Rs_some G p l e s m args below meth c z0 u0 n := by
  induction n with
  | zero => exact fun _ _ => x_none
  | succ n IH => exact fun v0R σ => s_Rs_some_0 C IH v0R σ
theorem c_Rs_some (G : GX) (l : Launch) (v0R : Nat) (σ : AM) : CT eJ G l 0 y_Rs_some prog_10_method_6_code 1 ((some FieldType.long)) [.ref v0R] σ (M_Rs_some v0R σ) := by
  refine ct_of (by decide +kernel) (Nat.le_of_ble_eq_true rfl) (fun p e s m args below meth c C hin => ?_)
  refine x_lve (lv' := [(0, .ref v0R)]) rfl ?_
  intro r σ' h
  obtain ⟨n, hn⟩ := (lp_iff _ _ _).mp h
  exact (i_Rs_some C n) v0R σ r σ' hn
/-! BellPlate$Rest.every()J -/
abbrev y_Rs_every : MethodName := ⟨"BellPlate$Rest", "every", "()J"⟩
theorem k_Rs_every : y_Rs_every.cls ≠ "java/lang/invoke/MethodHandle" ∧ y_Rs_every.cls ≠ "java/lang/invoke/VarHandle" ∧ (parseMethodDescriptor y_Rs_every.desc).map (fun d => d.parameters.length) = some 0 := by decide +kernel
theorem d_Rs_every_0 : decode prog_10_method_7_code 0 = .ok (.aload_n 0, 1) := by decide +kernel
theorem d_Rs_every_1 : decode prog_10_method_7_code 1 = .ok (.getfield 62, 3) := by decide +kernel
theorem d_Rs_every_4 : decode prog_10_method_7_code 4 = .ok (.lreturn, 1) := by decide +kernel
abbrev S_Rs_every : Type := Nat × Nat × AM
noncomputable def T_Rs_every_0 (v0R : Nat) (σ : AM) : S_Rs_every ⊕ Option (Int64 × AM) :=
  gdT (okO σ v0R 5) <| .inr (some ((aL σ v0R 8), σ))
noncomputable def F_Rs_every : S_Rs_every → S_Rs_every ⊕ Option (Int64 × AM) := fun s => match s.1 with
  | _ => T_Rs_every_0 (s.2.1) (s.2.2)
noncomputable def L_Rs_every_0 (v0R : Nat) (σ : AM) : Option (Int64 × AM) := lp F_Rs_every (0, v0R, σ)
set_option maxRecDepth 20000 in
theorem E_Rs_every_0 (v0R : Nat) (σ : AM) : L_Rs_every_0 v0R σ = (gd (okO σ v0R 5) <| (some ((aL σ v0R 8), σ))) := by
  unfold L_Rs_every_0
  rw [lp_eq]
  show lpK (lp F_Rs_every) (T_Rs_every_0 v0R σ) = _
  unfold T_Rs_every_0
  simp only [lpK_ite, lq_inl, lq_inr, lpK_bnd, lpK_gd, lq_let]
  try rfl
noncomputable def M_Rs_every (v0R : Nat) (σ : AM) : Option (Int64 × AM) := mw σ (L_Rs_every_0 v0R σ)
def I_Rs_every (G : GX) (p : Program) (l : Launch) (e : Env) (s : State) (m : MethodId) (args : Array Value) (below : List Frame) (meth : Method) (c : Code) (z0 u0 n : Nat) : Prop :=
  (∀ (v0R : Nat) (σ : AM), VX (QM eJ G args s below z0 u0) G p l e s m args below meth c 0 z0 u0 1 (lpn F_Rs_every n (0, v0R, σ)) 0 [(0, .ref v0R)] [] σ)
set_option maxRecDepth 20000 in
theorem s_Rs_every_0 {G : GX} {p : Program} {l : Launch} {e : Env} {s : State} {m : MethodId} {args : Array Value} {below : List Frame} {meth : Method} {c : Code} {z0 u0 n : Nat} (C : Cx G p s m args meth c prog_10_method_7_code 1 "BellPlate$Rest" ((some FieldType.long))) (IH : I_Rs_every G p l e s m args below meth c z0 u0 n) (v0R : Nat) (σ : AM) : VX (QM eJ G args s below z0 u0) G p l e s m args below meth c 0 z0 u0 1 (lpK (lpn F_Rs_every n) (T_Rs_every_0 v0R σ)) 0 [(0, .ref v0R)] [] σ := by
  unfold T_Rs_every_0
  refine x_aload_n C d_Rs_every_0 0 rfl ?_
  refine x_gd (fun h1 => ?_)
  refine x_getJ (k := 8) C (okO_iff.mp h1) rfl j4_ok (by decide) rfl w347 d_Rs_every_1 ?_
  exact x_lret C d_Rs_every_4
theorem i_Rs_every {G : GX} {p : Program} {l : Launch} {e : Env} {s : State} {m : MethodId} {args : Array Value} {below : List Frame} {meth : Method} {c : Code} {z0 u0 : Nat} (C : Cx G p s m args meth c prog_10_method_7_code 1 "BellPlate$Rest" ((some FieldType.long))) (n : Nat) : I_Rs_every G p l e s m args below meth c z0 u0 n := by
  induction n with
  | zero => exact fun _ _ => x_none
  | succ n IH => exact fun v0R σ => s_Rs_every_0 C IH v0R σ
theorem c_Rs_every (G : GX) (l : Launch) (v0R : Nat) (σ : AM) : CT eJ G l 0 y_Rs_every prog_10_method_7_code 1 ((some FieldType.long)) [.ref v0R] σ (M_Rs_every v0R σ) := by
  refine ct_of (by decide +kernel) (Nat.le_of_ble_eq_true rfl) (fun p e s m args below meth c C hin => ?_)
  refine x_lve (lv' := [(0, .ref v0R)]) rfl ?_
  intro r σ' h
  obtain ⟨n, hn⟩ := (lp_iff _ _ _).mp h
  exact (i_Rs_every C n) v0R σ r σ' hn
/-! BellPlate$Rest.holds(I)Z -/
abbrev y_Rs_holds : MethodName := ⟨"BellPlate$Rest", "holds", "(I)Z"⟩
theorem k_Rs_holds : y_Rs_holds.cls ≠ "java/lang/invoke/MethodHandle" ∧ y_Rs_holds.cls ≠ "java/lang/invoke/VarHandle" ∧ (parseMethodDescriptor y_Rs_holds.desc).map (fun d => d.parameters.length) = some 1 := by decide +kernel
theorem d_Rs_holds_0 : decode prog_10_method_10_code 0 = .ok (.aload_n 0, 1) := by decide +kernel
theorem d_Rs_holds_1 : decode prog_10_method_10_code 1 = .ok (.getfield 9, 3) := by decide +kernel
theorem d_Rs_holds_4 : decode prog_10_method_10_code 4 = .ok (.iload_n 1, 1) := by decide +kernel
theorem d_Rs_holds_5 : decode prog_10_method_10_code 5 = .ok (.invokevirtual 83, 3) := by decide +kernel
theorem d_Rs_holds_8 : decode prog_10_method_10_code 8 = .ok (.istore_n 2, 1) := by decide +kernel
theorem d_Rs_holds_9 : decode prog_10_method_10_code 9 = .ok (.iload_n 2, 1) := by decide +kernel
theorem d_Rs_holds_10 : decode prog_10_method_10_code 10 = .ok (.ifCond .lt 16, 3) := by decide +kernel
theorem d_Rs_holds_13 : decode prog_10_method_10_code 13 = .ok (.aload_n 0, 1) := by decide +kernel
theorem d_Rs_holds_14 : decode prog_10_method_10_code 14 = .ok (.getfield 25, 3) := by decide +kernel
theorem d_Rs_holds_17 : decode prog_10_method_10_code 17 = .ok (.iload_n 2, 1) := by decide +kernel
theorem d_Rs_holds_18 : decode prog_10_method_10_code 18 = .ok (.baload, 1) := by decide +kernel
theorem d_Rs_holds_19 : decode prog_10_method_10_code 19 = .ok (.ifCond .eq 7, 3) := by decide +kernel
theorem d_Rs_holds_22 : decode prog_10_method_10_code 22 = .ok (.iconst 1, 1) := by decide +kernel
theorem d_Rs_holds_23 : decode prog_10_method_10_code 23 = .ok (.goto 4, 3) := by decide +kernel
theorem d_Rs_holds_26 : decode prog_10_method_10_code 26 = .ok (.iconst 0, 1) := by decide +kernel
theorem d_Rs_holds_27 : decode prog_10_method_10_code 27 = .ok (.ireturn, 1) := by decide +kernel
abbrev S_Rs_holds : Type := Nat × Nat × Int32 × Int32 × AM
noncomputable def T_Rs_holds_0 (v0R : Nat) (v1I : Int32) (σ : AM) : S_Rs_holds ⊕ Option (Int32 × AM) :=
  gdT (okO σ v0R 5) <| gdT (okO σ (aR σ v0R 0) 3) <| bndT (M_Ls_numberOf (aR σ v0R 0) v1I σ) fun r3 σ4 => if r3 < 0 then (.inl (1, 0, 0, 0, σ4)) else (gdT (okO σ4 v0R 5) <| gdT (okO σ4 (aR σ4 v0R 3) 103) <| gdT (inB r3 (aN σ4 (aR σ4 v0R 3))) <| if (aI σ4 (aR σ4 v0R 3) r3.toNatClampNeg) = 0 then (.inl (1, 0, 0, 0, σ4)) else (.inl (2, 0, 0, (1 : Int32), σ4)))
noncomputable def T_Rs_holds_1  (σ : AM) : S_Rs_holds ⊕ Option (Int32 × AM) :=
  .inl (2, 0, 0, (0 : Int32), σ)
noncomputable def T_Rs_holds_2 (s0I : Int32) (σ : AM) : S_Rs_holds ⊕ Option (Int32 × AM) :=
  gdT (isB s0I) <| .inr (some (s0I, σ))
noncomputable def F_Rs_holds : S_Rs_holds → S_Rs_holds ⊕ Option (Int32 × AM) := fun s => match s.1 with
  | 0 => T_Rs_holds_0 (s.2.1) (s.2.2.1) (s.2.2.2.2)
  | 1 => T_Rs_holds_1  (s.2.2.2.2)
  | _ => T_Rs_holds_2 (s.2.2.2.1) (s.2.2.2.2)
noncomputable def L_Rs_holds_0 (v0R : Nat) (v1I : Int32) (σ : AM) : Option (Int32 × AM) := lp F_Rs_holds (0, v0R, v1I, 0, σ)
noncomputable def L_Rs_holds_1  (σ : AM) : Option (Int32 × AM) := lp F_Rs_holds (1, 0, 0, 0, σ)
noncomputable def L_Rs_holds_2 (s0I : Int32) (σ : AM) : Option (Int32 × AM) := lp F_Rs_holds (2, 0, 0, s0I, σ)
set_option maxRecDepth 20000 in
theorem E_Rs_holds_0 (v0R : Nat) (v1I : Int32) (σ : AM) : L_Rs_holds_0 v0R v1I σ = (gd (okO σ v0R 5) <| gd (okO σ (aR σ v0R 0) 3) <| bnd (M_Ls_numberOf (aR σ v0R 0) v1I σ) fun r3 σ4 => if r3 < 0 then (L_Rs_holds_1 σ4) else (gd (okO σ4 v0R 5) <| gd (okO σ4 (aR σ4 v0R 3) 103) <| gd (inB r3 (aN σ4 (aR σ4 v0R 3))) <| if (aI σ4 (aR σ4 v0R 3) r3.toNatClampNeg) = 0 then (L_Rs_holds_1 σ4) else (L_Rs_holds_2 ((1 : Int32)) σ4))) := by
  unfold L_Rs_holds_0
  rw [lp_eq]
  show lpK (lp F_Rs_holds) (T_Rs_holds_0 v0R v1I σ) = _
  unfold T_Rs_holds_0
  simp only [lpK_ite, lq_inl, lq_inr, lpK_bnd, lpK_gd, lq_let]
  try rfl
set_option maxRecDepth 20000 in
theorem E_Rs_holds_1  (σ : AM) : L_Rs_holds_1  σ = (L_Rs_holds_2 ((0 : Int32)) σ) := by
  unfold L_Rs_holds_1
  rw [lp_eq]
  show lpK (lp F_Rs_holds) (T_Rs_holds_1  σ) = _
  unfold T_Rs_holds_1
  simp only [lpK_ite, lq_inl, lq_inr, lpK_bnd, lpK_gd, lq_let]
  try rfl
set_option maxRecDepth 20000 in
theorem E_Rs_holds_2 (s0I : Int32) (σ : AM) : L_Rs_holds_2 s0I σ = (gd (isB s0I) <| (some (s0I, σ))) := by
  unfold L_Rs_holds_2
  rw [lp_eq]
  show lpK (lp F_Rs_holds) (T_Rs_holds_2 s0I σ) = _
  unfold T_Rs_holds_2
  simp only [lpK_ite, lq_inl, lq_inr, lpK_bnd, lpK_gd, lq_let]
  try rfl
noncomputable def M_Rs_holds (v0R : Nat) (v1I : Int32) (σ : AM) : Option (Int32 × AM) := mw σ (L_Rs_holds_0 v0R v1I σ)
def I_Rs_holds (G : GX) (p : Program) (l : Launch) (e : Env) (s : State) (m : MethodId) (args : Array Value) (below : List Frame) (meth : Method) (c : Code) (z0 u0 n : Nat) : Prop :=
  (∀ (v0R : Nat) (v1I : Int32) (σ : AM), VX (QM eI G args s below z0 u0) G p l e s m args below meth c 1 z0 u0 3 (lpn F_Rs_holds n (0, v0R, v1I, 0, σ)) 0 [(0, .ref v0R), (1, .int v1I)] [] σ) ∧
  (∀ (σ : AM), VX (QM eI G args s below z0 u0) G p l e s m args below meth c 1 z0 u0 3 (lpn F_Rs_holds n (1, 0, 0, 0, σ)) 26 [] [] σ) ∧
  (∀ (s0I : Int32) (σ : AM), VX (QM eI G args s below z0 u0) G p l e s m args below meth c 1 z0 u0 3 (lpn F_Rs_holds n (2, 0, 0, s0I, σ)) 27 [] [.int s0I] σ)
set_option maxRecDepth 20000 in
theorem s_Rs_holds_0 {G : GX} {p : Program} {l : Launch} {e : Env} {s : State} {m : MethodId} {args : Array Value} {below : List Frame} {meth : Method} {c : Code} {z0 u0 n : Nat} (C : Cx G p s m args meth c prog_10_method_10_code 3 "BellPlate$Rest" ((some FieldType.boolean))) (IH : I_Rs_holds G p l e s m args below meth c z0 u0 n) (v0R : Nat) (v1I : Int32) (σ : AM) : VX (QM eI G args s below z0 u0) G p l e s m args below meth c 1 z0 u0 3 (lpK (lpn F_Rs_holds n) (T_Rs_holds_0 v0R v1I σ)) 0 [(0, .ref v0R), (1, .int v1I)] [] σ := by
  unfold T_Rs_holds_0
  refine x_aload_n C d_Rs_holds_0 0 rfl ?_
  refine x_gd (fun h1 => ?_)
  refine x_gd (fun h2 => ?_)
  refine x_getR (k := 0) (kv := 3) C (okO_iff.mp h1) rfl j4_ok (by decide) rfl (okO_iff.mp h2) (by decide) w339 d_Rs_holds_1 ?_
  refine x_iload_n C d_Rs_holds_4 1 rfl ?_
  refine x_callVI (As := [.int v1I]) C (c_Ls_numberOf G l (aR σ v0R 0) v1I σ) (okO_iff.mp h2) rfl w983 w984 w1091 w985 w123 k_Ls_numberOf rfl (by decide) (by decide) rfl (Nat.le_of_ble_eq_true rfl) d_Rs_holds_5 (fun r3 σ4 => ?_)
  refine x_istore_n (lv' := [(2, .int r3), (0, .ref v0R), (1, .int v1I)]) C d_Rs_holds_8 (by decide) rfl rfl ?_
  refine x_iload_n C d_Rs_holds_9 0 rfl ?_
  refine x_if_lt (tgt := 26) C d_Rs_holds_10 (by decide) (fun _ => ?_) (fun _ => ?_)
  · refine x_lv [] rfl ?_
    exact IH.2.1  (σ4)
  · refine x_aload_n C d_Rs_holds_13 1 rfl ?_
    refine x_gd (fun h5 => ?_)
    refine x_gd (fun h6 => ?_)
    refine x_getR (k := 3) (kv := 103) C (okO_iff.mp h5) rfl j4_ok (by decide) rfl (okO_iff.mp h6) (by decide) w342 d_Rs_holds_14 ?_
    refine x_iload_n C d_Rs_holds_17 0 rfl ?_
    refine x_gd (fun h7 => ?_)
    refine x_aldZ C (okO_iff.mp h6) (inB_iff.mp h7) d_Rs_holds_18 ?_
    refine x_if_eq (tgt := 26) C d_Rs_holds_19 (by decide) (fun _ => ?_) (fun _ => ?_)
    · refine x_lv [] rfl ?_
      exact IH.2.1  (σ4)
    · refine x_iconst (v := (1 : Int32)) C d_Rs_holds_22 (by decide) ?_
      refine x_goto (tgt := 27) C d_Rs_holds_23 (by decide) ?_
      refine x_lv [] rfl ?_
      exact IH.2.2 ((1 : Int32)) (σ4)
set_option maxRecDepth 20000 in
theorem s_Rs_holds_1 {G : GX} {p : Program} {l : Launch} {e : Env} {s : State} {m : MethodId} {args : Array Value} {below : List Frame} {meth : Method} {c : Code} {z0 u0 n : Nat} (C : Cx G p s m args meth c prog_10_method_10_code 3 "BellPlate$Rest" ((some FieldType.boolean))) (IH : I_Rs_holds G p l e s m args below meth c z0 u0 n)  (σ : AM) : VX (QM eI G args s below z0 u0) G p l e s m args below meth c 1 z0 u0 3 (lpK (lpn F_Rs_holds n) (T_Rs_holds_1  σ)) 26 [] [] σ := by
  unfold T_Rs_holds_1
  refine x_iconst (v := (0 : Int32)) C d_Rs_holds_26 (by decide) ?_
  exact IH.2.2 ((0 : Int32)) (σ)
set_option maxRecDepth 20000 in
theorem s_Rs_holds_2 {G : GX} {p : Program} {l : Launch} {e : Env} {s : State} {m : MethodId} {args : Array Value} {below : List Frame} {meth : Method} {c : Code} {z0 u0 n : Nat} (C : Cx G p s m args meth c prog_10_method_10_code 3 "BellPlate$Rest" ((some FieldType.boolean))) (IH : I_Rs_holds G p l e s m args below meth c z0 u0 n) (s0I : Int32) (σ : AM) : VX (QM eI G args s below z0 u0) G p l e s m args below meth c 1 z0 u0 3 (lpK (lpn F_Rs_holds n) (T_Rs_holds_2 s0I σ)) 27 [] [.int s0I] σ := by
  unfold T_Rs_holds_2
  refine x_gd (fun h1 => ?_)
  exact x_zret C (isB_narrow h1) d_Rs_holds_27
theorem i_Rs_holds {G : GX} {p : Program} {l : Launch} {e : Env} {s : State} {m : MethodId} {args : Array Value} {below : List Frame} {meth : Method} {c : Code} {z0 u0 : Nat} (C : Cx G p s m args meth c prog_10_method_10_code 3 "BellPlate$Rest" ((some FieldType.boolean))) (n : Nat) : I_Rs_holds G p l e s m args below meth c z0 u0 n := by
  induction n with
  | zero => exact ⟨fun _ _ _ => x_none, fun _ => x_none, fun _ _ => x_none⟩
  | succ n IH => exact ⟨fun v0R v1I σ => s_Rs_holds_0 C IH v0R v1I σ, fun σ => s_Rs_holds_1 C IH σ, fun s0I σ => s_Rs_holds_2 C IH s0I σ⟩
theorem c_Rs_holds (G : GX) (l : Launch) (v0R : Nat) (v1I : Int32) (σ : AM) : CT eI G l 1 y_Rs_holds prog_10_method_10_code 3 ((some FieldType.boolean)) [.ref v0R, .int v1I] σ (M_Rs_holds v0R v1I σ) := by
  refine ct_of (by decide +kernel) (Nat.le_of_ble_eq_true rfl) (fun p e s m args below meth c C hin => ?_)
  refine x_lve (lv' := [(0, .ref v0R), (1, .int v1I)]) rfl ?_
  intro r σ' h
  obtain ⟨n, hn⟩ := (lp_iff _ _ _).mp h
  exact (i_Rs_holds C n).1 v0R v1I σ r σ' hn
/-! BellPlate$Rest.leastWeights()I -/
abbrev y_Rs_leastWeights : MethodName := ⟨"BellPlate$Rest", "leastWeights", "()I"⟩
theorem k_Rs_leastWeights : y_Rs_leastWeights.cls ≠ "java/lang/invoke/MethodHandle" ∧ y_Rs_leastWeights.cls ≠ "java/lang/invoke/VarHandle" ∧ (parseMethodDescriptor y_Rs_leastWeights.desc).map (fun d => d.parameters.length) = some 0 := by decide +kernel
theorem d_Rs_leastWeights_0 : decode prog_10_method_11_code 0 = .ok (.aload_n 0, 1) := by decide +kernel
theorem d_Rs_leastWeights_1 : decode prog_10_method_11_code 1 = .ok (.getfield 50, 3) := by decide +kernel
theorem d_Rs_leastWeights_4 : decode prog_10_method_11_code 4 = .ok (.ifCond .ne 5, 3) := by decide +kernel
theorem d_Rs_leastWeights_7 : decode prog_10_method_11_code 7 = .ok (.iconst (-1), 1) := by decide +kernel
theorem d_Rs_leastWeights_8 : decode prog_10_method_11_code 8 = .ok (.ireturn, 1) := by decide +kernel
theorem d_Rs_leastWeights_9 : decode prog_10_method_11_code 9 = .ok (.iconst 0, 1) := by decide +kernel
theorem d_Rs_leastWeights_10 : decode prog_10_method_11_code 10 = .ok (.istore_n 1, 1) := by decide +kernel
theorem d_Rs_leastWeights_11 : decode prog_10_method_11_code 11 = .ok (.iload_n 1, 1) := by decide +kernel
theorem d_Rs_leastWeights_12 : decode prog_10_method_11_code 12 = .ok (.aload_n 0, 1) := by decide +kernel
theorem d_Rs_leastWeights_13 : decode prog_10_method_11_code 13 = .ok (.getfield 9, 3) := by decide +kernel
theorem d_Rs_leastWeights_16 : decode prog_10_method_11_code 16 = .ok (.invokevirtual 41, 3) := by decide +kernel
theorem d_Rs_leastWeights_19 : decode prog_10_method_11_code 19 = .ok (.if_icmp .ge 28, 3) := by decide +kernel
theorem d_Rs_leastWeights_22 : decode prog_10_method_11_code 22 = .ok (.aload_n 0, 1) := by decide +kernel
theorem d_Rs_leastWeights_23 : decode prog_10_method_11_code 23 = .ok (.getfield 9, 3) := by decide +kernel
theorem d_Rs_leastWeights_26 : decode prog_10_method_11_code 26 = .ok (.iload_n 1, 1) := by decide +kernel
theorem d_Rs_leastWeights_27 : decode prog_10_method_11_code 27 = .ok (.invokevirtual 83, 3) := by decide +kernel
theorem d_Rs_leastWeights_30 : decode prog_10_method_11_code 30 = .ok (.aload_n 0, 1) := by decide +kernel
theorem d_Rs_leastWeights_31 : decode prog_10_method_11_code 31 = .ok (.getfield 29, 3) := by decide +kernel
theorem d_Rs_leastWeights_34 : decode prog_10_method_11_code 34 = .ok (.iconst 0, 1) := by decide +kernel
theorem d_Rs_leastWeights_35 : decode prog_10_method_11_code 35 = .ok (.iaload, 1) := by decide +kernel
theorem d_Rs_leastWeights_36 : decode prog_10_method_11_code 36 = .ok (.if_icmp .ne 5, 3) := by decide +kernel
theorem d_Rs_leastWeights_39 : decode prog_10_method_11_code 39 = .ok (.iload_n 1, 1) := by decide +kernel
theorem d_Rs_leastWeights_40 : decode prog_10_method_11_code 40 = .ok (.ireturn, 1) := by decide +kernel
theorem d_Rs_leastWeights_41 : decode prog_10_method_11_code 41 = .ok (.iinc 1 1, 3) := by decide +kernel
theorem d_Rs_leastWeights_44 : decode prog_10_method_11_code 44 = .ok (.goto (-33), 3) := by decide +kernel
theorem d_Rs_leastWeights_47 : decode prog_10_method_11_code 47 = .ok (.iconst (-1), 1) := by decide +kernel
theorem d_Rs_leastWeights_48 : decode prog_10_method_11_code 48 = .ok (.ireturn, 1) := by decide +kernel
abbrev S_Rs_leastWeights : Type := Nat × Nat × Int32 × AM
noncomputable def T_Rs_leastWeights_0 (v0R : Nat) (σ : AM) : S_Rs_leastWeights ⊕ Option (Int32 × AM) :=
  gdT (okO σ v0R 5) <| if (aI σ v0R 5) = 0 then (.inr (some (((-1) : Int32), σ))) else (.inl (1, v0R, (0 : Int32), σ))
noncomputable def T_Rs_leastWeights_1 (v0R : Nat) (v1I : Int32) (σ : AM) : S_Rs_leastWeights ⊕ Option (Int32 × AM) :=
  gdT (okO σ v0R 5) <| gdT (okO σ (aR σ v0R 0) 3) <| bndT (M_Ls_room (aR σ v0R 0) σ) fun r3 σ4 => if v1I < r3 then (gdT (okO σ4 v0R 5) <| gdT (okO σ4 (aR σ4 v0R 0) 3) <| bndT (M_Ls_numberOf (aR σ4 v0R 0) v1I σ4) fun r7 σ8 => gdT (okO σ8 v0R 5) <| gdT (okO σ8 (aR σ8 v0R 4) 101) <| gdT (inB (0 : Int32) (aN σ8 (aR σ8 v0R 4))) <| if r7 = (aI σ8 (aR σ8 v0R 4) (0 : Int32).toNatClampNeg) then (.inr (some (v1I, σ8))) else (.inl (1, v0R, v1I + (1 : Int32), σ8))) else (.inr (some (((-1) : Int32), σ4)))
noncomputable def F_Rs_leastWeights : S_Rs_leastWeights → S_Rs_leastWeights ⊕ Option (Int32 × AM) := fun s => match s.1 with
  | 0 => T_Rs_leastWeights_0 (s.2.1) (s.2.2.2)
  | _ => T_Rs_leastWeights_1 (s.2.1) (s.2.2.1) (s.2.2.2)
noncomputable def L_Rs_leastWeights_0 (v0R : Nat) (σ : AM) : Option (Int32 × AM) := lp F_Rs_leastWeights (0, v0R, 0, σ)
noncomputable def L_Rs_leastWeights_1 (v0R : Nat) (v1I : Int32) (σ : AM) : Option (Int32 × AM) := lp F_Rs_leastWeights (1, v0R, v1I, σ)
set_option maxRecDepth 20000 in
theorem E_Rs_leastWeights_0 (v0R : Nat) (σ : AM) : L_Rs_leastWeights_0 v0R σ = (gd (okO σ v0R 5) <| if (aI σ v0R 5) = 0 then ((some (((-1) : Int32), σ))) else (L_Rs_leastWeights_1 v0R ((0 : Int32)) σ)) := by
  unfold L_Rs_leastWeights_0
  rw [lp_eq]
  show lpK (lp F_Rs_leastWeights) (T_Rs_leastWeights_0 v0R σ) = _
  unfold T_Rs_leastWeights_0
  simp only [lpK_ite, lq_inl, lq_inr, lpK_bnd, lpK_gd, lq_let]
  try rfl
set_option maxRecDepth 20000 in
theorem E_Rs_leastWeights_1 (v0R : Nat) (v1I : Int32) (σ : AM) : L_Rs_leastWeights_1 v0R v1I σ = (gd (okO σ v0R 5) <| gd (okO σ (aR σ v0R 0) 3) <| bnd (M_Ls_room (aR σ v0R 0) σ) fun r3 σ4 => if v1I < r3 then (gd (okO σ4 v0R 5) <| gd (okO σ4 (aR σ4 v0R 0) 3) <| bnd (M_Ls_numberOf (aR σ4 v0R 0) v1I σ4) fun r7 σ8 => gd (okO σ8 v0R 5) <| gd (okO σ8 (aR σ8 v0R 4) 101) <| gd (inB (0 : Int32) (aN σ8 (aR σ8 v0R 4))) <| if r7 = (aI σ8 (aR σ8 v0R 4) (0 : Int32).toNatClampNeg) then ((some (v1I, σ8))) else (L_Rs_leastWeights_1 v0R (v1I + (1 : Int32)) σ8)) else ((some (((-1) : Int32), σ4)))) := by
  unfold L_Rs_leastWeights_1
  rw [lp_eq]
  show lpK (lp F_Rs_leastWeights) (T_Rs_leastWeights_1 v0R v1I σ) = _
  unfold T_Rs_leastWeights_1
  simp only [lpK_ite, lq_inl, lq_inr, lpK_bnd, lpK_gd, lq_let]
  try rfl
noncomputable def M_Rs_leastWeights (v0R : Nat) (σ : AM) : Option (Int32 × AM) := mw σ (L_Rs_leastWeights_0 v0R σ)
def I_Rs_leastWeights (G : GX) (p : Program) (l : Launch) (e : Env) (s : State) (m : MethodId) (args : Array Value) (below : List Frame) (meth : Method) (c : Code) (z0 u0 n : Nat) : Prop :=
  (∀ (v0R : Nat) (σ : AM), VX (QM eI G args s below z0 u0) G p l e s m args below meth c 1 z0 u0 2 (lpn F_Rs_leastWeights n (0, v0R, 0, σ)) 0 [(0, .ref v0R)] [] σ) ∧
  (∀ (v0R : Nat) (v1I : Int32) (σ : AM), VX (QM eI G args s below z0 u0) G p l e s m args below meth c 1 z0 u0 2 (lpn F_Rs_leastWeights n (1, v0R, v1I, σ)) 11 [(0, .ref v0R), (1, .int v1I)] [] σ)
set_option maxRecDepth 20000 in
theorem s_Rs_leastWeights_0 {G : GX} {p : Program} {l : Launch} {e : Env} {s : State} {m : MethodId} {args : Array Value} {below : List Frame} {meth : Method} {c : Code} {z0 u0 n : Nat} (C : Cx G p s m args meth c prog_10_method_11_code 2 "BellPlate$Rest" ((some FieldType.int))) (IH : I_Rs_leastWeights G p l e s m args below meth c z0 u0 n) (v0R : Nat) (σ : AM) : VX (QM eI G args s below z0 u0) G p l e s m args below meth c 1 z0 u0 2 (lpK (lpn F_Rs_leastWeights n) (T_Rs_leastWeights_0 v0R σ)) 0 [(0, .ref v0R)] [] σ := by
  unfold T_Rs_leastWeights_0
  refine x_aload_n C d_Rs_leastWeights_0 0 rfl ?_
  refine x_gd (fun h1 => ?_)
  refine x_getI (k := 5) C (okO_iff.mp h1) rfl j4_ok (by decide) rfl w344 d_Rs_leastWeights_1 ?_
  refine x_if_ne (tgt := 9) C d_Rs_leastWeights_4 (by decide) (fun _ => ?_) (fun _ => ?_)
  · refine x_iconst (v := ((-1) : Int32)) C d_Rs_leastWeights_7 (by decide) ?_
    exact x_iret C d_Rs_leastWeights_8
  · refine x_iconst (v := (0 : Int32)) C d_Rs_leastWeights_9 (by decide) ?_
    refine x_istore_n (lv' := [(1, .int (0 : Int32)), (0, .ref v0R)]) C d_Rs_leastWeights_10 (by decide) rfl rfl ?_
    refine x_lv [1, 0] rfl ?_
    exact IH.2 v0R ((0 : Int32)) (σ)
set_option maxRecDepth 20000 in
theorem s_Rs_leastWeights_1 {G : GX} {p : Program} {l : Launch} {e : Env} {s : State} {m : MethodId} {args : Array Value} {below : List Frame} {meth : Method} {c : Code} {z0 u0 n : Nat} (C : Cx G p s m args meth c prog_10_method_11_code 2 "BellPlate$Rest" ((some FieldType.int))) (IH : I_Rs_leastWeights G p l e s m args below meth c z0 u0 n) (v0R : Nat) (v1I : Int32) (σ : AM) : VX (QM eI G args s below z0 u0) G p l e s m args below meth c 1 z0 u0 2 (lpK (lpn F_Rs_leastWeights n) (T_Rs_leastWeights_1 v0R v1I σ)) 11 [(0, .ref v0R), (1, .int v1I)] [] σ := by
  unfold T_Rs_leastWeights_1
  refine x_iload_n C d_Rs_leastWeights_11 1 rfl ?_
  refine x_aload_n C d_Rs_leastWeights_12 0 rfl ?_
  refine x_gd (fun h1 => ?_)
  refine x_gd (fun h2 => ?_)
  refine x_getR (k := 0) (kv := 3) C (okO_iff.mp h1) rfl j4_ok (by decide) rfl (okO_iff.mp h2) (by decide) w339 d_Rs_leastWeights_13 ?_
  refine x_callVI (As := []) C (c_Ls_room G l (aR σ v0R 0)  σ) (okO_iff.mp h2) rfl w1043 w1044 w1042 w1045 w123 k_Ls_room rfl (by decide) (by decide) rfl (Nat.le_of_ble_eq_true rfl) d_Rs_leastWeights_16 (fun r3 σ4 => ?_)
  refine x_icmp_ge (tgt := 47) C d_Rs_leastWeights_19 (by decide) (fun _ => ?_) (fun _ => ?_)
  · refine x_aload_n C d_Rs_leastWeights_22 0 rfl ?_
    refine x_gd (fun h5 => ?_)
    refine x_gd (fun h6 => ?_)
    refine x_getR (k := 0) (kv := 3) C (okO_iff.mp h5) rfl j4_ok (by decide) rfl (okO_iff.mp h6) (by decide) w339 d_Rs_leastWeights_23 ?_
    refine x_iload_n C d_Rs_leastWeights_26 1 rfl ?_
    refine x_callVI (As := [.int v1I]) C (c_Ls_numberOf G l (aR σ4 v0R 0) v1I σ4) (okO_iff.mp h6) rfl w983 w984 w1091 w985 w123 k_Ls_numberOf rfl (by decide) (by decide) rfl (Nat.le_of_ble_eq_true rfl) d_Rs_leastWeights_27 (fun r7 σ8 => ?_)
    refine x_aload_n C d_Rs_leastWeights_30 0 rfl ?_
    refine x_gd (fun h9 => ?_)
    refine x_gd (fun h10 => ?_)
    refine x_getR (k := 4) (kv := 101) C (okO_iff.mp h9) rfl j4_ok (by decide) rfl (okO_iff.mp h10) (by decide) w343 d_Rs_leastWeights_31 ?_
    refine x_iconst (v := (0 : Int32)) C d_Rs_leastWeights_34 (by decide) ?_
    refine x_gd (fun h11 => ?_)
    refine x_aldI C (okO_iff.mp h10) (inB_iff.mp h11) d_Rs_leastWeights_35 ?_
    refine x_icmp_ne (tgt := 41) C d_Rs_leastWeights_36 (by decide) (fun _ => ?_) (fun _ => ?_)
    · refine x_iload_n C d_Rs_leastWeights_39 1 rfl ?_
      exact x_iret C d_Rs_leastWeights_40
    · refine x_iinc (v := v1I + (1 : Int32)) (lv' := [(1, .int (v1I + (1 : Int32))), (0, .ref v0R)]) C d_Rs_leastWeights_41 1 rfl rfl (by decide) rfl ?_
      refine x_goto (tgt := 11) C d_Rs_leastWeights_44 (by decide) ?_
      refine x_lv [1, 0] rfl ?_
      exact IH.2 v0R (v1I + (1 : Int32)) (σ8)
  · refine x_iconst (v := ((-1) : Int32)) C d_Rs_leastWeights_47 (by decide) ?_
    exact x_iret C d_Rs_leastWeights_48
theorem i_Rs_leastWeights {G : GX} {p : Program} {l : Launch} {e : Env} {s : State} {m : MethodId} {args : Array Value} {below : List Frame} {meth : Method} {c : Code} {z0 u0 : Nat} (C : Cx G p s m args meth c prog_10_method_11_code 2 "BellPlate$Rest" ((some FieldType.int))) (n : Nat) : I_Rs_leastWeights G p l e s m args below meth c z0 u0 n := by
  induction n with
  | zero => exact ⟨fun _ _ => x_none, fun _ _ _ => x_none⟩
  | succ n IH => exact ⟨fun v0R σ => s_Rs_leastWeights_0 C IH v0R σ, fun v0R v1I σ => s_Rs_leastWeights_1 C IH v0R v1I σ⟩
theorem c_Rs_leastWeights (G : GX) (l : Launch) (v0R : Nat) (σ : AM) : CT eI G l 1 y_Rs_leastWeights prog_10_method_11_code 2 ((some FieldType.int)) [.ref v0R] σ (M_Rs_leastWeights v0R σ) := by
  refine ct_of (by decide +kernel) (Nat.le_of_ble_eq_true rfl) (fun p e s m args below meth c C hin => ?_)
  refine x_lve (lv' := [(0, .ref v0R)]) rfl ?_
  intro r σ' h
  obtain ⟨n, hn⟩ := (lp_iff _ _ _).mp h
  exact (i_Rs_leastWeights C n).1 v0R σ r σ' hn
/-! BellPlate$Rest.weightsRinging(I)I -/
abbrev y_Rs_weightsRinging : MethodName := ⟨"BellPlate$Rest", "weightsRinging", "(I)I"⟩
theorem k_Rs_weightsRinging : y_Rs_weightsRinging.cls ≠ "java/lang/invoke/MethodHandle" ∧ y_Rs_weightsRinging.cls ≠ "java/lang/invoke/VarHandle" ∧ (parseMethodDescriptor y_Rs_weightsRinging.desc).map (fun d => d.parameters.length) = some 1 := by decide +kernel
theorem d_Rs_weightsRinging_0 : decode prog_10_method_12_code 0 = .ok (.iconst 0, 1) := by decide +kernel
theorem d_Rs_weightsRinging_1 : decode prog_10_method_12_code 1 = .ok (.istore_n 2, 1) := by decide +kernel
theorem d_Rs_weightsRinging_2 : decode prog_10_method_12_code 2 = .ok (.iconst 0, 1) := by decide +kernel
theorem d_Rs_weightsRinging_3 : decode prog_10_method_12_code 3 = .ok (.istore_n 3, 1) := by decide +kernel
theorem d_Rs_weightsRinging_4 : decode prog_10_method_12_code 4 = .ok (.iload_n 3, 1) := by decide +kernel
theorem d_Rs_weightsRinging_5 : decode prog_10_method_12_code 5 = .ok (.aload_n 0, 1) := by decide +kernel
theorem d_Rs_weightsRinging_6 : decode prog_10_method_12_code 6 = .ok (.getfield 50, 3) := by decide +kernel
theorem d_Rs_weightsRinging_9 : decode prog_10_method_12_code 9 = .ok (.if_icmp .ge 37, 3) := by decide +kernel
theorem d_Rs_weightsRinging_12 : decode prog_10_method_12_code 12 = .ok (.aload_n 0, 1) := by decide +kernel
theorem d_Rs_weightsRinging_13 : decode prog_10_method_12_code 13 = .ok (.iload_n 3, 1) := by decide +kernel
theorem d_Rs_weightsRinging_14 : decode prog_10_method_12_code 14 = .ok (.invokevirtual 86, 3) := by decide +kernel
theorem d_Rs_weightsRinging_17 : decode prog_10_method_12_code 17 = .ok (.iload_n 1, 1) := by decide +kernel
theorem d_Rs_weightsRinging_18 : decode prog_10_method_12_code 18 = .ok (.invokestatic 89, 3) := by decide +kernel
theorem d_Rs_weightsRinging_21 : decode prog_10_method_12_code 21 = .ok (.ifCond .eq 19, 3) := by decide +kernel
theorem d_Rs_weightsRinging_24 : decode prog_10_method_12_code 24 = .ok (.iload_n 2, 1) := by decide +kernel
theorem d_Rs_weightsRinging_25 : decode prog_10_method_12_code 25 = .ok (.aload_n 0, 1) := by decide +kernel
theorem d_Rs_weightsRinging_26 : decode prog_10_method_12_code 26 = .ok (.getfield 9, 3) := by decide +kernel
theorem d_Rs_weightsRinging_29 : decode prog_10_method_12_code 29 = .ok (.aload_n 0, 1) := by decide +kernel
theorem d_Rs_weightsRinging_30 : decode prog_10_method_12_code 30 = .ok (.getfield 29, 3) := by decide +kernel
theorem d_Rs_weightsRinging_33 : decode prog_10_method_12_code 33 = .ok (.iload_n 3, 1) := by decide +kernel
theorem d_Rs_weightsRinging_34 : decode prog_10_method_12_code 34 = .ok (.iaload, 1) := by decide +kernel
theorem d_Rs_weightsRinging_35 : decode prog_10_method_12_code 35 = .ok (.invokevirtual 79, 3) := by decide +kernel
theorem d_Rs_weightsRinging_38 : decode prog_10_method_12_code 38 = .ok (.iadd, 1) := by decide +kernel
theorem d_Rs_weightsRinging_39 : decode prog_10_method_12_code 39 = .ok (.istore_n 2, 1) := by decide +kernel
theorem d_Rs_weightsRinging_40 : decode prog_10_method_12_code 40 = .ok (.iinc 3 1, 3) := by decide +kernel
theorem d_Rs_weightsRinging_43 : decode prog_10_method_12_code 43 = .ok (.goto (-39), 3) := by decide +kernel
theorem d_Rs_weightsRinging_46 : decode prog_10_method_12_code 46 = .ok (.iload_n 2, 1) := by decide +kernel
theorem d_Rs_weightsRinging_47 : decode prog_10_method_12_code 47 = .ok (.ireturn, 1) := by decide +kernel
abbrev S_Rs_weightsRinging : Type := Nat × Nat × Int32 × Int32 × Int32 × AM
noncomputable def T_Rs_weightsRinging_0 (v0R : Nat) (v1I : Int32) (σ : AM) : S_Rs_weightsRinging ⊕ Option (Int32 × AM) :=
  .inl (1, v0R, v1I, (0 : Int32), (0 : Int32), σ)
noncomputable def T_Rs_weightsRinging_1 (v0R : Nat) (v1I : Int32) (v2I : Int32) (v3I : Int32) (σ : AM) : S_Rs_weightsRinging ⊕ Option (Int32 × AM) :=
  gdT (okO σ v0R 5) <| if v3I < (aI σ v0R 5) then (bndT (M_Rs_listAt v0R v3I σ) fun r2 σ3 => bndT (M_St_has r2 v1I σ3) fun r4 σ5 => if r4 = 0 then (.inl (2, v0R, v1I, v2I, v3I, σ5)) else (gdT (okO σ5 v0R 5) <| gdT (okO σ5 (aR σ5 v0R 0) 3) <| gdT (okO σ5 (aR σ5 v0R 4) 101) <| gdT (inB v3I (aN σ5 (aR σ5 v0R 4))) <| bndT (M_Ls_share (aR σ5 v0R 0) (aI σ5 (aR σ5 v0R 4) v3I.toNatClampNeg) σ5) fun r10 σ11 => letT (v2I + r10) fun x12 => .inl (2, v0R, v1I, x12, v3I, σ11))) else (.inr (some (v2I, σ)))
noncomputable def T_Rs_weightsRinging_2 (v0R : Nat) (v1I : Int32) (v2I : Int32) (v3I : Int32) (σ : AM) : S_Rs_weightsRinging ⊕ Option (Int32 × AM) :=
  .inl (1, v0R, v1I, v2I, v3I + (1 : Int32), σ)
noncomputable def F_Rs_weightsRinging : S_Rs_weightsRinging → S_Rs_weightsRinging ⊕ Option (Int32 × AM) := fun s => match s.1 with
  | 0 => T_Rs_weightsRinging_0 (s.2.1) (s.2.2.1) (s.2.2.2.2.2)
  | 1 => T_Rs_weightsRinging_1 (s.2.1) (s.2.2.1) (s.2.2.2.1) (s.2.2.2.2.1) (s.2.2.2.2.2)
  | _ => T_Rs_weightsRinging_2 (s.2.1) (s.2.2.1) (s.2.2.2.1) (s.2.2.2.2.1) (s.2.2.2.2.2)
noncomputable def L_Rs_weightsRinging_0 (v0R : Nat) (v1I : Int32) (σ : AM) : Option (Int32 × AM) := lp F_Rs_weightsRinging (0, v0R, v1I, 0, 0, σ)
noncomputable def L_Rs_weightsRinging_1 (v0R : Nat) (v1I : Int32) (v2I : Int32) (v3I : Int32) (σ : AM) : Option (Int32 × AM) := lp F_Rs_weightsRinging (1, v0R, v1I, v2I, v3I, σ)
noncomputable def L_Rs_weightsRinging_2 (v0R : Nat) (v1I : Int32) (v2I : Int32) (v3I : Int32) (σ : AM) : Option (Int32 × AM) := lp F_Rs_weightsRinging (2, v0R, v1I, v2I, v3I, σ)
set_option maxRecDepth 20000 in
theorem E_Rs_weightsRinging_0 (v0R : Nat) (v1I : Int32) (σ : AM) : L_Rs_weightsRinging_0 v0R v1I σ = (L_Rs_weightsRinging_1 v0R v1I ((0 : Int32)) ((0 : Int32)) σ) := by
  unfold L_Rs_weightsRinging_0
  rw [lp_eq]
  show lpK (lp F_Rs_weightsRinging) (T_Rs_weightsRinging_0 v0R v1I σ) = _
  unfold T_Rs_weightsRinging_0
  simp only [lpK_ite, lq_inl, lq_inr, lpK_bnd, lpK_gd, lq_let]
  try rfl
set_option maxRecDepth 20000 in
theorem E_Rs_weightsRinging_1 (v0R : Nat) (v1I : Int32) (v2I : Int32) (v3I : Int32) (σ : AM) : L_Rs_weightsRinging_1 v0R v1I v2I v3I σ = (gd (okO σ v0R 5) <| if v3I < (aI σ v0R 5) then (bnd (M_Rs_listAt v0R v3I σ) fun r2 σ3 => bnd (M_St_has r2 v1I σ3) fun r4 σ5 => if r4 = 0 then (L_Rs_weightsRinging_2 v0R v1I v2I v3I σ5) else (gd (okO σ5 v0R 5) <| gd (okO σ5 (aR σ5 v0R 0) 3) <| gd (okO σ5 (aR σ5 v0R 4) 101) <| gd (inB v3I (aN σ5 (aR σ5 v0R 4))) <| bnd (M_Ls_share (aR σ5 v0R 0) (aI σ5 (aR σ5 v0R 4) v3I.toNatClampNeg) σ5) fun r10 σ11 => letT (v2I + r10) fun x12 => L_Rs_weightsRinging_2 v0R v1I x12 v3I σ11)) else ((some (v2I, σ)))) := by
  unfold L_Rs_weightsRinging_1
  rw [lp_eq]
  show lpK (lp F_Rs_weightsRinging) (T_Rs_weightsRinging_1 v0R v1I v2I v3I σ) = _
  unfold T_Rs_weightsRinging_1
  simp only [lpK_ite, lq_inl, lq_inr, lpK_bnd, lpK_gd, lq_let]
  try rfl
set_option maxRecDepth 20000 in
theorem E_Rs_weightsRinging_2 (v0R : Nat) (v1I : Int32) (v2I : Int32) (v3I : Int32) (σ : AM) : L_Rs_weightsRinging_2 v0R v1I v2I v3I σ = (L_Rs_weightsRinging_1 v0R v1I v2I (v3I + (1 : Int32)) σ) := by
  unfold L_Rs_weightsRinging_2
  rw [lp_eq]
  show lpK (lp F_Rs_weightsRinging) (T_Rs_weightsRinging_2 v0R v1I v2I v3I σ) = _
  unfold T_Rs_weightsRinging_2
  simp only [lpK_ite, lq_inl, lq_inr, lpK_bnd, lpK_gd, lq_let]
  try rfl
noncomputable def M_Rs_weightsRinging (v0R : Nat) (v1I : Int32) (σ : AM) : Option (Int32 × AM) := mw σ (L_Rs_weightsRinging_0 v0R v1I σ)
def I_Rs_weightsRinging (G : GX) (p : Program) (l : Launch) (e : Env) (s : State) (m : MethodId) (args : Array Value) (below : List Frame) (meth : Method) (c : Code) (z0 u0 n : Nat) : Prop :=
  (∀ (v0R : Nat) (v1I : Int32) (σ : AM), VX (QM eI G args s below z0 u0) G p l e s m args below meth c 2 z0 u0 4 (lpn F_Rs_weightsRinging n (0, v0R, v1I, 0, 0, σ)) 0 [(0, .ref v0R), (1, .int v1I)] [] σ) ∧
  (∀ (v0R : Nat) (v1I : Int32) (v2I : Int32) (v3I : Int32) (σ : AM), VX (QM eI G args s below z0 u0) G p l e s m args below meth c 2 z0 u0 4 (lpn F_Rs_weightsRinging n (1, v0R, v1I, v2I, v3I, σ)) 4 [(0, .ref v0R), (1, .int v1I), (2, .int v2I), (3, .int v3I)] [] σ) ∧
  (∀ (v0R : Nat) (v1I : Int32) (v2I : Int32) (v3I : Int32) (σ : AM), VX (QM eI G args s below z0 u0) G p l e s m args below meth c 2 z0 u0 4 (lpn F_Rs_weightsRinging n (2, v0R, v1I, v2I, v3I, σ)) 40 [(0, .ref v0R), (1, .int v1I), (2, .int v2I), (3, .int v3I)] [] σ)
set_option maxRecDepth 20000 in
theorem s_Rs_weightsRinging_0 {G : GX} {p : Program} {l : Launch} {e : Env} {s : State} {m : MethodId} {args : Array Value} {below : List Frame} {meth : Method} {c : Code} {z0 u0 n : Nat} (C : Cx G p s m args meth c prog_10_method_12_code 4 "BellPlate$Rest" ((some FieldType.int))) (IH : I_Rs_weightsRinging G p l e s m args below meth c z0 u0 n) (v0R : Nat) (v1I : Int32) (σ : AM) : VX (QM eI G args s below z0 u0) G p l e s m args below meth c 2 z0 u0 4 (lpK (lpn F_Rs_weightsRinging n) (T_Rs_weightsRinging_0 v0R v1I σ)) 0 [(0, .ref v0R), (1, .int v1I)] [] σ := by
  unfold T_Rs_weightsRinging_0
  refine x_iconst (v := (0 : Int32)) C d_Rs_weightsRinging_0 (by decide) ?_
  refine x_istore_n (lv' := [(2, .int (0 : Int32)), (0, .ref v0R), (1, .int v1I)]) C d_Rs_weightsRinging_1 (by decide) rfl rfl ?_
  refine x_iconst (v := (0 : Int32)) C d_Rs_weightsRinging_2 (by decide) ?_
  refine x_istore_n (lv' := [(3, .int (0 : Int32)), (2, .int (0 : Int32)), (0, .ref v0R), (1, .int v1I)]) C d_Rs_weightsRinging_3 (by decide) rfl rfl ?_
  refine x_lv [2, 3, 1, 0] rfl ?_
  exact IH.2.1 v0R v1I ((0 : Int32)) ((0 : Int32)) (σ)
set_option maxRecDepth 20000 in
theorem s_Rs_weightsRinging_1 {G : GX} {p : Program} {l : Launch} {e : Env} {s : State} {m : MethodId} {args : Array Value} {below : List Frame} {meth : Method} {c : Code} {z0 u0 n : Nat} (C : Cx G p s m args meth c prog_10_method_12_code 4 "BellPlate$Rest" ((some FieldType.int))) (IH : I_Rs_weightsRinging G p l e s m args below meth c z0 u0 n) (v0R : Nat) (v1I : Int32) (v2I : Int32) (v3I : Int32) (σ : AM) : VX (QM eI G args s below z0 u0) G p l e s m args below meth c 2 z0 u0 4 (lpK (lpn F_Rs_weightsRinging n) (T_Rs_weightsRinging_1 v0R v1I v2I v3I σ)) 4 [(0, .ref v0R), (1, .int v1I), (2, .int v2I), (3, .int v3I)] [] σ := by
  unfold T_Rs_weightsRinging_1
  refine x_iload_n C d_Rs_weightsRinging_4 3 rfl ?_
  refine x_aload_n C d_Rs_weightsRinging_5 0 rfl ?_
  refine x_gd (fun h1 => ?_)
  refine x_getI (k := 5) C (okO_iff.mp h1) rfl j4_ok (by decide) rfl w344 d_Rs_weightsRinging_6 ?_
  refine x_icmp_ge (tgt := 46) C d_Rs_weightsRinging_9 (by decide) (fun _ => ?_) (fun _ => ?_)
  · refine x_aload_n C d_Rs_weightsRinging_12 0 rfl ?_
    refine x_iload_n C d_Rs_weightsRinging_13 3 rfl ?_
    refine x_callVJ (As := [.int v3I]) C (c_Rs_listAt G l v0R v3I σ) (okO_iff.mp h1) rfl w1121 w1122 w1528 w1123 w125 k_Rs_listAt rfl (by decide) (by decide) rfl (Nat.le_of_ble_eq_true rfl) d_Rs_weightsRinging_14 (fun r2 σ3 => ?_)
    refine x_iload_n C d_Rs_weightsRinging_17 1 rfl ?_
    refine x_callSI (As := [.long r2, .int v1I]) C (c_St_has G l r2 v1I σ3) w1101 w1643 w1102 w141 k_St_has rfl (by decide) (by decide) rfl (Nat.le_of_ble_eq_true rfl) d_Rs_weightsRinging_18 (fun r4 σ5 => ?_)
    refine x_if_eq (tgt := 40) C d_Rs_weightsRinging_21 (by decide) (fun _ => ?_) (fun _ => ?_)
    · exact IH.2.2 v0R v1I v2I v3I (σ5)
    · refine x_iload_n C d_Rs_weightsRinging_24 2 rfl ?_
      refine x_aload_n C d_Rs_weightsRinging_25 0 rfl ?_
      refine x_gd (fun h6 => ?_)
      refine x_gd (fun h7 => ?_)
      refine x_getR (k := 0) (kv := 3) C (okO_iff.mp h6) rfl j4_ok (by decide) rfl (okO_iff.mp h7) (by decide) w339 d_Rs_weightsRinging_26 ?_
      refine x_aload_n C d_Rs_weightsRinging_29 0 rfl ?_
      refine x_gd (fun h8 => ?_)
      refine x_getR (k := 4) (kv := 101) C (okO_iff.mp h6) rfl j4_ok (by decide) rfl (okO_iff.mp h8) (by decide) w343 d_Rs_weightsRinging_30 ?_
      refine x_iload_n C d_Rs_weightsRinging_33 3 rfl ?_
      refine x_gd (fun h9 => ?_)
      refine x_aldI C (okO_iff.mp h8) (inB_iff.mp h9) d_Rs_weightsRinging_34 ?_
      refine x_callVI (As := [.int (aI σ5 (aR σ5 v0R 4) v3I.toNatClampNeg)]) C (c_Ls_share G l (aR σ5 v0R 0) (aI σ5 (aR σ5 v0R 4) v3I.toNatClampNeg) σ5) (okO_iff.mp h7) rfl w1076 w1077 w1075 w1078 w123 k_Ls_share rfl (by decide) (by decide) rfl (Nat.le_of_ble_eq_true rfl) d_Rs_weightsRinging_35 (fun r10 σ11 => ?_)
      refine x_iadd C d_Rs_weightsRinging_38 ?_
      refine x_letI (fun x12 _ => ?_)
      refine x_istore_n (lv' := [(2, .int x12), (0, .ref v0R), (1, .int v1I), (3, .int v3I)]) C d_Rs_weightsRinging_39 (by decide) rfl rfl ?_
      refine x_lv [1, 2, 0, 3] rfl ?_
      exact IH.2.2 v0R v1I x12 v3I (σ11)
  · refine x_iload_n C d_Rs_weightsRinging_46 2 rfl ?_
    exact x_iret C d_Rs_weightsRinging_47
set_option maxRecDepth 20000 in
theorem s_Rs_weightsRinging_2 {G : GX} {p : Program} {l : Launch} {e : Env} {s : State} {m : MethodId} {args : Array Value} {below : List Frame} {meth : Method} {c : Code} {z0 u0 n : Nat} (C : Cx G p s m args meth c prog_10_method_12_code 4 "BellPlate$Rest" ((some FieldType.int))) (IH : I_Rs_weightsRinging G p l e s m args below meth c z0 u0 n) (v0R : Nat) (v1I : Int32) (v2I : Int32) (v3I : Int32) (σ : AM) : VX (QM eI G args s below z0 u0) G p l e s m args below meth c 2 z0 u0 4 (lpK (lpn F_Rs_weightsRinging n) (T_Rs_weightsRinging_2 v0R v1I v2I v3I σ)) 40 [(0, .ref v0R), (1, .int v1I), (2, .int v2I), (3, .int v3I)] [] σ := by
  unfold T_Rs_weightsRinging_2
  refine x_iinc (v := v3I + (1 : Int32)) (lv' := [(3, .int (v3I + (1 : Int32))), (0, .ref v0R), (1, .int v1I), (2, .int v2I)]) C d_Rs_weightsRinging_40 3 rfl rfl (by decide) rfl ?_
  refine x_goto (tgt := 4) C d_Rs_weightsRinging_43 (by decide) ?_
  refine x_lv [1, 2, 3, 0] rfl ?_
  exact IH.2.1 v0R v1I v2I (v3I + (1 : Int32)) (σ)
theorem i_Rs_weightsRinging {G : GX} {p : Program} {l : Launch} {e : Env} {s : State} {m : MethodId} {args : Array Value} {below : List Frame} {meth : Method} {c : Code} {z0 u0 : Nat} (C : Cx G p s m args meth c prog_10_method_12_code 4 "BellPlate$Rest" ((some FieldType.int))) (n : Nat) : I_Rs_weightsRinging G p l e s m args below meth c z0 u0 n := by
  induction n with
  | zero => exact ⟨fun _ _ _ => x_none, fun _ _ _ _ _ => x_none, fun _ _ _ _ _ => x_none⟩
  | succ n IH => exact ⟨fun v0R v1I σ => s_Rs_weightsRinging_0 C IH v0R v1I σ, fun v0R v1I v2I v3I σ => s_Rs_weightsRinging_1 C IH v0R v1I v2I v3I σ, fun v0R v1I v2I v3I σ => s_Rs_weightsRinging_2 C IH v0R v1I v2I v3I σ⟩
theorem c_Rs_weightsRinging (G : GX) (l : Launch) (v0R : Nat) (v1I : Int32) (σ : AM) : CT eI G l 2 y_Rs_weightsRinging prog_10_method_12_code 4 ((some FieldType.int)) [.ref v0R, .int v1I] σ (M_Rs_weightsRinging v0R v1I σ) := by
  refine ct_of (by decide +kernel) (Nat.le_of_ble_eq_true rfl) (fun p e s m args below meth c C hin => ?_)
  refine x_lve (lv' := [(0, .ref v0R), (1, .int v1I)]) rfl ?_
  intro r σ' h
  obtain ⟨n, hn⟩ := (lp_iff _ _ _).mp h
  exact (i_Rs_weightsRinging C n).1 v0R v1I σ r σ' hn
/-! BellPlate$Rest.fewestRinging()I -/
abbrev y_Rs_fewestRinging : MethodName := ⟨"BellPlate$Rest", "fewestRinging", "()I"⟩
theorem k_Rs_fewestRinging : y_Rs_fewestRinging.cls ≠ "java/lang/invoke/MethodHandle" ∧ y_Rs_fewestRinging.cls ≠ "java/lang/invoke/VarHandle" ∧ (parseMethodDescriptor y_Rs_fewestRinging.desc).map (fun d => d.parameters.length) = some 0 := by decide +kernel
theorem d_Rs_fewestRinging_0 : decode prog_10_method_13_code 0 = .ok (.bipush 64, 2) := by decide +kernel
theorem d_Rs_fewestRinging_2 : decode prog_10_method_13_code 2 = .ok (.istore_n 1, 1) := by decide +kernel
theorem d_Rs_fewestRinging_3 : decode prog_10_method_13_code 3 = .ok (.iconst 0, 1) := by decide +kernel
theorem d_Rs_fewestRinging_4 : decode prog_10_method_13_code 4 = .ok (.istore_n 2, 1) := by decide +kernel
theorem d_Rs_fewestRinging_5 : decode prog_10_method_13_code 5 = .ok (.iload_n 2, 1) := by decide +kernel
theorem d_Rs_fewestRinging_6 : decode prog_10_method_13_code 6 = .ok (.aload_n 0, 1) := by decide +kernel
theorem d_Rs_fewestRinging_7 : decode prog_10_method_13_code 7 = .ok (.getfield 50, 3) := by decide +kernel
theorem d_Rs_fewestRinging_10 : decode prog_10_method_13_code 10 = .ok (.if_icmp .ge 22, 3) := by decide +kernel
theorem d_Rs_fewestRinging_13 : decode prog_10_method_13_code 13 = .ok (.iload_n 1, 1) := by decide +kernel
theorem d_Rs_fewestRinging_14 : decode prog_10_method_13_code 14 = .ok (.aload_n 0, 1) := by decide +kernel
theorem d_Rs_fewestRinging_15 : decode prog_10_method_13_code 15 = .ok (.iload_n 2, 1) := by decide +kernel
theorem d_Rs_fewestRinging_16 : decode prog_10_method_13_code 16 = .ok (.invokevirtual 86, 3) := by decide +kernel
theorem d_Rs_fewestRinging_19 : decode prog_10_method_13_code 19 = .ok (.invokestatic 95, 3) := by decide +kernel
theorem d_Rs_fewestRinging_22 : decode prog_10_method_13_code 22 = .ok (.invokestatic 101, 3) := by decide +kernel
theorem d_Rs_fewestRinging_25 : decode prog_10_method_13_code 25 = .ok (.istore_n 1, 1) := by decide +kernel
theorem d_Rs_fewestRinging_26 : decode prog_10_method_13_code 26 = .ok (.iinc 2 1, 3) := by decide +kernel
theorem d_Rs_fewestRinging_29 : decode prog_10_method_13_code 29 = .ok (.goto (-24), 3) := by decide +kernel
theorem d_Rs_fewestRinging_32 : decode prog_10_method_13_code 32 = .ok (.iload_n 1, 1) := by decide +kernel
theorem d_Rs_fewestRinging_33 : decode prog_10_method_13_code 33 = .ok (.ireturn, 1) := by decide +kernel
abbrev S_Rs_fewestRinging : Type := Nat × Nat × Int32 × Int32 × AM
noncomputable def T_Rs_fewestRinging_0 (v0R : Nat) (σ : AM) : S_Rs_fewestRinging ⊕ Option (Int32 × AM) :=
  .inl (1, v0R, (64 : Int32), (0 : Int32), σ)
noncomputable def T_Rs_fewestRinging_1 (v0R : Nat) (v1I : Int32) (v2I : Int32) (σ : AM) : S_Rs_fewestRinging ⊕ Option (Int32 × AM) :=
  gdT (okO σ v0R 5) <| if v2I < (aI σ v0R 5) then (bndT (M_Rs_listAt v0R v2I σ) fun r2 σ3 => bndT (M_JLong_bitCount r2 σ3) fun r4 σ5 => letT (mnI v1I r4) fun x6 => .inl (1, v0R, x6, v2I + (1 : Int32), σ5)) else (.inr (some (v1I, σ)))
noncomputable def F_Rs_fewestRinging : S_Rs_fewestRinging → S_Rs_fewestRinging ⊕ Option (Int32 × AM) := fun s => match s.1 with
  | 0 => T_Rs_fewestRinging_0 (s.2.1) (s.2.2.2.2)
  | _ => T_Rs_fewestRinging_1 (s.2.1) (s.2.2.1) (s.2.2.2.1) (s.2.2.2.2)
noncomputable def L_Rs_fewestRinging_0 (v0R : Nat) (σ : AM) : Option (Int32 × AM) := lp F_Rs_fewestRinging (0, v0R, 0, 0, σ)
noncomputable def L_Rs_fewestRinging_1 (v0R : Nat) (v1I : Int32) (v2I : Int32) (σ : AM) : Option (Int32 × AM) := lp F_Rs_fewestRinging (1, v0R, v1I, v2I, σ)
set_option maxRecDepth 20000 in
theorem E_Rs_fewestRinging_0 (v0R : Nat) (σ : AM) : L_Rs_fewestRinging_0 v0R σ = (L_Rs_fewestRinging_1 v0R ((64 : Int32)) ((0 : Int32)) σ) := by
  unfold L_Rs_fewestRinging_0
  rw [lp_eq]
  show lpK (lp F_Rs_fewestRinging) (T_Rs_fewestRinging_0 v0R σ) = _
  unfold T_Rs_fewestRinging_0
  simp only [lpK_ite, lq_inl, lq_inr, lpK_bnd, lpK_gd, lq_let]
  try rfl
set_option maxRecDepth 20000 in
theorem E_Rs_fewestRinging_1 (v0R : Nat) (v1I : Int32) (v2I : Int32) (σ : AM) : L_Rs_fewestRinging_1 v0R v1I v2I σ = (gd (okO σ v0R 5) <| if v2I < (aI σ v0R 5) then (bnd (M_Rs_listAt v0R v2I σ) fun r2 σ3 => bnd (M_JLong_bitCount r2 σ3) fun r4 σ5 => letT (mnI v1I r4) fun x6 => L_Rs_fewestRinging_1 v0R x6 (v2I + (1 : Int32)) σ5) else ((some (v1I, σ)))) := by
  unfold L_Rs_fewestRinging_1
  rw [lp_eq]
  show lpK (lp F_Rs_fewestRinging) (T_Rs_fewestRinging_1 v0R v1I v2I σ) = _
  unfold T_Rs_fewestRinging_1
  simp only [lpK_ite, lq_inl, lq_inr, lpK_bnd, lpK_gd, lq_let]
  try rfl
noncomputable def M_Rs_fewestRinging (v0R : Nat) (σ : AM) : Option (Int32 × AM) := mw σ (L_Rs_fewestRinging_0 v0R σ)
def I_Rs_fewestRinging (G : GX) (p : Program) (l : Launch) (e : Env) (s : State) (m : MethodId) (args : Array Value) (below : List Frame) (meth : Method) (c : Code) (z0 u0 n : Nat) : Prop :=
  (∀ (v0R : Nat) (σ : AM), VX (QM eI G args s below z0 u0) G p l e s m args below meth c 2 z0 u0 3 (lpn F_Rs_fewestRinging n (0, v0R, 0, 0, σ)) 0 [(0, .ref v0R)] [] σ) ∧
  (∀ (v0R : Nat) (v1I : Int32) (v2I : Int32) (σ : AM), VX (QM eI G args s below z0 u0) G p l e s m args below meth c 2 z0 u0 3 (lpn F_Rs_fewestRinging n (1, v0R, v1I, v2I, σ)) 5 [(0, .ref v0R), (1, .int v1I), (2, .int v2I)] [] σ)
set_option maxRecDepth 20000 in
theorem s_Rs_fewestRinging_0 {G : GX} {p : Program} {l : Launch} {e : Env} {s : State} {m : MethodId} {args : Array Value} {below : List Frame} {meth : Method} {c : Code} {z0 u0 n : Nat} (C : Cx G p s m args meth c prog_10_method_13_code 3 "BellPlate$Rest" ((some FieldType.int))) (IH : I_Rs_fewestRinging G p l e s m args below meth c z0 u0 n) (v0R : Nat) (σ : AM) : VX (QM eI G args s below z0 u0) G p l e s m args below meth c 2 z0 u0 3 (lpK (lpn F_Rs_fewestRinging n) (T_Rs_fewestRinging_0 v0R σ)) 0 [(0, .ref v0R)] [] σ := by
  unfold T_Rs_fewestRinging_0
  refine x_bipush (v := (64 : Int32)) C d_Rs_fewestRinging_0 (by decide) ?_
  refine x_istore_n (lv' := [(1, .int (64 : Int32)), (0, .ref v0R)]) C d_Rs_fewestRinging_2 (by decide) rfl rfl ?_
  refine x_iconst (v := (0 : Int32)) C d_Rs_fewestRinging_3 (by decide) ?_
  refine x_istore_n (lv' := [(2, .int (0 : Int32)), (1, .int (64 : Int32)), (0, .ref v0R)]) C d_Rs_fewestRinging_4 (by decide) rfl rfl ?_
  refine x_lv [2, 1, 0] rfl ?_
  exact IH.2 v0R ((64 : Int32)) ((0 : Int32)) (σ)
set_option maxRecDepth 20000 in
theorem s_Rs_fewestRinging_1 {G : GX} {p : Program} {l : Launch} {e : Env} {s : State} {m : MethodId} {args : Array Value} {below : List Frame} {meth : Method} {c : Code} {z0 u0 n : Nat} (C : Cx G p s m args meth c prog_10_method_13_code 3 "BellPlate$Rest" ((some FieldType.int))) (IH : I_Rs_fewestRinging G p l e s m args below meth c z0 u0 n) (v0R : Nat) (v1I : Int32) (v2I : Int32) (σ : AM) : VX (QM eI G args s below z0 u0) G p l e s m args below meth c 2 z0 u0 3 (lpK (lpn F_Rs_fewestRinging n) (T_Rs_fewestRinging_1 v0R v1I v2I σ)) 5 [(0, .ref v0R), (1, .int v1I), (2, .int v2I)] [] σ := by
  unfold T_Rs_fewestRinging_1
  refine x_iload_n C d_Rs_fewestRinging_5 2 rfl ?_
  refine x_aload_n C d_Rs_fewestRinging_6 0 rfl ?_
  refine x_gd (fun h1 => ?_)
  refine x_getI (k := 5) C (okO_iff.mp h1) rfl j4_ok (by decide) rfl w344 d_Rs_fewestRinging_7 ?_
  refine x_icmp_ge (tgt := 32) C d_Rs_fewestRinging_10 (by decide) (fun _ => ?_) (fun _ => ?_)
  · refine x_iload_n C d_Rs_fewestRinging_13 1 rfl ?_
    refine x_aload_n C d_Rs_fewestRinging_14 0 rfl ?_
    refine x_iload_n C d_Rs_fewestRinging_15 2 rfl ?_
    refine x_callVJ (As := [.int v2I]) C (c_Rs_listAt G l v0R v2I σ) (okO_iff.mp h1) rfl w1121 w1122 w1528 w1123 w125 k_Rs_listAt rfl (by decide) (by decide) rfl (Nat.le_of_ble_eq_true rfl) d_Rs_fewestRinging_16 (fun r2 σ3 => ?_)
    refine x_callSI (As := [.long r2]) C (c_JLong_bitCount G l r2 σ3) w1066 w1529 w1067 w142 k_JLong_bitCount rfl (by decide) (by decide) rfl (Nat.le_of_ble_eq_true rfl) d_Rs_fewestRinging_19 (fun r4 σ5 => ?_)
    refine x_mmin C w1530 (by decide) (Nat.le_of_ble_eq_true rfl) d_Rs_fewestRinging_22 ?_
    refine x_letI (fun x6 _ => ?_)
    refine x_istore_n (lv' := [(1, .int x6), (0, .ref v0R), (2, .int v2I)]) C d_Rs_fewestRinging_25 (by decide) rfl rfl ?_
    refine x_iinc (v := v2I + (1 : Int32)) (lv' := [(2, .int (v2I + (1 : Int32))), (1, .int x6), (0, .ref v0R)]) C d_Rs_fewestRinging_26 2 rfl rfl (by decide) rfl ?_
    refine x_goto (tgt := 5) C d_Rs_fewestRinging_29 (by decide) ?_
    refine x_lv [2, 1, 0] rfl ?_
    exact IH.2 v0R x6 (v2I + (1 : Int32)) (σ5)
  · refine x_iload_n C d_Rs_fewestRinging_32 1 rfl ?_
    exact x_iret C d_Rs_fewestRinging_33
theorem i_Rs_fewestRinging {G : GX} {p : Program} {l : Launch} {e : Env} {s : State} {m : MethodId} {args : Array Value} {below : List Frame} {meth : Method} {c : Code} {z0 u0 : Nat} (C : Cx G p s m args meth c prog_10_method_13_code 3 "BellPlate$Rest" ((some FieldType.int))) (n : Nat) : I_Rs_fewestRinging G p l e s m args below meth c z0 u0 n := by
  induction n with
  | zero => exact ⟨fun _ _ => x_none, fun _ _ _ _ => x_none⟩
  | succ n IH => exact ⟨fun v0R σ => s_Rs_fewestRinging_0 C IH v0R σ, fun v0R v1I v2I σ => s_Rs_fewestRinging_1 C IH v0R v1I v2I σ⟩
theorem c_Rs_fewestRinging (G : GX) (l : Launch) (v0R : Nat) (σ : AM) : CT eI G l 2 y_Rs_fewestRinging prog_10_method_13_code 3 ((some FieldType.int)) [.ref v0R] σ (M_Rs_fewestRinging v0R σ) := by
  refine ct_of (by decide +kernel) (Nat.le_of_ble_eq_true rfl) (fun p e s m args below meth c C hin => ?_)
  refine x_lve (lv' := [(0, .ref v0R)]) rfl ?_
  intro r σ' h
  obtain ⟨n, hn⟩ := (lp_iff _ _ _).mp h
  exact (i_Rs_fewestRinging C n).1 v0R σ r σ' hn
/-! BellPlate$Rest.mostRinging()I -/
abbrev y_Rs_mostRinging : MethodName := ⟨"BellPlate$Rest", "mostRinging", "()I"⟩
theorem k_Rs_mostRinging : y_Rs_mostRinging.cls ≠ "java/lang/invoke/MethodHandle" ∧ y_Rs_mostRinging.cls ≠ "java/lang/invoke/VarHandle" ∧ (parseMethodDescriptor y_Rs_mostRinging.desc).map (fun d => d.parameters.length) = some 0 := by decide +kernel
theorem d_Rs_mostRinging_0 : decode prog_10_method_14_code 0 = .ok (.iconst 0, 1) := by decide +kernel
theorem d_Rs_mostRinging_1 : decode prog_10_method_14_code 1 = .ok (.istore_n 1, 1) := by decide +kernel
theorem d_Rs_mostRinging_2 : decode prog_10_method_14_code 2 = .ok (.iconst 0, 1) := by decide +kernel
theorem d_Rs_mostRinging_3 : decode prog_10_method_14_code 3 = .ok (.istore_n 2, 1) := by decide +kernel
theorem d_Rs_mostRinging_4 : decode prog_10_method_14_code 4 = .ok (.iload_n 2, 1) := by decide +kernel
theorem d_Rs_mostRinging_5 : decode prog_10_method_14_code 5 = .ok (.aload_n 0, 1) := by decide +kernel
theorem d_Rs_mostRinging_6 : decode prog_10_method_14_code 6 = .ok (.getfield 50, 3) := by decide +kernel
theorem d_Rs_mostRinging_9 : decode prog_10_method_14_code 9 = .ok (.if_icmp .ge 22, 3) := by decide +kernel
theorem d_Rs_mostRinging_12 : decode prog_10_method_14_code 12 = .ok (.iload_n 1, 1) := by decide +kernel
theorem d_Rs_mostRinging_13 : decode prog_10_method_14_code 13 = .ok (.aload_n 0, 1) := by decide +kernel
theorem d_Rs_mostRinging_14 : decode prog_10_method_14_code 14 = .ok (.iload_n 2, 1) := by decide +kernel
theorem d_Rs_mostRinging_15 : decode prog_10_method_14_code 15 = .ok (.invokevirtual 86, 3) := by decide +kernel
theorem d_Rs_mostRinging_18 : decode prog_10_method_14_code 18 = .ok (.invokestatic 95, 3) := by decide +kernel
theorem d_Rs_mostRinging_21 : decode prog_10_method_14_code 21 = .ok (.invokestatic 107, 3) := by decide +kernel
theorem d_Rs_mostRinging_24 : decode prog_10_method_14_code 24 = .ok (.istore_n 1, 1) := by decide +kernel
theorem d_Rs_mostRinging_25 : decode prog_10_method_14_code 25 = .ok (.iinc 2 1, 3) := by decide +kernel
theorem d_Rs_mostRinging_28 : decode prog_10_method_14_code 28 = .ok (.goto (-24), 3) := by decide +kernel
theorem d_Rs_mostRinging_31 : decode prog_10_method_14_code 31 = .ok (.iload_n 1, 1) := by decide +kernel
theorem d_Rs_mostRinging_32 : decode prog_10_method_14_code 32 = .ok (.ireturn, 1) := by decide +kernel
abbrev S_Rs_mostRinging : Type := Nat × Nat × Int32 × Int32 × AM
noncomputable def T_Rs_mostRinging_0 (v0R : Nat) (σ : AM) : S_Rs_mostRinging ⊕ Option (Int32 × AM) :=
  .inl (1, v0R, (0 : Int32), (0 : Int32), σ)
noncomputable def T_Rs_mostRinging_1 (v0R : Nat) (v1I : Int32) (v2I : Int32) (σ : AM) : S_Rs_mostRinging ⊕ Option (Int32 × AM) :=
  gdT (okO σ v0R 5) <| if v2I < (aI σ v0R 5) then (bndT (M_Rs_listAt v0R v2I σ) fun r2 σ3 => bndT (M_JLong_bitCount r2 σ3) fun r4 σ5 => letT (mxI v1I r4) fun x6 => .inl (1, v0R, x6, v2I + (1 : Int32), σ5)) else (.inr (some (v1I, σ)))
noncomputable def F_Rs_mostRinging : S_Rs_mostRinging → S_Rs_mostRinging ⊕ Option (Int32 × AM) := fun s => match s.1 with
  | 0 => T_Rs_mostRinging_0 (s.2.1) (s.2.2.2.2)
  | _ => T_Rs_mostRinging_1 (s.2.1) (s.2.2.1) (s.2.2.2.1) (s.2.2.2.2)
noncomputable def L_Rs_mostRinging_0 (v0R : Nat) (σ : AM) : Option (Int32 × AM) := lp F_Rs_mostRinging (0, v0R, 0, 0, σ)
noncomputable def L_Rs_mostRinging_1 (v0R : Nat) (v1I : Int32) (v2I : Int32) (σ : AM) : Option (Int32 × AM) := lp F_Rs_mostRinging (1, v0R, v1I, v2I, σ)
set_option maxRecDepth 20000 in
theorem E_Rs_mostRinging_0 (v0R : Nat) (σ : AM) : L_Rs_mostRinging_0 v0R σ = (L_Rs_mostRinging_1 v0R ((0 : Int32)) ((0 : Int32)) σ) := by
  unfold L_Rs_mostRinging_0
  rw [lp_eq]
  show lpK (lp F_Rs_mostRinging) (T_Rs_mostRinging_0 v0R σ) = _
  unfold T_Rs_mostRinging_0
  simp only [lpK_ite, lq_inl, lq_inr, lpK_bnd, lpK_gd, lq_let]
  try rfl
set_option maxRecDepth 20000 in
theorem E_Rs_mostRinging_1 (v0R : Nat) (v1I : Int32) (v2I : Int32) (σ : AM) : L_Rs_mostRinging_1 v0R v1I v2I σ = (gd (okO σ v0R 5) <| if v2I < (aI σ v0R 5) then (bnd (M_Rs_listAt v0R v2I σ) fun r2 σ3 => bnd (M_JLong_bitCount r2 σ3) fun r4 σ5 => letT (mxI v1I r4) fun x6 => L_Rs_mostRinging_1 v0R x6 (v2I + (1 : Int32)) σ5) else ((some (v1I, σ)))) := by
  unfold L_Rs_mostRinging_1
  rw [lp_eq]
  show lpK (lp F_Rs_mostRinging) (T_Rs_mostRinging_1 v0R v1I v2I σ) = _
  unfold T_Rs_mostRinging_1
  simp only [lpK_ite, lq_inl, lq_inr, lpK_bnd, lpK_gd, lq_let]
  try rfl
noncomputable def M_Rs_mostRinging (v0R : Nat) (σ : AM) : Option (Int32 × AM) := mw σ (L_Rs_mostRinging_0 v0R σ)
def I_Rs_mostRinging (G : GX) (p : Program) (l : Launch) (e : Env) (s : State) (m : MethodId) (args : Array Value) (below : List Frame) (meth : Method) (c : Code) (z0 u0 n : Nat) : Prop :=
  (∀ (v0R : Nat) (σ : AM), VX (QM eI G args s below z0 u0) G p l e s m args below meth c 2 z0 u0 3 (lpn F_Rs_mostRinging n (0, v0R, 0, 0, σ)) 0 [(0, .ref v0R)] [] σ) ∧
  (∀ (v0R : Nat) (v1I : Int32) (v2I : Int32) (σ : AM), VX (QM eI G args s below z0 u0) G p l e s m args below meth c 2 z0 u0 3 (lpn F_Rs_mostRinging n (1, v0R, v1I, v2I, σ)) 4 [(0, .ref v0R), (1, .int v1I), (2, .int v2I)] [] σ)
set_option maxRecDepth 20000 in
theorem s_Rs_mostRinging_0 {G : GX} {p : Program} {l : Launch} {e : Env} {s : State} {m : MethodId} {args : Array Value} {below : List Frame} {meth : Method} {c : Code} {z0 u0 n : Nat} (C : Cx G p s m args meth c prog_10_method_14_code 3 "BellPlate$Rest" ((some FieldType.int))) (IH : I_Rs_mostRinging G p l e s m args below meth c z0 u0 n) (v0R : Nat) (σ : AM) : VX (QM eI G args s below z0 u0) G p l e s m args below meth c 2 z0 u0 3 (lpK (lpn F_Rs_mostRinging n) (T_Rs_mostRinging_0 v0R σ)) 0 [(0, .ref v0R)] [] σ := by
  unfold T_Rs_mostRinging_0
  refine x_iconst (v := (0 : Int32)) C d_Rs_mostRinging_0 (by decide) ?_
  refine x_istore_n (lv' := [(1, .int (0 : Int32)), (0, .ref v0R)]) C d_Rs_mostRinging_1 (by decide) rfl rfl ?_
  refine x_iconst (v := (0 : Int32)) C d_Rs_mostRinging_2 (by decide) ?_
  refine x_istore_n (lv' := [(2, .int (0 : Int32)), (1, .int (0 : Int32)), (0, .ref v0R)]) C d_Rs_mostRinging_3 (by decide) rfl rfl ?_
  refine x_lv [2, 1, 0] rfl ?_
  exact IH.2 v0R ((0 : Int32)) ((0 : Int32)) (σ)
set_option maxRecDepth 20000 in
theorem s_Rs_mostRinging_1 {G : GX} {p : Program} {l : Launch} {e : Env} {s : State} {m : MethodId} {args : Array Value} {below : List Frame} {meth : Method} {c : Code} {z0 u0 n : Nat} (C : Cx G p s m args meth c prog_10_method_14_code 3 "BellPlate$Rest" ((some FieldType.int))) (IH : I_Rs_mostRinging G p l e s m args below meth c z0 u0 n) (v0R : Nat) (v1I : Int32) (v2I : Int32) (σ : AM) : VX (QM eI G args s below z0 u0) G p l e s m args below meth c 2 z0 u0 3 (lpK (lpn F_Rs_mostRinging n) (T_Rs_mostRinging_1 v0R v1I v2I σ)) 4 [(0, .ref v0R), (1, .int v1I), (2, .int v2I)] [] σ := by
  unfold T_Rs_mostRinging_1
  refine x_iload_n C d_Rs_mostRinging_4 2 rfl ?_
  refine x_aload_n C d_Rs_mostRinging_5 0 rfl ?_
  refine x_gd (fun h1 => ?_)
  refine x_getI (k := 5) C (okO_iff.mp h1) rfl j4_ok (by decide) rfl w344 d_Rs_mostRinging_6 ?_
  refine x_icmp_ge (tgt := 31) C d_Rs_mostRinging_9 (by decide) (fun _ => ?_) (fun _ => ?_)
  · refine x_iload_n C d_Rs_mostRinging_12 1 rfl ?_
    refine x_aload_n C d_Rs_mostRinging_13 0 rfl ?_
    refine x_iload_n C d_Rs_mostRinging_14 2 rfl ?_
    refine x_callVJ (As := [.int v2I]) C (c_Rs_listAt G l v0R v2I σ) (okO_iff.mp h1) rfl w1121 w1122 w1528 w1123 w125 k_Rs_listAt rfl (by decide) (by decide) rfl (Nat.le_of_ble_eq_true rfl) d_Rs_mostRinging_15 (fun r2 σ3 => ?_)
    refine x_callSI (As := [.long r2]) C (c_JLong_bitCount G l r2 σ3) w1066 w1529 w1067 w142 k_JLong_bitCount rfl (by decide) (by decide) rfl (Nat.le_of_ble_eq_true rfl) d_Rs_mostRinging_18 (fun r4 σ5 => ?_)
    refine x_mmax C w1535 (by decide) (Nat.le_of_ble_eq_true rfl) d_Rs_mostRinging_21 ?_
    refine x_letI (fun x6 _ => ?_)
    refine x_istore_n (lv' := [(1, .int x6), (0, .ref v0R), (2, .int v2I)]) C d_Rs_mostRinging_24 (by decide) rfl rfl ?_
    refine x_iinc (v := v2I + (1 : Int32)) (lv' := [(2, .int (v2I + (1 : Int32))), (1, .int x6), (0, .ref v0R)]) C d_Rs_mostRinging_25 2 rfl rfl (by decide) rfl ?_
    refine x_goto (tgt := 4) C d_Rs_mostRinging_28 (by decide) ?_
    refine x_lv [2, 1, 0] rfl ?_
    exact IH.2 v0R x6 (v2I + (1 : Int32)) (σ5)
  · refine x_iload_n C d_Rs_mostRinging_31 1 rfl ?_
    exact x_iret C d_Rs_mostRinging_32
theorem i_Rs_mostRinging {G : GX} {p : Program} {l : Launch} {e : Env} {s : State} {m : MethodId} {args : Array Value} {below : List Frame} {meth : Method} {c : Code} {z0 u0 : Nat} (C : Cx G p s m args meth c prog_10_method_14_code 3 "BellPlate$Rest" ((some FieldType.int))) (n : Nat) : I_Rs_mostRinging G p l e s m args below meth c z0 u0 n := by
  induction n with
  | zero => exact ⟨fun _ _ => x_none, fun _ _ _ _ => x_none⟩
  | succ n IH => exact ⟨fun v0R σ => s_Rs_mostRinging_0 C IH v0R σ, fun v0R v1I v2I σ => s_Rs_mostRinging_1 C IH v0R v1I v2I σ⟩
theorem c_Rs_mostRinging (G : GX) (l : Launch) (v0R : Nat) (σ : AM) : CT eI G l 2 y_Rs_mostRinging prog_10_method_14_code 3 ((some FieldType.int)) [.ref v0R] σ (M_Rs_mostRinging v0R σ) := by
  refine ct_of (by decide +kernel) (Nat.le_of_ble_eq_true rfl) (fun p e s m args below meth c C hin => ?_)
  refine x_lve (lv' := [(0, .ref v0R)]) rfl ?_
  intro r σ' h
  obtain ⟨n, hn⟩ := (lp_iff _ _ _).mp h
  exact (i_Rs_mostRinging C n).1 v0R σ r σ' hn
/-! BellPlate$Rest.listsRinging(I)I -/
abbrev y_Rs_listsRinging : MethodName := ⟨"BellPlate$Rest", "listsRinging", "(I)I"⟩
theorem k_Rs_listsRinging : y_Rs_listsRinging.cls ≠ "java/lang/invoke/MethodHandle" ∧ y_Rs_listsRinging.cls ≠ "java/lang/invoke/VarHandle" ∧ (parseMethodDescriptor y_Rs_listsRinging.desc).map (fun d => d.parameters.length) = some 1 := by decide +kernel
theorem d_Rs_listsRinging_0 : decode prog_10_method_15_code 0 = .ok (.iconst 0, 1) := by decide +kernel
theorem d_Rs_listsRinging_1 : decode prog_10_method_15_code 1 = .ok (.istore_n 2, 1) := by decide +kernel
theorem d_Rs_listsRinging_2 : decode prog_10_method_15_code 2 = .ok (.iconst 0, 1) := by decide +kernel
theorem d_Rs_listsRinging_3 : decode prog_10_method_15_code 3 = .ok (.istore_n 3, 1) := by decide +kernel
theorem d_Rs_listsRinging_4 : decode prog_10_method_15_code 4 = .ok (.iload_n 3, 1) := by decide +kernel
theorem d_Rs_listsRinging_5 : decode prog_10_method_15_code 5 = .ok (.aload_n 0, 1) := by decide +kernel
theorem d_Rs_listsRinging_6 : decode prog_10_method_15_code 6 = .ok (.getfield 50, 3) := by decide +kernel
theorem d_Rs_listsRinging_9 : decode prog_10_method_15_code 9 = .ok (.if_icmp .ge 24, 3) := by decide +kernel
theorem d_Rs_listsRinging_12 : decode prog_10_method_15_code 12 = .ok (.aload_n 0, 1) := by decide +kernel
theorem d_Rs_listsRinging_13 : decode prog_10_method_15_code 13 = .ok (.iload_n 3, 1) := by decide +kernel
theorem d_Rs_listsRinging_14 : decode prog_10_method_15_code 14 = .ok (.invokevirtual 86, 3) := by decide +kernel
theorem d_Rs_listsRinging_17 : decode prog_10_method_15_code 17 = .ok (.invokestatic 95, 3) := by decide +kernel
theorem d_Rs_listsRinging_20 : decode prog_10_method_15_code 20 = .ok (.iload_n 1, 1) := by decide +kernel
theorem d_Rs_listsRinging_21 : decode prog_10_method_15_code 21 = .ok (.if_icmp .ne 6, 3) := by decide +kernel
theorem d_Rs_listsRinging_24 : decode prog_10_method_15_code 24 = .ok (.iinc 2 1, 3) := by decide +kernel
theorem d_Rs_listsRinging_27 : decode prog_10_method_15_code 27 = .ok (.iinc 3 1, 3) := by decide +kernel
theorem d_Rs_listsRinging_30 : decode prog_10_method_15_code 30 = .ok (.goto (-26), 3) := by decide +kernel
theorem d_Rs_listsRinging_33 : decode prog_10_method_15_code 33 = .ok (.iload_n 2, 1) := by decide +kernel
theorem d_Rs_listsRinging_34 : decode prog_10_method_15_code 34 = .ok (.ireturn, 1) := by decide +kernel
abbrev S_Rs_listsRinging : Type := Nat × Nat × Int32 × Int32 × Int32 × AM
noncomputable def T_Rs_listsRinging_0 (v0R : Nat) (v1I : Int32) (σ : AM) : S_Rs_listsRinging ⊕ Option (Int32 × AM) :=
  .inl (1, v0R, v1I, (0 : Int32), (0 : Int32), σ)
noncomputable def T_Rs_listsRinging_1 (v0R : Nat) (v1I : Int32) (v2I : Int32) (v3I : Int32) (σ : AM) : S_Rs_listsRinging ⊕ Option (Int32 × AM) :=
  gdT (okO σ v0R 5) <| if v3I < (aI σ v0R 5) then (bndT (M_Rs_listAt v0R v3I σ) fun r2 σ3 => bndT (M_JLong_bitCount r2 σ3) fun r4 σ5 => if r4 = v1I then (.inl (2, v0R, v1I, v2I + (1 : Int32), v3I, σ5)) else (.inl (2, v0R, v1I, v2I, v3I, σ5))) else (.inr (some (v2I, σ)))
noncomputable def T_Rs_listsRinging_2 (v0R : Nat) (v1I : Int32) (v2I : Int32) (v3I : Int32) (σ : AM) : S_Rs_listsRinging ⊕ Option (Int32 × AM) :=
  .inl (1, v0R, v1I, v2I, v3I + (1 : Int32), σ)
noncomputable def F_Rs_listsRinging : S_Rs_listsRinging → S_Rs_listsRinging ⊕ Option (Int32 × AM) := fun s => match s.1 with
  | 0 => T_Rs_listsRinging_0 (s.2.1) (s.2.2.1) (s.2.2.2.2.2)
  | 1 => T_Rs_listsRinging_1 (s.2.1) (s.2.2.1) (s.2.2.2.1) (s.2.2.2.2.1) (s.2.2.2.2.2)
  | _ => T_Rs_listsRinging_2 (s.2.1) (s.2.2.1) (s.2.2.2.1) (s.2.2.2.2.1) (s.2.2.2.2.2)
noncomputable def L_Rs_listsRinging_0 (v0R : Nat) (v1I : Int32) (σ : AM) : Option (Int32 × AM) := lp F_Rs_listsRinging (0, v0R, v1I, 0, 0, σ)
noncomputable def L_Rs_listsRinging_1 (v0R : Nat) (v1I : Int32) (v2I : Int32) (v3I : Int32) (σ : AM) : Option (Int32 × AM) := lp F_Rs_listsRinging (1, v0R, v1I, v2I, v3I, σ)
noncomputable def L_Rs_listsRinging_2 (v0R : Nat) (v1I : Int32) (v2I : Int32) (v3I : Int32) (σ : AM) : Option (Int32 × AM) := lp F_Rs_listsRinging (2, v0R, v1I, v2I, v3I, σ)
set_option maxRecDepth 20000 in
theorem E_Rs_listsRinging_0 (v0R : Nat) (v1I : Int32) (σ : AM) : L_Rs_listsRinging_0 v0R v1I σ = (L_Rs_listsRinging_1 v0R v1I ((0 : Int32)) ((0 : Int32)) σ) := by
  unfold L_Rs_listsRinging_0
  rw [lp_eq]
  show lpK (lp F_Rs_listsRinging) (T_Rs_listsRinging_0 v0R v1I σ) = _
  unfold T_Rs_listsRinging_0
  simp only [lpK_ite, lq_inl, lq_inr, lpK_bnd, lpK_gd, lq_let]
  try rfl
set_option maxRecDepth 20000 in
theorem E_Rs_listsRinging_1 (v0R : Nat) (v1I : Int32) (v2I : Int32) (v3I : Int32) (σ : AM) : L_Rs_listsRinging_1 v0R v1I v2I v3I σ = (gd (okO σ v0R 5) <| if v3I < (aI σ v0R 5) then (bnd (M_Rs_listAt v0R v3I σ) fun r2 σ3 => bnd (M_JLong_bitCount r2 σ3) fun r4 σ5 => if r4 = v1I then (L_Rs_listsRinging_2 v0R v1I (v2I + (1 : Int32)) v3I σ5) else (L_Rs_listsRinging_2 v0R v1I v2I v3I σ5)) else ((some (v2I, σ)))) := by
  unfold L_Rs_listsRinging_1
  rw [lp_eq]
  show lpK (lp F_Rs_listsRinging) (T_Rs_listsRinging_1 v0R v1I v2I v3I σ) = _
  unfold T_Rs_listsRinging_1
  simp only [lpK_ite, lq_inl, lq_inr, lpK_bnd, lpK_gd, lq_let]
  try rfl
set_option maxRecDepth 20000 in
theorem E_Rs_listsRinging_2 (v0R : Nat) (v1I : Int32) (v2I : Int32) (v3I : Int32) (σ : AM) : L_Rs_listsRinging_2 v0R v1I v2I v3I σ = (L_Rs_listsRinging_1 v0R v1I v2I (v3I + (1 : Int32)) σ) := by
  unfold L_Rs_listsRinging_2
  rw [lp_eq]
  show lpK (lp F_Rs_listsRinging) (T_Rs_listsRinging_2 v0R v1I v2I v3I σ) = _
  unfold T_Rs_listsRinging_2
  simp only [lpK_ite, lq_inl, lq_inr, lpK_bnd, lpK_gd, lq_let]
  try rfl
noncomputable def M_Rs_listsRinging (v0R : Nat) (v1I : Int32) (σ : AM) : Option (Int32 × AM) := mw σ (L_Rs_listsRinging_0 v0R v1I σ)
def I_Rs_listsRinging (G : GX) (p : Program) (l : Launch) (e : Env) (s : State) (m : MethodId) (args : Array Value) (below : List Frame) (meth : Method) (c : Code) (z0 u0 n : Nat) : Prop :=
  (∀ (v0R : Nat) (v1I : Int32) (σ : AM), VX (QM eI G args s below z0 u0) G p l e s m args below meth c 2 z0 u0 4 (lpn F_Rs_listsRinging n (0, v0R, v1I, 0, 0, σ)) 0 [(0, .ref v0R), (1, .int v1I)] [] σ) ∧
  (∀ (v0R : Nat) (v1I : Int32) (v2I : Int32) (v3I : Int32) (σ : AM), VX (QM eI G args s below z0 u0) G p l e s m args below meth c 2 z0 u0 4 (lpn F_Rs_listsRinging n (1, v0R, v1I, v2I, v3I, σ)) 4 [(0, .ref v0R), (1, .int v1I), (2, .int v2I), (3, .int v3I)] [] σ) ∧
  (∀ (v0R : Nat) (v1I : Int32) (v2I : Int32) (v3I : Int32) (σ : AM), VX (QM eI G args s below z0 u0) G p l e s m args below meth c 2 z0 u0 4 (lpn F_Rs_listsRinging n (2, v0R, v1I, v2I, v3I, σ)) 27 [(0, .ref v0R), (1, .int v1I), (2, .int v2I), (3, .int v3I)] [] σ)
set_option maxRecDepth 20000 in
theorem s_Rs_listsRinging_0 {G : GX} {p : Program} {l : Launch} {e : Env} {s : State} {m : MethodId} {args : Array Value} {below : List Frame} {meth : Method} {c : Code} {z0 u0 n : Nat} (C : Cx G p s m args meth c prog_10_method_15_code 4 "BellPlate$Rest" ((some FieldType.int))) (IH : I_Rs_listsRinging G p l e s m args below meth c z0 u0 n) (v0R : Nat) (v1I : Int32) (σ : AM) : VX (QM eI G args s below z0 u0) G p l e s m args below meth c 2 z0 u0 4 (lpK (lpn F_Rs_listsRinging n) (T_Rs_listsRinging_0 v0R v1I σ)) 0 [(0, .ref v0R), (1, .int v1I)] [] σ := by
  unfold T_Rs_listsRinging_0
  refine x_iconst (v := (0 : Int32)) C d_Rs_listsRinging_0 (by decide) ?_
  refine x_istore_n (lv' := [(2, .int (0 : Int32)), (0, .ref v0R), (1, .int v1I)]) C d_Rs_listsRinging_1 (by decide) rfl rfl ?_
  refine x_iconst (v := (0 : Int32)) C d_Rs_listsRinging_2 (by decide) ?_
  refine x_istore_n (lv' := [(3, .int (0 : Int32)), (2, .int (0 : Int32)), (0, .ref v0R), (1, .int v1I)]) C d_Rs_listsRinging_3 (by decide) rfl rfl ?_
  refine x_lv [2, 3, 1, 0] rfl ?_
  exact IH.2.1 v0R v1I ((0 : Int32)) ((0 : Int32)) (σ)
set_option maxRecDepth 20000 in
theorem s_Rs_listsRinging_1 {G : GX} {p : Program} {l : Launch} {e : Env} {s : State} {m : MethodId} {args : Array Value} {below : List Frame} {meth : Method} {c : Code} {z0 u0 n : Nat} (C : Cx G p s m args meth c prog_10_method_15_code 4 "BellPlate$Rest" ((some FieldType.int))) (IH : I_Rs_listsRinging G p l e s m args below meth c z0 u0 n) (v0R : Nat) (v1I : Int32) (v2I : Int32) (v3I : Int32) (σ : AM) : VX (QM eI G args s below z0 u0) G p l e s m args below meth c 2 z0 u0 4 (lpK (lpn F_Rs_listsRinging n) (T_Rs_listsRinging_1 v0R v1I v2I v3I σ)) 4 [(0, .ref v0R), (1, .int v1I), (2, .int v2I), (3, .int v3I)] [] σ := by
  unfold T_Rs_listsRinging_1
  refine x_iload_n C d_Rs_listsRinging_4 3 rfl ?_
  refine x_aload_n C d_Rs_listsRinging_5 0 rfl ?_
  refine x_gd (fun h1 => ?_)
  refine x_getI (k := 5) C (okO_iff.mp h1) rfl j4_ok (by decide) rfl w344 d_Rs_listsRinging_6 ?_
  refine x_icmp_ge (tgt := 33) C d_Rs_listsRinging_9 (by decide) (fun _ => ?_) (fun _ => ?_)
  · refine x_aload_n C d_Rs_listsRinging_12 0 rfl ?_
    refine x_iload_n C d_Rs_listsRinging_13 3 rfl ?_
    refine x_callVJ (As := [.int v3I]) C (c_Rs_listAt G l v0R v3I σ) (okO_iff.mp h1) rfl w1121 w1122 w1528 w1123 w125 k_Rs_listAt rfl (by decide) (by decide) rfl (Nat.le_of_ble_eq_true rfl) d_Rs_listsRinging_14 (fun r2 σ3 => ?_)
    refine x_callSI (As := [.long r2]) C (c_JLong_bitCount G l r2 σ3) w1066 w1529 w1067 w142 k_JLong_bitCount rfl (by decide) (by decide) rfl (Nat.le_of_ble_eq_true rfl) d_Rs_listsRinging_17 (fun r4 σ5 => ?_)
    refine x_iload_n C d_Rs_listsRinging_20 1 rfl ?_
    refine x_icmp_ne (tgt := 27) C d_Rs_listsRinging_21 (by decide) (fun _ => ?_) (fun _ => ?_)
    · refine x_iinc (v := v2I + (1 : Int32)) (lv' := [(2, .int (v2I + (1 : Int32))), (0, .ref v0R), (1, .int v1I), (3, .int v3I)]) C d_Rs_listsRinging_24 2 rfl rfl (by decide) rfl ?_
      refine x_lv [1, 2, 0, 3] rfl ?_
      exact IH.2.2 v0R v1I (v2I + (1 : Int32)) v3I (σ5)
    · exact IH.2.2 v0R v1I v2I v3I (σ5)
  · refine x_iload_n C d_Rs_listsRinging_33 2 rfl ?_
    exact x_iret C d_Rs_listsRinging_34
set_option maxRecDepth 20000 in
theorem s_Rs_listsRinging_2 {G : GX} {p : Program} {l : Launch} {e : Env} {s : State} {m : MethodId} {args : Array Value} {below : List Frame} {meth : Method} {c : Code} {z0 u0 n : Nat} (C : Cx G p s m args meth c prog_10_method_15_code 4 "BellPlate$Rest" ((some FieldType.int))) (IH : I_Rs_listsRinging G p l e s m args below meth c z0 u0 n) (v0R : Nat) (v1I : Int32) (v2I : Int32) (v3I : Int32) (σ : AM) : VX (QM eI G args s below z0 u0) G p l e s m args below meth c 2 z0 u0 4 (lpK (lpn F_Rs_listsRinging n) (T_Rs_listsRinging_2 v0R v1I v2I v3I σ)) 27 [(0, .ref v0R), (1, .int v1I), (2, .int v2I), (3, .int v3I)] [] σ := by
  unfold T_Rs_listsRinging_2
  refine x_iinc (v := v3I + (1 : Int32)) (lv' := [(3, .int (v3I + (1 : Int32))), (0, .ref v0R), (1, .int v1I), (2, .int v2I)]) C d_Rs_listsRinging_27 3 rfl rfl (by decide) rfl ?_
  refine x_goto (tgt := 4) C d_Rs_listsRinging_30 (by decide) ?_
  refine x_lv [1, 2, 3, 0] rfl ?_
  exact IH.2.1 v0R v1I v2I (v3I + (1 : Int32)) (σ)
theorem i_Rs_listsRinging {G : GX} {p : Program} {l : Launch} {e : Env} {s : State} {m : MethodId} {args : Array Value} {below : List Frame} {meth : Method} {c : Code} {z0 u0 : Nat} (C : Cx G p s m args meth c prog_10_method_15_code 4 "BellPlate$Rest" ((some FieldType.int))) (n : Nat) : I_Rs_listsRinging G p l e s m args below meth c z0 u0 n := by
  induction n with
  | zero => exact ⟨fun _ _ _ => x_none, fun _ _ _ _ _ => x_none, fun _ _ _ _ _ => x_none⟩
  | succ n IH => exact ⟨fun v0R v1I σ => s_Rs_listsRinging_0 C IH v0R v1I σ, fun v0R v1I v2I v3I σ => s_Rs_listsRinging_1 C IH v0R v1I v2I v3I σ, fun v0R v1I v2I v3I σ => s_Rs_listsRinging_2 C IH v0R v1I v2I v3I σ⟩
theorem c_Rs_listsRinging (G : GX) (l : Launch) (v0R : Nat) (v1I : Int32) (σ : AM) : CT eI G l 2 y_Rs_listsRinging prog_10_method_15_code 4 ((some FieldType.int)) [.ref v0R, .int v1I] σ (M_Rs_listsRinging v0R v1I σ) := by
  refine ct_of (by decide +kernel) (Nat.le_of_ble_eq_true rfl) (fun p e s m args below meth c C hin => ?_)
  refine x_lve (lv' := [(0, .ref v0R), (1, .int v1I)]) rfl ?_
  intro r σ' h
  obtain ⟨n, hn⟩ := (lp_iff _ _ _).mp h
  exact (i_Rs_listsRinging C n).1 v0R v1I σ r σ' hn
/-! BellPlate$Rest.countWeightsOf(ILBellPlate$Tower;)V -/
abbrev y_Rs_countWeightsOf : MethodName := ⟨"BellPlate$Rest", "countWeightsOf", "(ILBellPlate$Tower;)V"⟩
theorem k_Rs_countWeightsOf : y_Rs_countWeightsOf.cls ≠ "java/lang/invoke/MethodHandle" ∧ y_Rs_countWeightsOf.cls ≠ "java/lang/invoke/VarHandle" ∧ (parseMethodDescriptor y_Rs_countWeightsOf.desc).map (fun d => d.parameters.length) = some 2 := by decide +kernel
theorem d_Rs_countWeightsOf_0 : decode prog_10_method_16_code 0 = .ok (.aload_n 0, 1) := by decide +kernel
theorem d_Rs_countWeightsOf_1 : decode prog_10_method_16_code 1 = .ok (.getfield 21, 3) := by decide +kernel
theorem d_Rs_countWeightsOf_4 : decode prog_10_method_16_code 4 = .ok (.iconst 0, 1) := by decide +kernel
theorem d_Rs_countWeightsOf_5 : decode prog_10_method_16_code 5 = .ok (.invokestatic 110, 3) := by decide +kernel
theorem d_Rs_countWeightsOf_8 : decode prog_10_method_16_code 8 = .ok (.aload_n 2, 1) := by decide +kernel
theorem d_Rs_countWeightsOf_9 : decode prog_10_method_16_code 9 = .ok (.invokevirtual 116, 3) := by decide +kernel
theorem d_Rs_countWeightsOf_12 : decode prog_10_method_16_code 12 = .ok (.iconst 1, 1) := by decide +kernel
theorem d_Rs_countWeightsOf_13 : decode prog_10_method_16_code 13 = .ok (.iadd, 1) := by decide +kernel
theorem d_Rs_countWeightsOf_14 : decode prog_10_method_16_code 14 = .ok (.iconst 1, 1) := by decide +kernel
theorem d_Rs_countWeightsOf_15 : decode prog_10_method_16_code 15 = .ok (.invokestatic 107, 3) := by decide +kernel
theorem d_Rs_countWeightsOf_18 : decode prog_10_method_16_code 18 = .ok (.istore_n 3, 1) := by decide +kernel
theorem d_Rs_countWeightsOf_19 : decode prog_10_method_16_code 19 = .ok (.iconst 1, 1) := by decide +kernel
theorem d_Rs_countWeightsOf_20 : decode prog_10_method_16_code 20 = .ok (.istore 4, 2) := by decide +kernel
theorem d_Rs_countWeightsOf_22 : decode prog_10_method_16_code 22 = .ok (.iconst 0, 1) := by decide +kernel
theorem d_Rs_countWeightsOf_23 : decode prog_10_method_16_code 23 = .ok (.istore 5, 2) := by decide +kernel
theorem d_Rs_countWeightsOf_25 : decode prog_10_method_16_code 25 = .ok (.iload 5, 2) := by decide +kernel
theorem d_Rs_countWeightsOf_27 : decode prog_10_method_16_code 27 = .ok (.iload_n 1, 1) := by decide +kernel
theorem d_Rs_countWeightsOf_28 : decode prog_10_method_16_code 28 = .ok (.if_icmp .ge 15, 3) := by decide +kernel
theorem d_Rs_countWeightsOf_31 : decode prog_10_method_16_code 31 = .ok (.iload 4, 2) := by decide +kernel
theorem d_Rs_countWeightsOf_33 : decode prog_10_method_16_code 33 = .ok (.iload_n 3, 1) := by decide +kernel
theorem d_Rs_countWeightsOf_34 : decode prog_10_method_16_code 34 = .ok (.imul, 1) := by decide +kernel
theorem d_Rs_countWeightsOf_35 : decode prog_10_method_16_code 35 = .ok (.istore 4, 2) := by decide +kernel
theorem d_Rs_countWeightsOf_37 : decode prog_10_method_16_code 37 = .ok (.iinc 5 1, 3) := by decide +kernel
theorem d_Rs_countWeightsOf_40 : decode prog_10_method_16_code 40 = .ok (.goto (-15), 3) := by decide +kernel
theorem d_Rs_countWeightsOf_43 : decode prog_10_method_16_code 43 = .ok (.aload_n 2, 1) := by decide +kernel
theorem d_Rs_countWeightsOf_44 : decode prog_10_method_16_code 44 = .ok (.invokevirtual 119, 3) := by decide +kernel
theorem d_Rs_countWeightsOf_47 : decode prog_10_method_16_code 47 = .ok (.istore 5, 2) := by decide +kernel
theorem d_Rs_countWeightsOf_49 : decode prog_10_method_16_code 49 = .ok (.iconst 0, 1) := by decide +kernel
theorem d_Rs_countWeightsOf_50 : decode prog_10_method_16_code 50 = .ok (.istore 6, 2) := by decide +kernel
theorem d_Rs_countWeightsOf_52 : decode prog_10_method_16_code 52 = .ok (.iload 6, 2) := by decide +kernel
theorem d_Rs_countWeightsOf_54 : decode prog_10_method_16_code 54 = .ok (.iload 5, 2) := by decide +kernel
theorem d_Rs_countWeightsOf_56 : decode prog_10_method_16_code 56 = .ok (.if_icmp .ge 39, 3) := by decide +kernel
theorem d_Rs_countWeightsOf_59 : decode prog_10_method_16_code 59 = .ok (.iload 4, 2) := by decide +kernel
theorem d_Rs_countWeightsOf_61 : decode prog_10_method_16_code 61 = .ok (.ifCond .le 34, 3) := by decide +kernel
theorem d_Rs_countWeightsOf_64 : decode prog_10_method_16_code 64 = .ok (.aload_n 0, 1) := by decide +kernel
theorem d_Rs_countWeightsOf_65 : decode prog_10_method_16_code 65 = .ok (.iload 6, 2) := by decide +kernel
theorem d_Rs_countWeightsOf_67 : decode prog_10_method_16_code 67 = .ok (.invokevirtual 122, 3) := by decide +kernel
theorem d_Rs_countWeightsOf_70 : decode prog_10_method_16_code 70 = .ok (.ifCond .eq 19, 3) := by decide +kernel
theorem d_Rs_countWeightsOf_73 : decode prog_10_method_16_code 73 = .ok (.aload_n 0, 1) := by decide +kernel
theorem d_Rs_countWeightsOf_74 : decode prog_10_method_16_code 74 = .ok (.getfield 21, 3) := by decide +kernel
theorem d_Rs_countWeightsOf_77 : decode prog_10_method_16_code 77 = .ok (.iload 6, 2) := by decide +kernel
theorem d_Rs_countWeightsOf_79 : decode prog_10_method_16_code 79 = .ok (.iload 4, 2) := by decide +kernel
theorem d_Rs_countWeightsOf_81 : decode prog_10_method_16_code 81 = .ok (.idiv, 1) := by decide +kernel
theorem d_Rs_countWeightsOf_82 : decode prog_10_method_16_code 82 = .ok (.iload_n 3, 1) := by decide +kernel
theorem d_Rs_countWeightsOf_83 : decode prog_10_method_16_code 83 = .ok (.irem, 1) := by decide +kernel
theorem d_Rs_countWeightsOf_84 : decode prog_10_method_16_code 84 = .ok (.dup2, 1) := by decide +kernel
theorem d_Rs_countWeightsOf_85 : decode prog_10_method_16_code 85 = .ok (.iaload, 1) := by decide +kernel
theorem d_Rs_countWeightsOf_86 : decode prog_10_method_16_code 86 = .ok (.iconst 1, 1) := by decide +kernel
theorem d_Rs_countWeightsOf_87 : decode prog_10_method_16_code 87 = .ok (.iadd, 1) := by decide +kernel
theorem d_Rs_countWeightsOf_88 : decode prog_10_method_16_code 88 = .ok (.iastore, 1) := by decide +kernel
theorem d_Rs_countWeightsOf_89 : decode prog_10_method_16_code 89 = .ok (.iinc 6 1, 3) := by decide +kernel
theorem d_Rs_countWeightsOf_92 : decode prog_10_method_16_code 92 = .ok (.goto (-40), 3) := by decide +kernel
theorem d_Rs_countWeightsOf_95 : decode prog_10_method_16_code 95 = .ok (.return_, 1) := by decide +kernel
abbrev S_Rs_countWeightsOf : Type := Nat × Nat × Int32 × Nat × Int32 × Int32 × Int32 × Int32 × AM
noncomputable def T_Rs_countWeightsOf_0 (v0R : Nat) (v1I : Int32) (v2R : Nat) (σ : AM) : S_Rs_countWeightsOf ⊕ Option (Unit × AM) :=
  gdT (okO σ v0R 5) <| gdT (okO σ (aR σ v0R 2) 101) <| bndT (M_JArr_fill2 (aR σ v0R 2) (0 : Int32) σ) fun _ σ4 => gdT (okO σ4 v2R 1) <| bndT (M_Tw_most v2R σ4) fun r5 σ6 => letT (mxI (r5 + (1 : Int32)) (1 : Int32)) fun x8 => .inl (1, v0R, v1I, v2R, x8, (1 : Int32), (0 : Int32), 0, σ6)
noncomputable def T_Rs_countWeightsOf_1 (v0R : Nat) (v1I : Int32) (v2R : Nat) (v3I : Int32) (v4I : Int32) (v5I : Int32) (σ : AM) : S_Rs_countWeightsOf ⊕ Option (Unit × AM) :=
  if v5I < v1I then (letT (v4I * v3I) fun x1 => .inl (1, v0R, v1I, v2R, v3I, x1, v5I + (1 : Int32), 0, σ)) else (gdT (okO σ v2R 1) <| bndT (M_Tw_all v2R σ) fun r2 σ3 => .inl (2, v0R, 0, 0, v3I, v4I, r2, (0 : Int32), σ3))
noncomputable def T_Rs_countWeightsOf_2 (v0R : Nat) (v3I : Int32) (v4I : Int32) (v5I : Int32) (v6I : Int32) (σ : AM) : S_Rs_countWeightsOf ⊕ Option (Unit × AM) :=
  if v6I < v5I then (if 0 < v4I then (gdT (okO σ v0R 5) <| bndT (M_Rs_holds v0R v6I σ) fun r1 σ2 => if r1 = 0 then (.inl (3, v0R, 0, 0, v3I, v4I, v5I, v6I, σ2)) else (gdT (okO σ2 v0R 5) <| gdT (okO σ2 (aR σ2 v0R 2) 101) <| gdT (nzI v4I) <| gdT (nzI v3I) <| gdT (inB ((v6I / v4I) - (v6I / v4I) / v3I * v3I) (aN σ2 (aR σ2 v0R 2))) <| letT (sI σ2 (aR σ2 v0R 2) ((v6I / v4I) - (v6I / v4I) / v3I * v3I).toNatClampNeg ((aI σ2 (aR σ2 v0R 2) ((v6I / v4I) - (v6I / v4I) / v3I * v3I).toNatClampNeg) + (1 : Int32))) fun σ9 => .inl (3, v0R, 0, 0, v3I, v4I, v5I, v6I, σ9))) else (.inl (4, 0, 0, 0, 0, 0, 0, 0, σ))) else (.inl (4, 0, 0, 0, 0, 0, 0, 0, σ))
noncomputable def T_Rs_countWeightsOf_3 (v0R : Nat) (v3I : Int32) (v4I : Int32) (v5I : Int32) (v6I : Int32) (σ : AM) : S_Rs_countWeightsOf ⊕ Option (Unit × AM) :=
  .inl (2, v0R, 0, 0, v3I, v4I, v5I, v6I + (1 : Int32), σ)
noncomputable def T_Rs_countWeightsOf_4  (σ : AM) : S_Rs_countWeightsOf ⊕ Option (Unit × AM) :=
  .inr (some ((), σ))
noncomputable def F_Rs_countWeightsOf : S_Rs_countWeightsOf → S_Rs_countWeightsOf ⊕ Option (Unit × AM) := fun s => match s.1 with
  | 0 => T_Rs_countWeightsOf_0 (s.2.1) (s.2.2.1) (s.2.2.2.1) (s.2.2.2.2.2.2.2.2)
  | 1 => T_Rs_countWeightsOf_1 (s.2.1) (s.2.2.1) (s.2.2.2.1) (s.2.2.2.2.1) (s.2.2.2.2.2.1) (s.2.2.2.2.2.2.1) (s.2.2.2.2.2.2.2.2)
  | 2 => T_Rs_countWeightsOf_2 (s.2.1) (s.2.2.2.2.1) (s.2.2.2.2.2.1) (s.2.2.2.2.2.2.1) (s.2.2.2.2.2.2.2.1) (s.2.2.2.2.2.2.2.2)
  | 3 => T_Rs_countWeightsOf_3 (s.2.1) (s.2.2.2.2.1) (s.2.2.2.2.2.1) (s.2.2.2.2.2.2.1) (s.2.2.2.2.2.2.2.1) (s.2.2.2.2.2.2.2.2)
  | _ => T_Rs_countWeightsOf_4  (s.2.2.2.2.2.2.2.2)
noncomputable def L_Rs_countWeightsOf_0 (v0R : Nat) (v1I : Int32) (v2R : Nat) (σ : AM) : Option (Unit × AM) := lp F_Rs_countWeightsOf (0, v0R, v1I, v2R, 0, 0, 0, 0, σ)
noncomputable def L_Rs_countWeightsOf_1 (v0R : Nat) (v1I : Int32) (v2R : Nat) (v3I : Int32) (v4I : Int32) (v5I : Int32) (σ : AM) : Option (Unit × AM) := lp F_Rs_countWeightsOf (1, v0R, v1I, v2R, v3I, v4I, v5I, 0, σ)
noncomputable def L_Rs_countWeightsOf_2 (v0R : Nat) (v3I : Int32) (v4I : Int32) (v5I : Int32) (v6I : Int32) (σ : AM) : Option (Unit × AM) := lp F_Rs_countWeightsOf (2, v0R, 0, 0, v3I, v4I, v5I, v6I, σ)
noncomputable def L_Rs_countWeightsOf_3 (v0R : Nat) (v3I : Int32) (v4I : Int32) (v5I : Int32) (v6I : Int32) (σ : AM) : Option (Unit × AM) := lp F_Rs_countWeightsOf (3, v0R, 0, 0, v3I, v4I, v5I, v6I, σ)
noncomputable def L_Rs_countWeightsOf_4  (σ : AM) : Option (Unit × AM) := lp F_Rs_countWeightsOf (4, 0, 0, 0, 0, 0, 0, 0, σ)
set_option maxRecDepth 20000 in
theorem E_Rs_countWeightsOf_0 (v0R : Nat) (v1I : Int32) (v2R : Nat) (σ : AM) : L_Rs_countWeightsOf_0 v0R v1I v2R σ = (gd (okO σ v0R 5) <| gd (okO σ (aR σ v0R 2) 101) <| bnd (M_JArr_fill2 (aR σ v0R 2) (0 : Int32) σ) fun _ σ4 => gd (okO σ4 v2R 1) <| bnd (M_Tw_most v2R σ4) fun r5 σ6 => letT (mxI (r5 + (1 : Int32)) (1 : Int32)) fun x8 => L_Rs_countWeightsOf_1 v0R v1I v2R x8 ((1 : Int32)) ((0 : Int32)) σ6) := by
  unfold L_Rs_countWeightsOf_0
  rw [lp_eq]
  show lpK (lp F_Rs_countWeightsOf) (T_Rs_countWeightsOf_0 v0R v1I v2R σ) = _
  unfold T_Rs_countWeightsOf_0
  simp only [lpK_ite, lq_inl, lq_inr, lpK_bnd, lpK_gd, lq_let]
  try rfl
set_option maxRecDepth 20000 in
theorem E_Rs_countWeightsOf_1 (v0R : Nat) (v1I : Int32) (v2R : Nat) (v3I : Int32) (v4I : Int32) (v5I : Int32) (σ : AM) : L_Rs_countWeightsOf_1 v0R v1I v2R v3I v4I v5I σ = (if v5I < v1I then (letT (v4I * v3I) fun x1 => L_Rs_countWeightsOf_1 v0R v1I v2R v3I x1 (v5I + (1 : Int32)) σ) else (gd (okO σ v2R 1) <| bnd (M_Tw_all v2R σ) fun r2 σ3 => L_Rs_countWeightsOf_2 v0R v3I v4I r2 ((0 : Int32)) σ3)) := by
  unfold L_Rs_countWeightsOf_1
  rw [lp_eq]
  show lpK (lp F_Rs_countWeightsOf) (T_Rs_countWeightsOf_1 v0R v1I v2R v3I v4I v5I σ) = _
  unfold T_Rs_countWeightsOf_1
  simp only [lpK_ite, lq_inl, lq_inr, lpK_bnd, lpK_gd, lq_let]
  try rfl
set_option maxRecDepth 20000 in
theorem E_Rs_countWeightsOf_2 (v0R : Nat) (v3I : Int32) (v4I : Int32) (v5I : Int32) (v6I : Int32) (σ : AM) : L_Rs_countWeightsOf_2 v0R v3I v4I v5I v6I σ = (if v6I < v5I then (if 0 < v4I then (gd (okO σ v0R 5) <| bnd (M_Rs_holds v0R v6I σ) fun r1 σ2 => if r1 = 0 then (L_Rs_countWeightsOf_3 v0R v3I v4I v5I v6I σ2) else (gd (okO σ2 v0R 5) <| gd (okO σ2 (aR σ2 v0R 2) 101) <| gd (nzI v4I) <| gd (nzI v3I) <| gd (inB ((v6I / v4I) - (v6I / v4I) / v3I * v3I) (aN σ2 (aR σ2 v0R 2))) <| letT (sI σ2 (aR σ2 v0R 2) ((v6I / v4I) - (v6I / v4I) / v3I * v3I).toNatClampNeg ((aI σ2 (aR σ2 v0R 2) ((v6I / v4I) - (v6I / v4I) / v3I * v3I).toNatClampNeg) + (1 : Int32))) fun σ9 => L_Rs_countWeightsOf_3 v0R v3I v4I v5I v6I σ9)) else (L_Rs_countWeightsOf_4 σ)) else (L_Rs_countWeightsOf_4 σ)) := by
  unfold L_Rs_countWeightsOf_2
  rw [lp_eq]
  show lpK (lp F_Rs_countWeightsOf) (T_Rs_countWeightsOf_2 v0R v3I v4I v5I v6I σ) = _
  unfold T_Rs_countWeightsOf_2
  simp only [lpK_ite, lq_inl, lq_inr, lpK_bnd, lpK_gd, lq_let]
  try rfl
set_option maxRecDepth 20000 in
theorem E_Rs_countWeightsOf_3 (v0R : Nat) (v3I : Int32) (v4I : Int32) (v5I : Int32) (v6I : Int32) (σ : AM) : L_Rs_countWeightsOf_3 v0R v3I v4I v5I v6I σ = (L_Rs_countWeightsOf_2 v0R v3I v4I v5I (v6I + (1 : Int32)) σ) := by
  unfold L_Rs_countWeightsOf_3
  rw [lp_eq]
  show lpK (lp F_Rs_countWeightsOf) (T_Rs_countWeightsOf_3 v0R v3I v4I v5I v6I σ) = _
  unfold T_Rs_countWeightsOf_3
  simp only [lpK_ite, lq_inl, lq_inr, lpK_bnd, lpK_gd, lq_let]
  try rfl
set_option maxRecDepth 20000 in
theorem E_Rs_countWeightsOf_4  (σ : AM) : L_Rs_countWeightsOf_4  σ = ((some ((), σ))) := by
  unfold L_Rs_countWeightsOf_4
  rw [lp_eq]
  show lpK (lp F_Rs_countWeightsOf) (T_Rs_countWeightsOf_4  σ) = _
  unfold T_Rs_countWeightsOf_4
  simp only [lpK_ite, lq_inl, lq_inr, lpK_bnd, lpK_gd, lq_let]
  try rfl
noncomputable def M_Rs_countWeightsOf (v0R : Nat) (v1I : Int32) (v2R : Nat) (σ : AM) : Option (Unit × AM) := mw σ (L_Rs_countWeightsOf_0 v0R v1I v2R σ)
def I_Rs_countWeightsOf (G : GX) (p : Program) (l : Launch) (e : Env) (s : State) (m : MethodId) (args : Array Value) (below : List Frame) (meth : Method) (c : Code) (z0 u0 n : Nat) : Prop :=
  (∀ (v0R : Nat) (v1I : Int32) (v2R : Nat) (σ : AM), VX (QM eV G args s below z0 u0) G p l e s m args below meth c 2 z0 u0 7 (lpn F_Rs_countWeightsOf n (0, v0R, v1I, v2R, 0, 0, 0, 0, σ)) 0 [(0, .ref v0R), (1, .int v1I), (2, .ref v2R)] [] σ) ∧
  (∀ (v0R : Nat) (v1I : Int32) (v2R : Nat) (v3I : Int32) (v4I : Int32) (v5I : Int32) (σ : AM), VX (QM eV G args s below z0 u0) G p l e s m args below meth c 2 z0 u0 7 (lpn F_Rs_countWeightsOf n (1, v0R, v1I, v2R, v3I, v4I, v5I, 0, σ)) 25 [(0, .ref v0R), (1, .int v1I), (2, .ref v2R), (3, .int v3I), (4, .int v4I), (5, .int v5I)] [] σ) ∧
  (∀ (v0R : Nat) (v3I : Int32) (v4I : Int32) (v5I : Int32) (v6I : Int32) (σ : AM), VX (QM eV G args s below z0 u0) G p l e s m args below meth c 2 z0 u0 7 (lpn F_Rs_countWeightsOf n (2, v0R, 0, 0, v3I, v4I, v5I, v6I, σ)) 52 [(0, .ref v0R), (3, .int v3I), (4, .int v4I), (5, .int v5I), (6, .int v6I)] [] σ) ∧
  (∀ (v0R : Nat) (v3I : Int32) (v4I : Int32) (v5I : Int32) (v6I : Int32) (σ : AM), VX (QM eV G args s below z0 u0) G p l e s m args below meth c 2 z0 u0 7 (lpn F_Rs_countWeightsOf n (3, v0R, 0, 0, v3I, v4I, v5I, v6I, σ)) 89 [(0, .ref v0R), (3, .int v3I), (4, .int v4I), (5, .int v5I), (6, .int v6I)] [] σ) ∧
  (∀ (σ : AM), VX (QM eV G args s below z0 u0) G p l e s m args below meth c 2 z0 u0 7 (lpn F_Rs_countWeightsOf n (4, 0, 0, 0, 0, 0, 0, 0, σ)) 95 [] [] σ)
set_option maxRecDepth 20000 in
theorem s_Rs_countWeightsOf_0 {G : GX} {p : Program} {l : Launch} {e : Env} {s : State} {m : MethodId} {args : Array Value} {below : List Frame} {meth : Method} {c : Code} {z0 u0 n : Nat} (C : Cx G p s m args meth c prog_10_method_16_code 7 "BellPlate$Rest" ((none))) (IH : I_Rs_countWeightsOf G p l e s m args below meth c z0 u0 n) (v0R : Nat) (v1I : Int32) (v2R : Nat) (σ : AM) : VX (QM eV G args s below z0 u0) G p l e s m args below meth c 2 z0 u0 7 (lpK (lpn F_Rs_countWeightsOf n) (T_Rs_countWeightsOf_0 v0R v1I v2R σ)) 0 [(0, .ref v0R), (1, .int v1I), (2, .ref v2R)] [] σ := by
  unfold T_Rs_countWeightsOf_0
  refine x_aload_n C d_Rs_countWeightsOf_0 0 rfl ?_
  refine x_gd (fun h1 => ?_)
  refine x_gd (fun h2 => ?_)
  refine x_getR (k := 2) (kv := 101) C (okO_iff.mp h1) rfl j4_ok (by decide) rfl (okO_iff.mp h2) (by decide) w341 d_Rs_countWeightsOf_1 ?_
  refine x_iconst (v := (0 : Int32)) C d_Rs_countWeightsOf_4 (by decide) ?_
  refine x_callSV (As := [.ref (aR σ v0R 2), .int (0 : Int32)]) C (c_JArr_fill2 G l (aR σ v0R 2) (0 : Int32) σ) w377 w1652 w378 w127 k_JArr_fill2 rfl (by decide) (by decide) rfl (Nat.le_of_ble_eq_true rfl) d_Rs_countWeightsOf_5 (fun r3 σ4 => ?_)
  refine x_aload_n C d_Rs_countWeightsOf_8 2 rfl ?_
  refine x_gd (fun h7 => ?_)
  refine x_callVI (As := []) C (c_Tw_most G l v2R  σ4) (okO_iff.mp h7) rfl w651 w652 w1653 w653 w122 k_Tw_most rfl (by decide) (by decide) rfl (Nat.le_of_ble_eq_true rfl) d_Rs_countWeightsOf_9 (fun r5 σ6 => ?_)
  refine x_iconst (v := (1 : Int32)) C d_Rs_countWeightsOf_12 (by decide) ?_
  refine x_iadd C d_Rs_countWeightsOf_13 ?_
  refine x_iconst (v := (1 : Int32)) C d_Rs_countWeightsOf_14 (by decide) ?_
  refine x_mmax C w1535 (by decide) (Nat.le_of_ble_eq_true rfl) d_Rs_countWeightsOf_15 ?_
  refine x_letI (fun x8 _ => ?_)
  refine x_istore_n (lv' := [(3, .int x8), (0, .ref v0R), (1, .int v1I), (2, .ref v2R)]) C d_Rs_countWeightsOf_18 (by decide) rfl rfl ?_
  refine x_iconst (v := (1 : Int32)) C d_Rs_countWeightsOf_19 (by decide) ?_
  refine x_istore (lv' := [(4, .int (1 : Int32)), (3, .int x8), (0, .ref v0R), (1, .int v1I), (2, .ref v2R)]) C d_Rs_countWeightsOf_20 (by decide) rfl ?_
  refine x_iconst (v := (0 : Int32)) C d_Rs_countWeightsOf_22 (by decide) ?_
  refine x_istore (lv' := [(5, .int (0 : Int32)), (4, .int (1 : Int32)), (3, .int x8), (0, .ref v0R), (1, .int v1I), (2, .ref v2R)]) C d_Rs_countWeightsOf_23 (by decide) rfl ?_
  refine x_lv [3, 4, 5, 2, 1, 0] rfl ?_
  exact IH.2.1 v0R v1I v2R x8 ((1 : Int32)) ((0 : Int32)) (σ6)
set_option maxRecDepth 20000 in
theorem s_Rs_countWeightsOf_1 {G : GX} {p : Program} {l : Launch} {e : Env} {s : State} {m : MethodId} {args : Array Value} {below : List Frame} {meth : Method} {c : Code} {z0 u0 n : Nat} (C : Cx G p s m args meth c prog_10_method_16_code 7 "BellPlate$Rest" ((none))) (IH : I_Rs_countWeightsOf G p l e s m args below meth c z0 u0 n) (v0R : Nat) (v1I : Int32) (v2R : Nat) (v3I : Int32) (v4I : Int32) (v5I : Int32) (σ : AM) : VX (QM eV G args s below z0 u0) G p l e s m args below meth c 2 z0 u0 7 (lpK (lpn F_Rs_countWeightsOf n) (T_Rs_countWeightsOf_1 v0R v1I v2R v3I v4I v5I σ)) 25 [(0, .ref v0R), (1, .int v1I), (2, .ref v2R), (3, .int v3I), (4, .int v4I), (5, .int v5I)] [] σ := by
  unfold T_Rs_countWeightsOf_1
  refine x_iload C d_Rs_countWeightsOf_25 5 rfl ?_
  refine x_iload_n C d_Rs_countWeightsOf_27 1 rfl ?_
  refine x_icmp_ge (tgt := 43) C d_Rs_countWeightsOf_28 (by decide) (fun _ => ?_) (fun _ => ?_)
  · refine x_iload C d_Rs_countWeightsOf_31 4 rfl ?_
    refine x_iload_n C d_Rs_countWeightsOf_33 3 rfl ?_
    refine x_imul C d_Rs_countWeightsOf_34 ?_
    refine x_letI (fun x1 _ => ?_)
    refine x_istore (lv' := [(4, .int x1), (0, .ref v0R), (1, .int v1I), (2, .ref v2R), (3, .int v3I), (5, .int v5I)]) C d_Rs_countWeightsOf_35 (by decide) rfl ?_
    refine x_iinc (v := v5I + (1 : Int32)) (lv' := [(5, .int (v5I + (1 : Int32))), (4, .int x1), (0, .ref v0R), (1, .int v1I), (2, .ref v2R), (3, .int v3I)]) C d_Rs_countWeightsOf_37 5 rfl rfl (by decide) rfl ?_
    refine x_goto (tgt := 25) C d_Rs_countWeightsOf_40 (by decide) ?_
    refine x_lv [2, 3, 4, 5, 1, 0] rfl ?_
    exact IH.2.1 v0R v1I v2R v3I x1 (v5I + (1 : Int32)) (σ)
  · refine x_aload_n C d_Rs_countWeightsOf_43 2 rfl ?_
    refine x_gd (fun h4 => ?_)
    refine x_callVI (As := []) C (c_Tw_all G l v2R  σ) (okO_iff.mp h4) rfl w630 w631 w1654 w632 w122 k_Tw_all rfl (by decide) (by decide) rfl (Nat.le_of_ble_eq_true rfl) d_Rs_countWeightsOf_44 (fun r2 σ3 => ?_)
    refine x_istore (lv' := [(5, .int r2), (0, .ref v0R), (1, .int v1I), (2, .ref v2R), (3, .int v3I), (4, .int v4I)]) C d_Rs_countWeightsOf_47 (by decide) rfl ?_
    refine x_iconst (v := (0 : Int32)) C d_Rs_countWeightsOf_49 (by decide) ?_
    refine x_istore (lv' := [(6, .int (0 : Int32)), (5, .int r2), (0, .ref v0R), (1, .int v1I), (2, .ref v2R), (3, .int v3I), (4, .int v4I)]) C d_Rs_countWeightsOf_50 (by decide) rfl ?_
    refine x_lv [2, 5, 6, 1, 0] rfl ?_
    exact IH.2.2.1 v0R v3I v4I r2 ((0 : Int32)) (σ3)
set_option maxRecDepth 20000 in
theorem s_Rs_countWeightsOf_2 {G : GX} {p : Program} {l : Launch} {e : Env} {s : State} {m : MethodId} {args : Array Value} {below : List Frame} {meth : Method} {c : Code} {z0 u0 n : Nat} (C : Cx G p s m args meth c prog_10_method_16_code 7 "BellPlate$Rest" ((none))) (IH : I_Rs_countWeightsOf G p l e s m args below meth c z0 u0 n) (v0R : Nat) (v3I : Int32) (v4I : Int32) (v5I : Int32) (v6I : Int32) (σ : AM) : VX (QM eV G args s below z0 u0) G p l e s m args below meth c 2 z0 u0 7 (lpK (lpn F_Rs_countWeightsOf n) (T_Rs_countWeightsOf_2 v0R v3I v4I v5I v6I σ)) 52 [(0, .ref v0R), (3, .int v3I), (4, .int v4I), (5, .int v5I), (6, .int v6I)] [] σ := by
  unfold T_Rs_countWeightsOf_2
  refine x_iload C d_Rs_countWeightsOf_52 4 rfl ?_
  refine x_iload C d_Rs_countWeightsOf_54 3 rfl ?_
  refine x_icmp_ge (tgt := 95) C d_Rs_countWeightsOf_56 (by decide) (fun _ => ?_) (fun _ => ?_)
  · refine x_iload C d_Rs_countWeightsOf_59 2 rfl ?_
    refine x_if_le (tgt := 95) C d_Rs_countWeightsOf_61 (by decide) (fun _ => ?_) (fun _ => ?_)
    · refine x_aload_n C d_Rs_countWeightsOf_64 0 rfl ?_
      refine x_iload C d_Rs_countWeightsOf_65 4 rfl ?_
      refine x_gd (fun h3 => ?_)
      refine x_callVI (As := [.int v6I]) C (c_Rs_holds G l v0R v6I σ) (okO_iff.mp h3) rfl w1256 w1257 w1655 w1258 w125 k_Rs_holds rfl (by decide) (by decide) rfl (Nat.le_of_ble_eq_true rfl) d_Rs_countWeightsOf_67 (fun r1 σ2 => ?_)
      refine x_if_eq (tgt := 89) C d_Rs_countWeightsOf_70 (by decide) (fun _ => ?_) (fun _ => ?_)
      · exact IH.2.2.2.1 v0R v3I v4I v5I v6I (σ2)
      · refine x_aload_n C d_Rs_countWeightsOf_73 0 rfl ?_
        refine x_gd (fun h4 => ?_)
        refine x_gd (fun h5 => ?_)
        refine x_getR (k := 2) (kv := 101) C (okO_iff.mp h4) rfl j4_ok (by decide) rfl (okO_iff.mp h5) (by decide) w341 d_Rs_countWeightsOf_74 ?_
        refine x_iload C d_Rs_countWeightsOf_77 4 rfl ?_
        refine x_iload C d_Rs_countWeightsOf_79 2 rfl ?_
        refine x_gd (fun h6 => ?_)
        refine x_idiv C d_Rs_countWeightsOf_81 (nzI_iff.mp h6) ?_
        refine x_iload_n C d_Rs_countWeightsOf_82 1 rfl ?_
        refine x_gd (fun h7 => ?_)
        refine x_irem C d_Rs_countWeightsOf_83 (nzI_iff.mp h7) ?_
        refine x_dup2 C d_Rs_countWeightsOf_84 rfl rfl ?_
        refine x_gd (fun h8 => ?_)
        refine x_aldI C (okO_iff.mp h5) (inB_iff.mp h8) d_Rs_countWeightsOf_85 ?_
        refine x_iconst (v := (1 : Int32)) C d_Rs_countWeightsOf_86 (by decide) ?_
        refine x_iadd C d_Rs_countWeightsOf_87 ?_
        refine x_astI C (okO_iff.mp h5) (inB_iff.mp h8) d_Rs_countWeightsOf_88 ?_
        refine x_letS (fun σ9 e10 => ?_)
        exact IH.2.2.2.1 v0R v3I v4I v5I v6I (σ9)
    · refine x_lv [] rfl ?_
      exact IH.2.2.2.2  (σ)
  · refine x_lv [] rfl ?_
    exact IH.2.2.2.2  (σ)
set_option maxRecDepth 20000 in
theorem s_Rs_countWeightsOf_3 {G : GX} {p : Program} {l : Launch} {e : Env} {s : State} {m : MethodId} {args : Array Value} {below : List Frame} {meth : Method} {c : Code} {z0 u0 n : Nat} (C : Cx G p s m args meth c prog_10_method_16_code 7 "BellPlate$Rest" ((none))) (IH : I_Rs_countWeightsOf G p l e s m args below meth c z0 u0 n) (v0R : Nat) (v3I : Int32) (v4I : Int32) (v5I : Int32) (v6I : Int32) (σ : AM) : VX (QM eV G args s below z0 u0) G p l e s m args below meth c 2 z0 u0 7 (lpK (lpn F_Rs_countWeightsOf n) (T_Rs_countWeightsOf_3 v0R v3I v4I v5I v6I σ)) 89 [(0, .ref v0R), (3, .int v3I), (4, .int v4I), (5, .int v5I), (6, .int v6I)] [] σ := by
  unfold T_Rs_countWeightsOf_3
  refine x_iinc (v := v6I + (1 : Int32)) (lv' := [(6, .int (v6I + (1 : Int32))), (0, .ref v0R), (3, .int v3I), (4, .int v4I), (5, .int v5I)]) C d_Rs_countWeightsOf_89 4 rfl rfl (by decide) rfl ?_
  refine x_goto (tgt := 52) C d_Rs_countWeightsOf_92 (by decide) ?_
  refine x_lv [1, 2, 3, 4, 0] rfl ?_
  exact IH.2.2.1 v0R v3I v4I v5I (v6I + (1 : Int32)) (σ)
set_option maxRecDepth 20000 in
theorem s_Rs_countWeightsOf_4 {G : GX} {p : Program} {l : Launch} {e : Env} {s : State} {m : MethodId} {args : Array Value} {below : List Frame} {meth : Method} {c : Code} {z0 u0 n : Nat} (C : Cx G p s m args meth c prog_10_method_16_code 7 "BellPlate$Rest" ((none))) (IH : I_Rs_countWeightsOf G p l e s m args below meth c z0 u0 n)  (σ : AM) : VX (QM eV G args s below z0 u0) G p l e s m args below meth c 2 z0 u0 7 (lpK (lpn F_Rs_countWeightsOf n) (T_Rs_countWeightsOf_4  σ)) 95 [] [] σ := by
  unfold T_Rs_countWeightsOf_4
  exact x_vret C d_Rs_countWeightsOf_95
theorem i_Rs_countWeightsOf {G : GX} {p : Program} {l : Launch} {e : Env} {s : State} {m : MethodId} {args : Array Value} {below : List Frame} {meth : Method} {c : Code} {z0 u0 : Nat} (C : Cx G p s m args meth c prog_10_method_16_code 7 "BellPlate$Rest" ((none))) (n : Nat) : I_Rs_countWeightsOf G p l e s m args below meth c z0 u0 n := by
  induction n with
  | zero => exact ⟨fun _ _ _ _ => x_none, fun _ _ _ _ _ _ _ => x_none, fun _ _ _ _ _ _ => x_none, fun _ _ _ _ _ _ => x_none, fun _ => x_none⟩
  | succ n IH => exact ⟨fun v0R v1I v2R σ => s_Rs_countWeightsOf_0 C IH v0R v1I v2R σ, fun v0R v1I v2R v3I v4I v5I σ => s_Rs_countWeightsOf_1 C IH v0R v1I v2R v3I v4I v5I σ, fun v0R v3I v4I v5I v6I σ => s_Rs_countWeightsOf_2 C IH v0R v3I v4I v5I v6I σ, fun v0R v3I v4I v5I v6I σ => s_Rs_countWeightsOf_3 C IH v0R v3I v4I v5I v6I σ, fun σ => s_Rs_countWeightsOf_4 C IH σ⟩
theorem c_Rs_countWeightsOf (G : GX) (l : Launch) (v0R : Nat) (v1I : Int32) (v2R : Nat) (σ : AM) : CT eV G l 2 y_Rs_countWeightsOf prog_10_method_16_code 7 (none) [.ref v0R, .int v1I, .ref v2R] σ (M_Rs_countWeightsOf v0R v1I v2R σ) := by
  refine ct_of (by decide +kernel) (Nat.le_of_ble_eq_true rfl) (fun p e s m args below meth c C hin => ?_)
  refine x_lve (lv' := [(0, .ref v0R), (1, .int v1I), (2, .ref v2R)]) rfl ?_
  intro r σ' h
  obtain ⟨n, hn⟩ := (lp_iff _ _ _).mp h
  exact (i_Rs_countWeightsOf C n).1 v0R v1I v2R σ r σ' hn
/-! BellPlate$Rest.likeliest()I -/
abbrev y_Rs_likeliest : MethodName := ⟨"BellPlate$Rest", "likeliest", "()I"⟩
theorem k_Rs_likeliest : y_Rs_likeliest.cls ≠ "java/lang/invoke/MethodHandle" ∧ y_Rs_likeliest.cls ≠ "java/lang/invoke/VarHandle" ∧ (parseMethodDescriptor y_Rs_likeliest.desc).map (fun d => d.parameters.length) = some 0 := by decide +kernel
theorem d_Rs_likeliest_0 : decode prog_10_method_17_code 0 = .ok (.iconst 0, 1) := by decide +kernel
theorem d_Rs_likeliest_1 : decode prog_10_method_17_code 1 = .ok (.istore_n 1, 1) := by decide +kernel
theorem d_Rs_likeliest_2 : decode prog_10_method_17_code 2 = .ok (.iconst 1, 1) := by decide +kernel
theorem d_Rs_likeliest_3 : decode prog_10_method_17_code 3 = .ok (.istore_n 2, 1) := by decide +kernel
theorem d_Rs_likeliest_4 : decode prog_10_method_17_code 4 = .ok (.iload_n 2, 1) := by decide +kernel
theorem d_Rs_likeliest_5 : decode prog_10_method_17_code 5 = .ok (.aload_n 0, 1) := by decide +kernel
theorem d_Rs_likeliest_6 : decode prog_10_method_17_code 6 = .ok (.getfield 21, 3) := by decide +kernel
theorem d_Rs_likeliest_9 : decode prog_10_method_17_code 9 = .ok (.arraylength, 1) := by decide +kernel
theorem d_Rs_likeliest_10 : decode prog_10_method_17_code 10 = .ok (.if_icmp .ge 26, 3) := by decide +kernel
theorem d_Rs_likeliest_13 : decode prog_10_method_17_code 13 = .ok (.aload_n 0, 1) := by decide +kernel
theorem d_Rs_likeliest_14 : decode prog_10_method_17_code 14 = .ok (.getfield 21, 3) := by decide +kernel
theorem d_Rs_likeliest_17 : decode prog_10_method_17_code 17 = .ok (.iload_n 2, 1) := by decide +kernel
theorem d_Rs_likeliest_18 : decode prog_10_method_17_code 18 = .ok (.iaload, 1) := by decide +kernel
theorem d_Rs_likeliest_19 : decode prog_10_method_17_code 19 = .ok (.aload_n 0, 1) := by decide +kernel
theorem d_Rs_likeliest_20 : decode prog_10_method_17_code 20 = .ok (.getfield 21, 3) := by decide +kernel
theorem d_Rs_likeliest_23 : decode prog_10_method_17_code 23 = .ok (.iload_n 1, 1) := by decide +kernel
theorem d_Rs_likeliest_24 : decode prog_10_method_17_code 24 = .ok (.iaload, 1) := by decide +kernel
theorem d_Rs_likeliest_25 : decode prog_10_method_17_code 25 = .ok (.if_icmp .le 5, 3) := by decide +kernel
theorem d_Rs_likeliest_28 : decode prog_10_method_17_code 28 = .ok (.iload_n 2, 1) := by decide +kernel
theorem d_Rs_likeliest_29 : decode prog_10_method_17_code 29 = .ok (.istore_n 1, 1) := by decide +kernel
theorem d_Rs_likeliest_30 : decode prog_10_method_17_code 30 = .ok (.iinc 2 1, 3) := by decide +kernel
theorem d_Rs_likeliest_33 : decode prog_10_method_17_code 33 = .ok (.goto (-29), 3) := by decide +kernel
theorem d_Rs_likeliest_36 : decode prog_10_method_17_code 36 = .ok (.iload_n 1, 1) := by decide +kernel
theorem d_Rs_likeliest_37 : decode prog_10_method_17_code 37 = .ok (.ireturn, 1) := by decide +kernel
abbrev S_Rs_likeliest : Type := Nat × Nat × Int32 × Int32 × AM
noncomputable def T_Rs_likeliest_0 (v0R : Nat) (σ : AM) : S_Rs_likeliest ⊕ Option (Int32 × AM) :=
  .inl (1, v0R, (0 : Int32), (1 : Int32), σ)
noncomputable def T_Rs_likeliest_1 (v0R : Nat) (v1I : Int32) (v2I : Int32) (σ : AM) : S_Rs_likeliest ⊕ Option (Int32 × AM) :=
  gdT (okO σ v0R 5) <| gdT (okO σ (aR σ v0R 2) 101) <| if v2I < (nI (aN σ (aR σ v0R 2))) then (gdT (inB v2I (aN σ (aR σ v0R 2))) <| gdT (inB v1I (aN σ (aR σ v0R 2))) <| if (aI σ (aR σ v0R 2) v1I.toNatClampNeg) < (aI σ (aR σ v0R 2) v2I.toNatClampNeg) then (.inl (2, v0R, v2I, v2I, σ)) else (.inl (2, v0R, v1I, v2I, σ))) else (.inr (some (v1I, σ)))
noncomputable def T_Rs_likeliest_2 (v0R : Nat) (v1I : Int32) (v2I : Int32) (σ : AM) : S_Rs_likeliest ⊕ Option (Int32 × AM) :=
  .inl (1, v0R, v1I, v2I + (1 : Int32), σ)
noncomputable def F_Rs_likeliest : S_Rs_likeliest → S_Rs_likeliest ⊕ Option (Int32 × AM) := fun s => match s.1 with
  | 0 => T_Rs_likeliest_0 (s.2.1) (s.2.2.2.2)
  | 1 => T_Rs_likeliest_1 (s.2.1) (s.2.2.1) (s.2.2.2.1) (s.2.2.2.2)
  | _ => T_Rs_likeliest_2 (s.2.1) (s.2.2.1) (s.2.2.2.1) (s.2.2.2.2)
noncomputable def L_Rs_likeliest_0 (v0R : Nat) (σ : AM) : Option (Int32 × AM) := lp F_Rs_likeliest (0, v0R, 0, 0, σ)
noncomputable def L_Rs_likeliest_1 (v0R : Nat) (v1I : Int32) (v2I : Int32) (σ : AM) : Option (Int32 × AM) := lp F_Rs_likeliest (1, v0R, v1I, v2I, σ)
noncomputable def L_Rs_likeliest_2 (v0R : Nat) (v1I : Int32) (v2I : Int32) (σ : AM) : Option (Int32 × AM) := lp F_Rs_likeliest (2, v0R, v1I, v2I, σ)
set_option maxRecDepth 20000 in
theorem E_Rs_likeliest_0 (v0R : Nat) (σ : AM) : L_Rs_likeliest_0 v0R σ = (L_Rs_likeliest_1 v0R ((0 : Int32)) ((1 : Int32)) σ) := by
  unfold L_Rs_likeliest_0
  rw [lp_eq]
  show lpK (lp F_Rs_likeliest) (T_Rs_likeliest_0 v0R σ) = _
  unfold T_Rs_likeliest_0
  simp only [lpK_ite, lq_inl, lq_inr, lpK_bnd, lpK_gd, lq_let]
  try rfl
set_option maxRecDepth 20000 in
theorem E_Rs_likeliest_1 (v0R : Nat) (v1I : Int32) (v2I : Int32) (σ : AM) : L_Rs_likeliest_1 v0R v1I v2I σ = (gd (okO σ v0R 5) <| gd (okO σ (aR σ v0R 2) 101) <| if v2I < (nI (aN σ (aR σ v0R 2))) then (gd (inB v2I (aN σ (aR σ v0R 2))) <| gd (inB v1I (aN σ (aR σ v0R 2))) <| if (aI σ (aR σ v0R 2) v1I.toNatClampNeg) < (aI σ (aR σ v0R 2) v2I.toNatClampNeg) then (L_Rs_likeliest_2 v0R v2I v2I σ) else (L_Rs_likeliest_2 v0R v1I v2I σ)) else ((some (v1I, σ)))) := by
  unfold L_Rs_likeliest_1
  rw [lp_eq]
  show lpK (lp F_Rs_likeliest) (T_Rs_likeliest_1 v0R v1I v2I σ) = _
  unfold T_Rs_likeliest_1
  simp only [lpK_ite, lq_inl, lq_inr, lpK_bnd, lpK_gd, lq_let]
  try rfl
set_option maxRecDepth 20000 in
theorem E_Rs_likeliest_2 (v0R : Nat) (v1I : Int32) (v2I : Int32) (σ : AM) : L_Rs_likeliest_2 v0R v1I v2I σ = (L_Rs_likeliest_1 v0R v1I (v2I + (1 : Int32)) σ) := by
  unfold L_Rs_likeliest_2
  rw [lp_eq]
  show lpK (lp F_Rs_likeliest) (T_Rs_likeliest_2 v0R v1I v2I σ) = _
  unfold T_Rs_likeliest_2
  simp only [lpK_ite, lq_inl, lq_inr, lpK_bnd, lpK_gd, lq_let]
  try rfl
noncomputable def M_Rs_likeliest (v0R : Nat) (σ : AM) : Option (Int32 × AM) := mw σ (L_Rs_likeliest_0 v0R σ)
def I_Rs_likeliest (G : GX) (p : Program) (l : Launch) (e : Env) (s : State) (m : MethodId) (args : Array Value) (below : List Frame) (meth : Method) (c : Code) (z0 u0 n : Nat) : Prop :=
  (∀ (v0R : Nat) (σ : AM), VX (QM eI G args s below z0 u0) G p l e s m args below meth c 0 z0 u0 3 (lpn F_Rs_likeliest n (0, v0R, 0, 0, σ)) 0 [(0, .ref v0R)] [] σ) ∧
  (∀ (v0R : Nat) (v1I : Int32) (v2I : Int32) (σ : AM), VX (QM eI G args s below z0 u0) G p l e s m args below meth c 0 z0 u0 3 (lpn F_Rs_likeliest n (1, v0R, v1I, v2I, σ)) 4 [(0, .ref v0R), (1, .int v1I), (2, .int v2I)] [] σ) ∧
  (∀ (v0R : Nat) (v1I : Int32) (v2I : Int32) (σ : AM), VX (QM eI G args s below z0 u0) G p l e s m args below meth c 0 z0 u0 3 (lpn F_Rs_likeliest n (2, v0R, v1I, v2I, σ)) 30 [(0, .ref v0R), (1, .int v1I), (2, .int v2I)] [] σ)
set_option maxRecDepth 20000 in
theorem s_Rs_likeliest_0 {G : GX} {p : Program} {l : Launch} {e : Env} {s : State} {m : MethodId} {args : Array Value} {below : List Frame} {meth : Method} {c : Code} {z0 u0 n : Nat} (C : Cx G p s m args meth c prog_10_method_17_code 3 "BellPlate$Rest" ((some FieldType.int))) (IH : I_Rs_likeliest G p l e s m args below meth c z0 u0 n) (v0R : Nat) (σ : AM) : VX (QM eI G args s below z0 u0) G p l e s m args below meth c 0 z0 u0 3 (lpK (lpn F_Rs_likeliest n) (T_Rs_likeliest_0 v0R σ)) 0 [(0, .ref v0R)] [] σ := by
  unfold T_Rs_likeliest_0
  refine x_iconst (v := (0 : Int32)) C d_Rs_likeliest_0 (by decide) ?_
  refine x_istore_n (lv' := [(1, .int (0 : Int32)), (0, .ref v0R)]) C d_Rs_likeliest_1 (by decide) rfl rfl ?_
  refine x_iconst (v := (1 : Int32)) C d_Rs_likeliest_2 (by decide) ?_
  refine x_istore_n (lv' := [(2, .int (1 : Int32)), (1, .int (0 : Int32)), (0, .ref v0R)]) C d_Rs_likeliest_3 (by decide) rfl rfl ?_
  refine x_lv [2, 1, 0] rfl ?_
  exact IH.2.1 v0R ((0 : Int32)) ((1 : Int32)) (σ)
set_option maxRecDepth 20000 in
theorem s_Rs_likeliest_1 {G : GX} {p : Program} {l : Launch} {e : Env} {s : State} {m : MethodId} {args : Array Value} {below : List Frame} {meth : Method} {c : Code} {z0 u0 n : Nat} (C : Cx G p s m args meth c prog_10_method_17_code 3 "BellPlate$Rest" ((some FieldType.int))) (IH : I_Rs_likeliest G p l e s m args below meth c z0 u0 n) (v0R : Nat) (v1I : Int32) (v2I : Int32) (σ : AM) : VX (QM eI G args s below z0 u0) G p l e s m args below meth c 0 z0 u0 3 (lpK (lpn F_Rs_likeliest n) (T_Rs_likeliest_1 v0R v1I v2I σ)) 4 [(0, .ref v0R), (1, .int v1I), (2, .int v2I)] [] σ := by
  unfold T_Rs_likeliest_1
  refine x_iload_n C d_Rs_likeliest_4 2 rfl ?_
  refine x_aload_n C d_Rs_likeliest_5 0 rfl ?_
  refine x_gd (fun h1 => ?_)
  refine x_gd (fun h2 => ?_)
  refine x_getR (k := 2) (kv := 101) C (okO_iff.mp h1) rfl j4_ok (by decide) rfl (okO_iff.mp h2) (by decide) w341 d_Rs_likeliest_6 ?_
  refine x_alen (t := 0) C (okO_iff.mp h2) (by decide) d_Rs_likeliest_9 ?_
  refine x_icmp_ge (tgt := 36) C d_Rs_likeliest_10 (by decide) (fun _ => ?_) (fun _ => ?_)
  · refine x_aload_n C d_Rs_likeliest_13 0 rfl ?_
    refine x_getR (k := 2) (kv := 101) C (okO_iff.mp h1) rfl j4_ok (by decide) rfl (okO_iff.mp h2) (by decide) w341 d_Rs_likeliest_14 ?_
    refine x_iload_n C d_Rs_likeliest_17 2 rfl ?_
    refine x_gd (fun h3 => ?_)
    refine x_aldI C (okO_iff.mp h2) (inB_iff.mp h3) d_Rs_likeliest_18 ?_
    refine x_aload_n C d_Rs_likeliest_19 0 rfl ?_
    refine x_getR (k := 2) (kv := 101) C (okO_iff.mp h1) rfl j4_ok (by decide) rfl (okO_iff.mp h2) (by decide) w341 d_Rs_likeliest_20 ?_
    refine x_iload_n C d_Rs_likeliest_23 1 rfl ?_
    refine x_gd (fun h4 => ?_)
    refine x_aldI C (okO_iff.mp h2) (inB_iff.mp h4) d_Rs_likeliest_24 ?_
    refine x_icmp_le (tgt := 30) C d_Rs_likeliest_25 (by decide) (fun _ => ?_) (fun _ => ?_)
    · refine x_iload_n C d_Rs_likeliest_28 2 rfl ?_
      refine x_istore_n (lv' := [(1, .int v2I), (0, .ref v0R), (2, .int v2I)]) C d_Rs_likeliest_29 (by decide) rfl rfl ?_
      refine x_lv [1, 0, 2] rfl ?_
      exact IH.2.2 v0R v2I v2I (σ)
    · exact IH.2.2 v0R v1I v2I (σ)
  · refine x_iload_n C d_Rs_likeliest_36 1 rfl ?_
    exact x_iret C d_Rs_likeliest_37
set_option maxRecDepth 20000 in
theorem s_Rs_likeliest_2 {G : GX} {p : Program} {l : Launch} {e : Env} {s : State} {m : MethodId} {args : Array Value} {below : List Frame} {meth : Method} {c : Code} {z0 u0 n : Nat} (C : Cx G p s m args meth c prog_10_method_17_code 3 "BellPlate$Rest" ((some FieldType.int))) (IH : I_Rs_likeliest G p l e s m args below meth c z0 u0 n) (v0R : Nat) (v1I : Int32) (v2I : Int32) (σ : AM) : VX (QM eI G args s below z0 u0) G p l e s m args below meth c 0 z0 u0 3 (lpK (lpn F_Rs_likeliest n) (T_Rs_likeliest_2 v0R v1I v2I σ)) 30 [(0, .ref v0R), (1, .int v1I), (2, .int v2I)] [] σ := by
  unfold T_Rs_likeliest_2
  refine x_iinc (v := v2I + (1 : Int32)) (lv' := [(2, .int (v2I + (1 : Int32))), (0, .ref v0R), (1, .int v1I)]) C d_Rs_likeliest_30 2 rfl rfl (by decide) rfl ?_
  refine x_goto (tgt := 4) C d_Rs_likeliest_33 (by decide) ?_
  refine x_lv [1, 2, 0] rfl ?_
  exact IH.2.1 v0R v1I (v2I + (1 : Int32)) (σ)
theorem i_Rs_likeliest {G : GX} {p : Program} {l : Launch} {e : Env} {s : State} {m : MethodId} {args : Array Value} {below : List Frame} {meth : Method} {c : Code} {z0 u0 : Nat} (C : Cx G p s m args meth c prog_10_method_17_code 3 "BellPlate$Rest" ((some FieldType.int))) (n : Nat) : I_Rs_likeliest G p l e s m args below meth c z0 u0 n := by
  induction n with
  | zero => exact ⟨fun _ _ => x_none, fun _ _ _ _ => x_none, fun _ _ _ _ => x_none⟩
  | succ n IH => exact ⟨fun v0R σ => s_Rs_likeliest_0 C IH v0R σ, fun v0R v1I v2I σ => s_Rs_likeliest_1 C IH v0R v1I v2I σ, fun v0R v1I v2I σ => s_Rs_likeliest_2 C IH v0R v1I v2I σ⟩
theorem c_Rs_likeliest (G : GX) (l : Launch) (v0R : Nat) (σ : AM) : CT eI G l 0 y_Rs_likeliest prog_10_method_17_code 3 ((some FieldType.int)) [.ref v0R] σ (M_Rs_likeliest v0R σ) := by
  refine ct_of (by decide +kernel) (Nat.le_of_ble_eq_true rfl) (fun p e s m args below meth c C hin => ?_)
  refine x_lve (lv' := [(0, .ref v0R)]) rfl ?_
  intro r σ' h
  obtain ⟨n, hn⟩ := (lp_iff _ _ _).mp h
  exact (i_Rs_likeliest C n).1 v0R σ r σ' hn
/-! BellPlate$Rest.lightest()I -/
abbrev y_Rs_lightest : MethodName := ⟨"BellPlate$Rest", "lightest", "()I"⟩
theorem k_Rs_lightest : y_Rs_lightest.cls ≠ "java/lang/invoke/MethodHandle" ∧ y_Rs_lightest.cls ≠ "java/lang/invoke/VarHandle" ∧ (parseMethodDescriptor y_Rs_lightest.desc).map (fun d => d.parameters.length) = some 0 := by decide +kernel
theorem d_Rs_lightest_0 : decode prog_10_method_18_code 0 = .ok (.iconst 0, 1) := by decide +kernel
theorem d_Rs_lightest_1 : decode prog_10_method_18_code 1 = .ok (.istore_n 1, 1) := by decide +kernel
theorem d_Rs_lightest_2 : decode prog_10_method_18_code 2 = .ok (.iload_n 1, 1) := by decide +kernel
theorem d_Rs_lightest_3 : decode prog_10_method_18_code 3 = .ok (.aload_n 0, 1) := by decide +kernel
theorem d_Rs_lightest_4 : decode prog_10_method_18_code 4 = .ok (.getfield 21, 3) := by decide +kernel
theorem d_Rs_lightest_7 : decode prog_10_method_18_code 7 = .ok (.arraylength, 1) := by decide +kernel
theorem d_Rs_lightest_8 : decode prog_10_method_18_code 8 = .ok (.if_icmp .ge 20, 3) := by decide +kernel
theorem d_Rs_lightest_11 : decode prog_10_method_18_code 11 = .ok (.aload_n 0, 1) := by decide +kernel
theorem d_Rs_lightest_12 : decode prog_10_method_18_code 12 = .ok (.getfield 21, 3) := by decide +kernel
theorem d_Rs_lightest_15 : decode prog_10_method_18_code 15 = .ok (.iload_n 1, 1) := by decide +kernel
theorem d_Rs_lightest_16 : decode prog_10_method_18_code 16 = .ok (.iaload, 1) := by decide +kernel
theorem d_Rs_lightest_17 : decode prog_10_method_18_code 17 = .ok (.ifCond .le 5, 3) := by decide +kernel
theorem d_Rs_lightest_20 : decode prog_10_method_18_code 20 = .ok (.iload_n 1, 1) := by decide +kernel
theorem d_Rs_lightest_21 : decode prog_10_method_18_code 21 = .ok (.ireturn, 1) := by decide +kernel
theorem d_Rs_lightest_22 : decode prog_10_method_18_code 22 = .ok (.iinc 1 1, 3) := by decide +kernel
theorem d_Rs_lightest_25 : decode prog_10_method_18_code 25 = .ok (.goto (-23), 3) := by decide +kernel
theorem d_Rs_lightest_28 : decode prog_10_method_18_code 28 = .ok (.iconst (-1), 1) := by decide +kernel
theorem d_Rs_lightest_29 : decode prog_10_method_18_code 29 = .ok (.ireturn, 1) := by decide +kernel
abbrev S_Rs_lightest : Type := Nat × Nat × Int32 × AM
noncomputable def T_Rs_lightest_0 (v0R : Nat) (σ : AM) : S_Rs_lightest ⊕ Option (Int32 × AM) :=
  .inl (1, v0R, (0 : Int32), σ)
noncomputable def T_Rs_lightest_1 (v0R : Nat) (v1I : Int32) (σ : AM) : S_Rs_lightest ⊕ Option (Int32 × AM) :=
  gdT (okO σ v0R 5) <| gdT (okO σ (aR σ v0R 2) 101) <| if v1I < (nI (aN σ (aR σ v0R 2))) then (gdT (inB v1I (aN σ (aR σ v0R 2))) <| if 0 < (aI σ (aR σ v0R 2) v1I.toNatClampNeg) then (.inr (some (v1I, σ))) else (.inl (1, v0R, v1I + (1 : Int32), σ))) else (.inr (some (((-1) : Int32), σ)))
noncomputable def F_Rs_lightest : S_Rs_lightest → S_Rs_lightest ⊕ Option (Int32 × AM) := fun s => match s.1 with
  | 0 => T_Rs_lightest_0 (s.2.1) (s.2.2.2)
  | _ => T_Rs_lightest_1 (s.2.1) (s.2.2.1) (s.2.2.2)
noncomputable def L_Rs_lightest_0 (v0R : Nat) (σ : AM) : Option (Int32 × AM) := lp F_Rs_lightest (0, v0R, 0, σ)
noncomputable def L_Rs_lightest_1 (v0R : Nat) (v1I : Int32) (σ : AM) : Option (Int32 × AM) := lp F_Rs_lightest (1, v0R, v1I, σ)
set_option maxRecDepth 20000 in
theorem E_Rs_lightest_0 (v0R : Nat) (σ : AM) : L_Rs_lightest_0 v0R σ = (L_Rs_lightest_1 v0R ((0 : Int32)) σ) := by
  unfold L_Rs_lightest_0
  rw [lp_eq]
  show lpK (lp F_Rs_lightest) (T_Rs_lightest_0 v0R σ) = _
  unfold T_Rs_lightest_0
  simp only [lpK_ite, lq_inl, lq_inr, lpK_bnd, lpK_gd, lq_let]
  try rfl
set_option maxRecDepth 20000 in
theorem E_Rs_lightest_1 (v0R : Nat) (v1I : Int32) (σ : AM) : L_Rs_lightest_1 v0R v1I σ = (gd (okO σ v0R 5) <| gd (okO σ (aR σ v0R 2) 101) <| if v1I < (nI (aN σ (aR σ v0R 2))) then (gd (inB v1I (aN σ (aR σ v0R 2))) <| if 0 < (aI σ (aR σ v0R 2) v1I.toNatClampNeg) then ((some (v1I, σ))) else (L_Rs_lightest_1 v0R (v1I + (1 : Int32)) σ)) else ((some (((-1) : Int32), σ)))) := by
  unfold L_Rs_lightest_1
  rw [lp_eq]
  show lpK (lp F_Rs_lightest) (T_Rs_lightest_1 v0R v1I σ) = _
  unfold T_Rs_lightest_1
  simp only [lpK_ite, lq_inl, lq_inr, lpK_bnd, lpK_gd, lq_let]
  try rfl
noncomputable def M_Rs_lightest (v0R : Nat) (σ : AM) : Option (Int32 × AM) := mw σ (L_Rs_lightest_0 v0R σ)
def I_Rs_lightest (G : GX) (p : Program) (l : Launch) (e : Env) (s : State) (m : MethodId) (args : Array Value) (below : List Frame) (meth : Method) (c : Code) (z0 u0 n : Nat) : Prop :=
  (∀ (v0R : Nat) (σ : AM), VX (QM eI G args s below z0 u0) G p l e s m args below meth c 0 z0 u0 2 (lpn F_Rs_lightest n (0, v0R, 0, σ)) 0 [(0, .ref v0R)] [] σ) ∧
  (∀ (v0R : Nat) (v1I : Int32) (σ : AM), VX (QM eI G args s below z0 u0) G p l e s m args below meth c 0 z0 u0 2 (lpn F_Rs_lightest n (1, v0R, v1I, σ)) 2 [(0, .ref v0R), (1, .int v1I)] [] σ)
set_option maxRecDepth 20000 in
theorem s_Rs_lightest_0 {G : GX} {p : Program} {l : Launch} {e : Env} {s : State} {m : MethodId} {args : Array Value} {below : List Frame} {meth : Method} {c : Code} {z0 u0 n : Nat} (C : Cx G p s m args meth c prog_10_method_18_code 2 "BellPlate$Rest" ((some FieldType.int))) (IH : I_Rs_lightest G p l e s m args below meth c z0 u0 n) (v0R : Nat) (σ : AM) : VX (QM eI G args s below z0 u0) G p l e s m args below meth c 0 z0 u0 2 (lpK (lpn F_Rs_lightest n) (T_Rs_lightest_0 v0R σ)) 0 [(0, .ref v0R)] [] σ := by
  unfold T_Rs_lightest_0
  refine x_iconst (v := (0 : Int32)) C d_Rs_lightest_0 (by decide) ?_
  refine x_istore_n (lv' := [(1, .int (0 : Int32)), (0, .ref v0R)]) C d_Rs_lightest_1 (by decide) rfl rfl ?_
  refine x_lv [1, 0] rfl ?_
  exact IH.2 v0R ((0 : Int32)) (σ)
set_option maxRecDepth 20000 in
theorem s_Rs_lightest_1 {G : GX} {p : Program} {l : Launch} {e : Env} {s : State} {m : MethodId} {args : Array Value} {below : List Frame} {meth : Method} {c : Code} {z0 u0 n : Nat} (C : Cx G p s m args meth c prog_10_method_18_code 2 "BellPlate$Rest" ((some FieldType.int))) (IH : I_Rs_lightest G p l e s m args below meth c z0 u0 n) (v0R : Nat) (v1I : Int32) (σ : AM) : VX (QM eI G args s below z0 u0) G p l e s m args below meth c 0 z0 u0 2 (lpK (lpn F_Rs_lightest n) (T_Rs_lightest_1 v0R v1I σ)) 2 [(0, .ref v0R), (1, .int v1I)] [] σ := by
  unfold T_Rs_lightest_1
  refine x_iload_n C d_Rs_lightest_2 1 rfl ?_
  refine x_aload_n C d_Rs_lightest_3 0 rfl ?_
  refine x_gd (fun h1 => ?_)
  refine x_gd (fun h2 => ?_)
  refine x_getR (k := 2) (kv := 101) C (okO_iff.mp h1) rfl j4_ok (by decide) rfl (okO_iff.mp h2) (by decide) w341 d_Rs_lightest_4 ?_
  refine x_alen (t := 0) C (okO_iff.mp h2) (by decide) d_Rs_lightest_7 ?_
  refine x_icmp_ge (tgt := 28) C d_Rs_lightest_8 (by decide) (fun _ => ?_) (fun _ => ?_)
  · refine x_aload_n C d_Rs_lightest_11 0 rfl ?_
    refine x_getR (k := 2) (kv := 101) C (okO_iff.mp h1) rfl j4_ok (by decide) rfl (okO_iff.mp h2) (by decide) w341 d_Rs_lightest_12 ?_
    refine x_iload_n C d_Rs_lightest_15 1 rfl ?_
    refine x_gd (fun h3 => ?_)
    refine x_aldI C (okO_iff.mp h2) (inB_iff.mp h3) d_Rs_lightest_16 ?_
    refine x_if_le (tgt := 22) C d_Rs_lightest_17 (by decide) (fun _ => ?_) (fun _ => ?_)
    · refine x_iload_n C d_Rs_lightest_20 1 rfl ?_
      exact x_iret C d_Rs_lightest_21
    · refine x_iinc (v := v1I + (1 : Int32)) (lv' := [(1, .int (v1I + (1 : Int32))), (0, .ref v0R)]) C d_Rs_lightest_22 1 rfl rfl (by decide) rfl ?_
      refine x_goto (tgt := 2) C d_Rs_lightest_25 (by decide) ?_
      refine x_lv [1, 0] rfl ?_
      exact IH.2 v0R (v1I + (1 : Int32)) (σ)
  · refine x_iconst (v := ((-1) : Int32)) C d_Rs_lightest_28 (by decide) ?_
    exact x_iret C d_Rs_lightest_29
theorem i_Rs_lightest {G : GX} {p : Program} {l : Launch} {e : Env} {s : State} {m : MethodId} {args : Array Value} {below : List Frame} {meth : Method} {c : Code} {z0 u0 : Nat} (C : Cx G p s m args meth c prog_10_method_18_code 2 "BellPlate$Rest" ((some FieldType.int))) (n : Nat) : I_Rs_lightest G p l e s m args below meth c z0 u0 n := by
  induction n with
  | zero => exact ⟨fun _ _ => x_none, fun _ _ _ => x_none⟩
  | succ n IH => exact ⟨fun v0R σ => s_Rs_lightest_0 C IH v0R σ, fun v0R v1I σ => s_Rs_lightest_1 C IH v0R v1I σ⟩
theorem c_Rs_lightest (G : GX) (l : Launch) (v0R : Nat) (σ : AM) : CT eI G l 0 y_Rs_lightest prog_10_method_18_code 2 ((some FieldType.int)) [.ref v0R] σ (M_Rs_lightest v0R σ) := by
  refine ct_of (by decide +kernel) (Nat.le_of_ble_eq_true rfl) (fun p e s m args below meth c C hin => ?_)
  refine x_lve (lv' := [(0, .ref v0R)]) rfl ?_
  intro r σ' h
  obtain ⟨n, hn⟩ := (lp_iff _ _ _).mp h
  exact (i_Rs_lightest C n).1 v0R σ r σ' hn
/-! BellPlate$Rest.heaviest()I -/
abbrev y_Rs_heaviest : MethodName := ⟨"BellPlate$Rest", "heaviest", "()I"⟩
theorem k_Rs_heaviest : y_Rs_heaviest.cls ≠ "java/lang/invoke/MethodHandle" ∧ y_Rs_heaviest.cls ≠ "java/lang/invoke/VarHandle" ∧ (parseMethodDescriptor y_Rs_heaviest.desc).map (fun d => d.parameters.length) = some 0 := by decide +kernel
theorem d_Rs_heaviest_0 : decode prog_10_method_19_code 0 = .ok (.aload_n 0, 1) := by decide +kernel
theorem d_Rs_heaviest_1 : decode prog_10_method_19_code 1 = .ok (.getfield 21, 3) := by decide +kernel
theorem d_Rs_heaviest_4 : decode prog_10_method_19_code 4 = .ok (.arraylength, 1) := by decide +kernel
theorem d_Rs_heaviest_5 : decode prog_10_method_19_code 5 = .ok (.iconst 1, 1) := by decide +kernel
theorem d_Rs_heaviest_6 : decode prog_10_method_19_code 6 = .ok (.isub, 1) := by decide +kernel
theorem d_Rs_heaviest_7 : decode prog_10_method_19_code 7 = .ok (.istore_n 1, 1) := by decide +kernel
theorem d_Rs_heaviest_8 : decode prog_10_method_19_code 8 = .ok (.iload_n 1, 1) := by decide +kernel
theorem d_Rs_heaviest_9 : decode prog_10_method_19_code 9 = .ok (.ifCond .lt 20, 3) := by decide +kernel
theorem d_Rs_heaviest_12 : decode prog_10_method_19_code 12 = .ok (.aload_n 0, 1) := by decide +kernel
theorem d_Rs_heaviest_13 : decode prog_10_method_19_code 13 = .ok (.getfield 21, 3) := by decide +kernel
theorem d_Rs_heaviest_16 : decode prog_10_method_19_code 16 = .ok (.iload_n 1, 1) := by decide +kernel
theorem d_Rs_heaviest_17 : decode prog_10_method_19_code 17 = .ok (.iaload, 1) := by decide +kernel
theorem d_Rs_heaviest_18 : decode prog_10_method_19_code 18 = .ok (.ifCond .le 5, 3) := by decide +kernel
theorem d_Rs_heaviest_21 : decode prog_10_method_19_code 21 = .ok (.iload_n 1, 1) := by decide +kernel
theorem d_Rs_heaviest_22 : decode prog_10_method_19_code 22 = .ok (.ireturn, 1) := by decide +kernel
theorem d_Rs_heaviest_23 : decode prog_10_method_19_code 23 = .ok (.iinc 1 (-1), 3) := by decide +kernel
theorem d_Rs_heaviest_26 : decode prog_10_method_19_code 26 = .ok (.goto (-18), 3) := by decide +kernel
theorem d_Rs_heaviest_29 : decode prog_10_method_19_code 29 = .ok (.iconst (-1), 1) := by decide +kernel
theorem d_Rs_heaviest_30 : decode prog_10_method_19_code 30 = .ok (.ireturn, 1) := by decide +kernel
abbrev S_Rs_heaviest : Type := Nat × Nat × Int32 × AM
noncomputable def T_Rs_heaviest_0 (v0R : Nat) (σ : AM) : S_Rs_heaviest ⊕ Option (Int32 × AM) :=
  gdT (okO σ v0R 5) <| gdT (okO σ (aR σ v0R 2) 101) <| letT ((nI (aN σ (aR σ v0R 2))) - (1 : Int32)) fun x3 => .inl (1, v0R, x3, σ)
noncomputable def T_Rs_heaviest_1 (v0R : Nat) (v1I : Int32) (σ : AM) : S_Rs_heaviest ⊕ Option (Int32 × AM) :=
  if v1I < 0 then (.inr (some (((-1) : Int32), σ))) else (gdT (okO σ v0R 5) <| gdT (okO σ (aR σ v0R 2) 101) <| gdT (inB v1I (aN σ (aR σ v0R 2))) <| if 0 < (aI σ (aR σ v0R 2) v1I.toNatClampNeg) then (.inr (some (v1I, σ))) else (.inl (1, v0R, v1I + ((-1) : Int32), σ)))
noncomputable def F_Rs_heaviest : S_Rs_heaviest → S_Rs_heaviest ⊕ Option (Int32 × AM) := fun s => match s.1 with
  | 0 => T_Rs_heaviest_0 (s.2.1) (s.2.2.2)
  | _ => T_Rs_heaviest_1 (s.2.1) (s.2.2.1) (s.2.2.2)
noncomputable def L_Rs_heaviest_0 (v0R : Nat) (σ : AM) : Option (Int32 × AM) := lp F_Rs_heaviest (0, v0R, 0, σ)
noncomputable def L_Rs_heaviest_1 (v0R : Nat) (v1I : Int32) (σ : AM) : Option (Int32 × AM) := lp F_Rs_heaviest (1, v0R, v1I, σ)
set_option maxRecDepth 20000 in
theorem E_Rs_heaviest_0 (v0R : Nat) (σ : AM) : L_Rs_heaviest_0 v0R σ = (gd (okO σ v0R 5) <| gd (okO σ (aR σ v0R 2) 101) <| letT ((nI (aN σ (aR σ v0R 2))) - (1 : Int32)) fun x3 => L_Rs_heaviest_1 v0R x3 σ) := by
  unfold L_Rs_heaviest_0
  rw [lp_eq]
  show lpK (lp F_Rs_heaviest) (T_Rs_heaviest_0 v0R σ) = _
  unfold T_Rs_heaviest_0
  simp only [lpK_ite, lq_inl, lq_inr, lpK_bnd, lpK_gd, lq_let]
  try rfl
set_option maxRecDepth 20000 in
theorem E_Rs_heaviest_1 (v0R : Nat) (v1I : Int32) (σ : AM) : L_Rs_heaviest_1 v0R v1I σ = (if v1I < 0 then ((some (((-1) : Int32), σ))) else (gd (okO σ v0R 5) <| gd (okO σ (aR σ v0R 2) 101) <| gd (inB v1I (aN σ (aR σ v0R 2))) <| if 0 < (aI σ (aR σ v0R 2) v1I.toNatClampNeg) then ((some (v1I, σ))) else (L_Rs_heaviest_1 v0R (v1I + ((-1) : Int32)) σ))) := by
  unfold L_Rs_heaviest_1
  rw [lp_eq]
  show lpK (lp F_Rs_heaviest) (T_Rs_heaviest_1 v0R v1I σ) = _
  unfold T_Rs_heaviest_1
  simp only [lpK_ite, lq_inl, lq_inr, lpK_bnd, lpK_gd, lq_let]
  try rfl
noncomputable def M_Rs_heaviest (v0R : Nat) (σ : AM) : Option (Int32 × AM) := mw σ (L_Rs_heaviest_0 v0R σ)
def I_Rs_heaviest (G : GX) (p : Program) (l : Launch) (e : Env) (s : State) (m : MethodId) (args : Array Value) (below : List Frame) (meth : Method) (c : Code) (z0 u0 n : Nat) : Prop :=
  (∀ (v0R : Nat) (σ : AM), VX (QM eI G args s below z0 u0) G p l e s m args below meth c 0 z0 u0 2 (lpn F_Rs_heaviest n (0, v0R, 0, σ)) 0 [(0, .ref v0R)] [] σ) ∧
  (∀ (v0R : Nat) (v1I : Int32) (σ : AM), VX (QM eI G args s below z0 u0) G p l e s m args below meth c 0 z0 u0 2 (lpn F_Rs_heaviest n (1, v0R, v1I, σ)) 8 [(0, .ref v0R), (1, .int v1I)] [] σ)
set_option maxRecDepth 20000 in
theorem s_Rs_heaviest_0 {G : GX} {p : Program} {l : Launch} {e : Env} {s : State} {m : MethodId} {args : Array Value} {below : List Frame} {meth : Method} {c : Code} {z0 u0 n : Nat} (C : Cx G p s m args meth c prog_10_method_19_code 2 "BellPlate$Rest" ((some FieldType.int))) (IH : I_Rs_heaviest G p l e s m args below meth c z0 u0 n) (v0R : Nat) (σ : AM) : VX (QM eI G args s below z0 u0) G p l e s m args below meth c 0 z0 u0 2 (lpK (lpn F_Rs_heaviest n) (T_Rs_heaviest_0 v0R σ)) 0 [(0, .ref v0R)] [] σ := by
  unfold T_Rs_heaviest_0
  refine x_aload_n C d_Rs_heaviest_0 0 rfl ?_
  refine x_gd (fun h1 => ?_)
  refine x_gd (fun h2 => ?_)
  refine x_getR (k := 2) (kv := 101) C (okO_iff.mp h1) rfl j4_ok (by decide) rfl (okO_iff.mp h2) (by decide) w341 d_Rs_heaviest_1 ?_
  refine x_alen (t := 0) C (okO_iff.mp h2) (by decide) d_Rs_heaviest_4 ?_
  refine x_iconst (v := (1 : Int32)) C d_Rs_heaviest_5 (by decide) ?_
  refine x_isub C d_Rs_heaviest_6 ?_
  refine x_letI (fun x3 _ => ?_)
  refine x_istore_n (lv' := [(1, .int x3), (0, .ref v0R)]) C d_Rs_heaviest_7 (by decide) rfl rfl ?_
  refine x_lv [1, 0] rfl ?_
  exact IH.2 v0R x3 (σ)
set_option maxRecDepth 20000 in
theorem s_Rs_heaviest_1 {G : GX} {p : Program} {l : Launch} {e : Env} {s : State} {m : MethodId} {args : Array Value} {below : List Frame} {meth : Method} {c : Code} {z0 u0 n : Nat} (C : Cx G p s m args meth c prog_10_method_19_code 2 "BellPlate$Rest" ((some FieldType.int))) (IH : I_Rs_heaviest G p l e s m args below meth c z0 u0 n) (v0R : Nat) (v1I : Int32) (σ : AM) : VX (QM eI G args s below z0 u0) G p l e s m args below meth c 0 z0 u0 2 (lpK (lpn F_Rs_heaviest n) (T_Rs_heaviest_1 v0R v1I σ)) 8 [(0, .ref v0R), (1, .int v1I)] [] σ := by
  unfold T_Rs_heaviest_1
  refine x_iload_n C d_Rs_heaviest_8 1 rfl ?_
  refine x_if_lt (tgt := 29) C d_Rs_heaviest_9 (by decide) (fun _ => ?_) (fun _ => ?_)
  · refine x_iconst (v := ((-1) : Int32)) C d_Rs_heaviest_29 (by decide) ?_
    exact x_iret C d_Rs_heaviest_30
  · refine x_aload_n C d_Rs_heaviest_12 0 rfl ?_
    refine x_gd (fun h1 => ?_)
    refine x_gd (fun h2 => ?_)
    refine x_getR (k := 2) (kv := 101) C (okO_iff.mp h1) rfl j4_ok (by decide) rfl (okO_iff.mp h2) (by decide) w341 d_Rs_heaviest_13 ?_
    refine x_iload_n C d_Rs_heaviest_16 1 rfl ?_
    refine x_gd (fun h3 => ?_)
    refine x_aldI C (okO_iff.mp h2) (inB_iff.mp h3) d_Rs_heaviest_17 ?_
    refine x_if_le (tgt := 23) C d_Rs_heaviest_18 (by decide) (fun _ => ?_) (fun _ => ?_)
    · refine x_iload_n C d_Rs_heaviest_21 1 rfl ?_
      exact x_iret C d_Rs_heaviest_22
    · refine x_iinc (v := v1I + ((-1) : Int32)) (lv' := [(1, .int (v1I + ((-1) : Int32))), (0, .ref v0R)]) C d_Rs_heaviest_23 1 rfl rfl (by decide) rfl ?_
      refine x_goto (tgt := 8) C d_Rs_heaviest_26 (by decide) ?_
      refine x_lv [1, 0] rfl ?_
      exact IH.2 v0R (v1I + ((-1) : Int32)) (σ)
theorem i_Rs_heaviest {G : GX} {p : Program} {l : Launch} {e : Env} {s : State} {m : MethodId} {args : Array Value} {below : List Frame} {meth : Method} {c : Code} {z0 u0 : Nat} (C : Cx G p s m args meth c prog_10_method_19_code 2 "BellPlate$Rest" ((some FieldType.int))) (n : Nat) : I_Rs_heaviest G p l e s m args below meth c z0 u0 n := by
  induction n with
  | zero => exact ⟨fun _ _ => x_none, fun _ _ _ => x_none⟩
  | succ n IH => exact ⟨fun v0R σ => s_Rs_heaviest_0 C IH v0R σ, fun v0R v1I σ => s_Rs_heaviest_1 C IH v0R v1I σ⟩
theorem c_Rs_heaviest (G : GX) (l : Launch) (v0R : Nat) (σ : AM) : CT eI G l 0 y_Rs_heaviest prog_10_method_19_code 2 ((some FieldType.int)) [.ref v0R] σ (M_Rs_heaviest v0R σ) := by
  refine ct_of (by decide +kernel) (Nat.le_of_ble_eq_true rfl) (fun p e s m args below meth c C hin => ?_)
  refine x_lve (lv' := [(0, .ref v0R)]) rfl ?_
  intro r σ' h
  obtain ⟨n, hn⟩ := (lp_iff _ _ _).mp h
  exact (i_Rs_heaviest C n).1 v0R σ r σ' hn
