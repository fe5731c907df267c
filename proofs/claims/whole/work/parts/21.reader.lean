/-! BellPlate$Reader.<init>()V -/
abbrev y_Rd_init : MethodName := ⟨"BellPlate$Reader", "<init>", "()V"⟩
theorem k_Rd_init : y_Rd_init.cls ≠ "java/lang/invoke/MethodHandle" ∧ y_Rd_init.cls ≠ "java/lang/invoke/VarHandle" ∧ (parseMethodDescriptor y_Rd_init.desc).map (fun d => d.parameters.length) = some 0 := by decide +kernel
theorem d_Rd_init_0 : decode prog_9_method_1_code 0 = .ok (.aload_n 0, 1) := by decide +kernel
theorem d_Rd_init_1 : decode prog_9_method_1_code 1 = .ok (.invokespecial 3, 3) := by decide +kernel
theorem d_Rd_init_4 : decode prog_9_method_1_code 4 = .ok (.aload_n 0, 1) := by decide +kernel
theorem d_Rd_init_5 : decode prog_9_method_1_code 5 = .ok (.sipush 1000, 3) := by decide +kernel
theorem d_Rd_init_8 : decode prog_9_method_1_code 8 = .ok (.newarray .char, 2) := by decide +kernel
theorem d_Rd_init_10 : decode prog_9_method_1_code 10 = .ok (.putfield 11, 3) := by decide +kernel
theorem d_Rd_init_13 : decode prog_9_method_1_code 13 = .ok (.aload_n 0, 1) := by decide +kernel
theorem d_Rd_init_14 : decode prog_9_method_1_code 14 = .ok (.new 15, 3) := by decide +kernel
theorem d_Rd_init_17 : decode prog_9_method_1_code 17 = .ok (.dup, 1) := by decide +kernel
theorem d_Rd_init_18 : decode prog_9_method_1_code 18 = .ok (.invokespecial 17, 3) := by decide +kernel
theorem d_Rd_init_21 : decode prog_9_method_1_code 21 = .ok (.putfield 18, 3) := by decide +kernel
theorem d_Rd_init_24 : decode prog_9_method_1_code 24 = .ok (.return_, 1) := by decide +kernel
abbrev S_Rd_init : Type := Nat × Nat × AM
noncomputable def T_Rd_init_0 (v0R : Nat) (σ : AM) : S_Rd_init ⊕ Option (Unit × AM) :=
  gdT (okO σ v0R 2) <| letT (nw σ 104 (1000 : Int32).toNatClampNeg) fun σ2 => gdT (okO σ2 v0R 2) <| letT (sR σ2 v0R 0 (aZ σ)) fun σ5 => letT (nw σ5 1 11) fun σ7 => letT (aZ σ5) fun x9 => gdT (okO σ7 x9 1) <| bndT (M_Tw_init x9 σ7) fun _ σ11 => gdT (okO σ11 v0R 2) <| gdT (okO σ11 x9 1) <| letT (sR σ11 v0R 1 x9) fun σ15 => .inr (some ((), σ15))
noncomputable def F_Rd_init : S_Rd_init → S_Rd_init ⊕ Option (Unit × AM) := fun s => match s.1 with
  | _ => T_Rd_init_0 (s.2.1) (s.2.2)
noncomputable def L_Rd_init_0 (v0R : Nat) (σ : AM) : Option (Unit × AM) := lp F_Rd_init (0, v0R, σ)
set_option maxRecDepth 20000 in
theorem E_Rd_init_0 (v0R : Nat) (σ : AM) : L_Rd_init_0 v0R σ = (gd (okO σ v0R 2) <| letT (nw σ 104 (1000 : Int32).toNatClampNeg) fun σ2 => gd (okO σ2 v0R 2) <| letT (sR σ2 v0R 0 (aZ σ)) fun σ5 => letT (nw σ5 1 11) fun σ7 => letT (aZ σ5) fun x9 => gd (okO σ7 x9 1) <| bnd (M_Tw_init x9 σ7) fun _ σ11 => gd (okO σ11 v0R 2) <| gd (okO σ11 x9 1) <| letT (sR σ11 v0R 1 x9) fun σ15 => (some ((), σ15))) := by
  unfold L_Rd_init_0
  rw [lp_eq]
  show lpK (lp F_Rd_init) (T_Rd_init_0 v0R σ) = _
  unfold T_Rd_init_0
  simp only [lpK_ite, lq_inl, lq_inr, lpK_bnd, lpK_gd, lq_let]
  try rfl
noncomputable def M_Rd_init (v0R : Nat) (σ : AM) : Option (Unit × AM) := mw σ (L_Rd_init_0 v0R σ)
def I_Rd_init (G : GX) (p : Program) (l : Launch) (e : Env) (s : State) (m : MethodId) (args : Array Value) (below : List Frame) (meth : Method) (c : Code) (z0 u0 n : Nat) : Prop :=
  (∀ (v0R : Nat) (σ : AM), VX (QM eV G args s below z0 u0) G p l e s m args below meth c 2 z0 u0 1 (lpn F_Rd_init n (0, v0R, σ)) 0 [(0, .ref v0R)] [] σ)
set_option maxRecDepth 20000 in
theorem s_Rd_init_0 {G : GX} {p : Program} {l : Launch} {e : Env} {s : State} {m : MethodId} {args : Array Value} {below : List Frame} {meth : Method} {c : Code} {z0 u0 n : Nat} (C : Cx G p s m args meth c prog_9_method_1_code 1 "BellPlate$Reader" ((none))) (hin : meth.name = "<init>") (IH : I_Rd_init G p l e s m args below meth c z0 u0 n) (v0R : Nat) (σ : AM) : VX (QM eV G args s below z0 u0) G p l e s m args below meth c 2 z0 u0 1 (lpK (lpn F_Rd_init n) (T_Rd_init_0 v0R σ)) 0 [(0, .ref v0R)] [] σ := by
  unfold T_Rd_init_0
  refine x_aload_n C d_Rd_init_0 0 rfl ?_
  refine x_gd (fun h1 => ?_)
  refine x_obj C (okO_iff.mp h1) w160 w153 w154 (by decide) (Nat.le_of_ble_eq_true rfl) d_Rd_init_1 ?_
  refine x_aload_n C d_Rd_init_4 0 rfl ?_
  refine x_sipush (v := (1000 : Int32)) C d_Rd_init_5 (by decide) ?_
  refine x_newaC C w201 (by decide) (by decide) d_Rd_init_8 ?_
  refine x_letS (fun σ2 e3 => ?_)
  refine x_gd (fun h4 => ?_)
  refine x_putRF (k := 0) (kv := 104) C (okO_iff.mp h4) rfl j1_ok y1_ok n1_ok (by decide) rfl (fr_K e3) (by decide) rfl hin rfl rfl rfl w204 d_Rd_init_10 ?_
  refine x_letS (fun σ5 e6 => ?_)
  refine x_aload_n C d_Rd_init_13 0 rfl ?_
  refine x_new C (ci := 0) rfl j0_ok y0_ok f0_ok w161 w162 w122 d_Rd_init_14 ?_
  refine x_letS (fun σ7 e8 => ?_)
  refine x_letR (fun x9 _ => ?_)
  refine x_dup C d_Rd_init_17 rfl ?_
  refine x_gd (fun h12 => ?_)
  refine x_callIV (As := []) C (c_Tw_init G l x9  σ7) (okO_iff.mp h12) rfl w164 rfl rfl w163 w165 w122 k_Tw_init rfl (by decide) (by decide) rfl (Nat.le_of_ble_eq_true rfl) d_Rd_init_18 (fun r10 σ11 => ?_)
  refine x_gd (fun h13 => ?_)
  refine x_gd (fun h14 => ?_)
  refine x_putRF (k := 1) (kv := 1) C (okO_iff.mp h13) rfl j1_ok y1_ok n1_ok (by decide) rfl (okO_iff.mp h14) (by decide) rfl hin rfl rfl rfl w205 d_Rd_init_21 ?_
  refine x_letS (fun σ15 e16 => ?_)
  exact x_vret C d_Rd_init_24
theorem i_Rd_init {G : GX} {p : Program} {l : Launch} {e : Env} {s : State} {m : MethodId} {args : Array Value} {below : List Frame} {meth : Method} {c : Code} {z0 u0 : Nat} (C : Cx G p s m args meth c prog_9_method_1_code 1 "BellPlate$Reader" ((none))) (hin : meth.name = "<init>") (n : Nat) : I_Rd_init G p l e s m args below meth c z0 u0 n := by
  induction n with
  | zero => exact fun _ _ => x_none
  | succ n IH => exact fun v0R σ => s_Rd_init_0 C hin IH v0R σ
theorem c_Rd_init (G : GX) (l : Launch) (v0R : Nat) (σ : AM) : CT eV G l 2 y_Rd_init prog_9_method_1_code 1 (none) [.ref v0R] σ (M_Rd_init v0R σ) := by
  refine ct_of (by decide +kernel) (Nat.le_of_ble_eq_true rfl) (fun p e s m args below meth c C hin => ?_)
  refine x_lve (lv' := [(0, .ref v0R)]) rfl ?_
  intro r σ' h
  obtain ⟨n, hn⟩ := (lp_iff _ _ _).mp h
  exact (i_Rd_init C hin n) v0R σ r σ' hn
/-! BellPlate$Reader.size()I -/
abbrev y_Rd_size : MethodName := ⟨"BellPlate$Reader", "size", "()I"⟩
theorem k_Rd_size : y_Rd_size.cls ≠ "java/lang/invoke/MethodHandle" ∧ y_Rd_size.cls ≠ "java/lang/invoke/VarHandle" ∧ (parseMethodDescriptor y_Rd_size.desc).map (fun d => d.parameters.length) = some 0 := by decide +kernel
theorem d_Rd_size_0 : decode prog_9_method_2_code 0 = .ok (.aload_n 0, 1) := by decide +kernel
theorem d_Rd_size_1 : decode prog_9_method_2_code 1 = .ok (.getfield 22, 3) := by decide +kernel
theorem d_Rd_size_4 : decode prog_9_method_2_code 4 = .ok (.ireturn, 1) := by decide +kernel
abbrev S_Rd_size : Type := Nat × Nat × AM
noncomputable def T_Rd_size_0 (v0R : Nat) (σ : AM) : S_Rd_size ⊕ Option (Int32 × AM) :=
  gdT (okO σ v0R 2) <| .inr (some ((aI σ v0R 2), σ))
noncomputable def F_Rd_size : S_Rd_size → S_Rd_size ⊕ Option (Int32 × AM) := fun s => match s.1 with
  | _ => T_Rd_size_0 (s.2.1) (s.2.2)
noncomputable def L_Rd_size_0 (v0R : Nat) (σ : AM) : Option (Int32 × AM) := lp F_Rd_size (0, v0R, σ)
set_option maxRecDepth 20000 in
theorem E_Rd_size_0 (v0R : Nat) (σ : AM) : L_Rd_size_0 v0R σ = (gd (okO σ v0R 2) <| (some ((aI σ v0R 2), σ))) := by
  unfold L_Rd_size_0
  rw [lp_eq]
  show lpK (lp F_Rd_size) (T_Rd_size_0 v0R σ) = _
  unfold T_Rd_size_0
  simp only [lpK_ite, lq_inl, lq_inr, lpK_bnd, lpK_gd, lq_let]
  try rfl
noncomputable def M_Rd_size (v0R : Nat) (σ : AM) : Option (Int32 × AM) := mw σ (L_Rd_size_0 v0R σ)
def I_Rd_size (G : GX) (p : Program) (l : Launch) (e : Env) (s : State) (m : MethodId) (args : Array Value) (below : List Frame) (meth : Method) (c : Code) (z0 u0 n : Nat) : Prop :=
  (∀ (v0R : Nat) (σ : AM), VX (QM eI G args s below z0 u0) G p l e s m args below meth c 0 z0 u0 1 (lpn F_Rd_size n (0, v0R, σ)) 0 [(0, .ref v0R)] [] σ)
set_option maxRecDepth 20000 in
theorem s_Rd_size_0 {G : GX} {p : Program} {l : Launch} {e : Env} {s : State} {m : MethodId} {args : Array Value} {below : List Frame} {meth : Method} {c : Code} {z0 u0 n : Nat} (C : Cx G p s m args meth c prog_9_method_2_code 1 "BellPlate$Reader" ((some FieldType.int))) (IH : I_Rd_size G p l e s m args below meth c z0 u0 n) (v0R : Nat) (σ : AM) : VX (QM eI G args s below z0 u0) G p l e s m args below meth c 0 z0 u0 1 (lpK (lpn F_Rd_size n) (T_Rd_size_0 v0R σ)) 0 [(0, .ref v0R)] [] σ := by
  unfold T_Rd_size_0
  refine x_aload_n C d_Rd_size_0 0 rfl ?_
  refine x_gd (fun h1 => ?_)
  refine x_getI (k := 2) C (okO_iff.mp h1) rfl j1_ok (by decide) rfl w206 d_Rd_size_1 ?_
  exact x_iret C d_Rd_size_4
theorem i_Rd_size {G : GX} {p : Program} {l : Launch} {e : Env} {s : State} {m : MethodId} {args : Array Value} {below : List Frame} {meth : Method} {c : Code} {z0 u0 : Nat} (C : Cx G p s m args meth c prog_9_method_2_code 1 "BellPlate$Reader" ((some FieldType.int))) (n : Nat) : I_Rd_size G p l e s m args below meth c z0 u0 n := by
  induction n with
  | zero => exact fun _ _ => x_none
  | succ n IH => exact fun v0R σ => s_Rd_size_0 C IH v0R σ
theorem c_Rd_size (G : GX) (l : Launch) (v0R : Nat) (σ : AM) : CT eI G l 0 y_Rd_size prog_9_method_2_code 1 ((some FieldType.int)) [.ref v0R] σ (M_Rd_size v0R σ) := by
  refine ct_of (by decide +kernel) (Nat.le_of_ble_eq_true rfl) (fun p e s m args below meth c C hin => ?_)
  refine x_lve (lv' := [(0, .ref v0R)]) rfl ?_
  intro r σ' h
  obtain ⟨n, hn⟩ := (lp_iff _ _ _).mp h
  exact (i_Rd_size C n) v0R σ r σ' hn
/-! BellPlate$Reader.draft()LBellPlate$Tower; -/
abbrev y_Rd_draft : MethodName := ⟨"BellPlate$Reader", "draft", "()LBellPlate$Tower;"⟩
theorem k_Rd_draft : y_Rd_draft.cls ≠ "java/lang/invoke/MethodHandle" ∧ y_Rd_draft.cls ≠ "java/lang/invoke/VarHandle" ∧ (parseMethodDescriptor y_Rd_draft.desc).map (fun d => d.parameters.length) = some 0 := by decide +kernel
theorem d_Rd_draft_0 : decode prog_9_method_3_code 0 = .ok (.aload_n 0, 1) := by decide +kernel
theorem d_Rd_draft_1 : decode prog_9_method_3_code 1 = .ok (.getfield 18, 3) := by decide +kernel
theorem d_Rd_draft_4 : decode prog_9_method_3_code 4 = .ok (.areturn, 1) := by decide +kernel
abbrev S_Rd_draft : Type := Nat × Nat × AM
noncomputable def T_Rd_draft_0 (v0R : Nat) (σ : AM) : S_Rd_draft ⊕ Option (Nat × AM) :=
  gdT (okO σ v0R 2) <| gdT (okO σ (aR σ v0R 1) 1) <| .inr (some ((aR σ v0R 1), σ))
noncomputable def F_Rd_draft : S_Rd_draft → S_Rd_draft ⊕ Option (Nat × AM) := fun s => match s.1 with
  | _ => T_Rd_draft_0 (s.2.1) (s.2.2)
noncomputable def L_Rd_draft_0 (v0R : Nat) (σ : AM) : Option (Nat × AM) := lp F_Rd_draft (0, v0R, σ)
set_option maxRecDepth 20000 in
theorem E_Rd_draft_0 (v0R : Nat) (σ : AM) : L_Rd_draft_0 v0R σ = (gd (okO σ v0R 2) <| gd (okO σ (aR σ v0R 1) 1) <| (some ((aR σ v0R 1), σ))) := by
  unfold L_Rd_draft_0
  rw [lp_eq]
  show lpK (lp F_Rd_draft) (T_Rd_draft_0 v0R σ) = _
  unfold T_Rd_draft_0
  simp only [lpK_ite, lq_inl, lq_inr, lpK_bnd, lpK_gd, lq_let]
  try rfl
noncomputable def M_Rd_draft (v0R : Nat) (σ : AM) : Option (Nat × AM) := mw σ (L_Rd_draft_0 v0R σ)
def I_Rd_draft (G : GX) (p : Program) (l : Launch) (e : Env) (s : State) (m : MethodId) (args : Array Value) (below : List Frame) (meth : Method) (c : Code) (z0 u0 n : Nat) : Prop :=
  (∀ (v0R : Nat) (σ : AM), VX (QM eR G args s below z0 u0) G p l e s m args below meth c 0 z0 u0 1 (lpn F_Rd_draft n (0, v0R, σ)) 0 [(0, .ref v0R)] [] σ)
set_option maxRecDepth 20000 in
theorem s_Rd_draft_0 {G : GX} {p : Program} {l : Launch} {e : Env} {s : State} {m : MethodId} {args : Array Value} {below : List Frame} {meth : Method} {c : Code} {z0 u0 n : Nat} (C : Cx G p s m args meth c prog_9_method_3_code 1 "BellPlate$Reader" ((some (FieldType.object "BellPlate$Tower")))) (IH : I_Rd_draft G p l e s m args below meth c z0 u0 n) (v0R : Nat) (σ : AM) : VX (QM eR G args s below z0 u0) G p l e s m args below meth c 0 z0 u0 1 (lpK (lpn F_Rd_draft n) (T_Rd_draft_0 v0R σ)) 0 [(0, .ref v0R)] [] σ := by
  unfold T_Rd_draft_0
  refine x_aload_n C d_Rd_draft_0 0 rfl ?_
  refine x_gd (fun h1 => ?_)
  refine x_gd (fun h2 => ?_)
  refine x_getR (k := 1) (kv := 1) C (okO_iff.mp h1) rfl j1_ok (by decide) rfl (okO_iff.mp h2) (by decide) w205 d_Rd_draft_1 ?_
  exact x_aret (by first | exact Or.inl ⟨_, rfl⟩ | exact Or.inr ⟨_, rfl⟩) C d_Rd_draft_4
theorem i_Rd_draft {G : GX} {p : Program} {l : Launch} {e : Env} {s : State} {m : MethodId} {args : Array Value} {below : List Frame} {meth : Method} {c : Code} {z0 u0 : Nat} (C : Cx G p s m args meth c prog_9_method_3_code 1 "BellPlate$Reader" ((some (FieldType.object "BellPlate$Tower")))) (n : Nat) : I_Rd_draft G p l e s m args below meth c z0 u0 n := by
  induction n with
  | zero => exact fun _ _ => x_none
  | succ n IH => exact fun v0R σ => s_Rd_draft_0 C IH v0R σ
theorem c_Rd_draft (G : GX) (l : Launch) (v0R : Nat) (σ : AM) : CT eR G l 0 y_Rd_draft prog_9_method_3_code 1 ((some (FieldType.object "BellPlate$Tower"))) [.ref v0R] σ (M_Rd_draft v0R σ) := by
  refine ct_of (by decide +kernel) (Nat.le_of_ble_eq_true rfl) (fun p e s m args below meth c C hin => ?_)
  refine x_lve (lv' := [(0, .ref v0R)]) rfl ?_
  intro r σ' h
  obtain ⟨n, hn⟩ := (lp_iff _ _ _).mp h
  exact (i_Rd_draft C n) v0R σ r σ' hn
/-! BellPlate$Reader.put(J)V -/
abbrev y_Rd_put : MethodName := ⟨"BellPlate$Reader", "put", "(J)V"⟩
theorem k_Rd_put : y_Rd_put.cls ≠ "java/lang/invoke/MethodHandle" ∧ y_Rd_put.cls ≠ "java/lang/invoke/VarHandle" ∧ (parseMethodDescriptor y_Rd_put.desc).map (fun d => d.parameters.length) = some 1 := by decide +kernel
theorem d_Rd_put_0 : decode prog_9_method_4_code 0 = .ok (.bipush 56, 2) := by decide +kernel
theorem d_Rd_put_2 : decode prog_9_method_4_code 2 = .ok (.istore_n 3, 1) := by decide +kernel
theorem d_Rd_put_3 : decode prog_9_method_4_code 3 = .ok (.iload_n 3, 1) := by decide +kernel
theorem d_Rd_put_4 : decode prog_9_method_4_code 4 = .ok (.ifCond .lt 84, 3) := by decide +kernel
theorem d_Rd_put_7 : decode prog_9_method_4_code 7 = .ok (.lload_n 1, 1) := by decide +kernel
theorem d_Rd_put_8 : decode prog_9_method_4_code 8 = .ok (.iload_n 3, 1) := by decide +kernel
theorem d_Rd_put_9 : decode prog_9_method_4_code 9 = .ok (.lushr, 1) := by decide +kernel
theorem d_Rd_put_10 : decode prog_9_method_4_code 10 = .ok (.ldc2_w 26, 3) := by decide +kernel
theorem d_Rd_put_13 : decode prog_9_method_4_code 13 = .ok (.land, 1) := by decide +kernel
theorem d_Rd_put_14 : decode prog_9_method_4_code 14 = .ok (.l2i, 1) := by decide +kernel
theorem d_Rd_put_15 : decode prog_9_method_4_code 15 = .ok (.i2c, 1) := by decide +kernel
theorem d_Rd_put_16 : decode prog_9_method_4_code 16 = .ok (.istore 4, 2) := by decide +kernel
theorem d_Rd_put_18 : decode prog_9_method_4_code 18 = .ok (.iload 4, 2) := by decide +kernel
theorem d_Rd_put_20 : decode prog_9_method_4_code 20 = .ok (.bipush 10, 2) := by decide +kernel
theorem d_Rd_put_22 : decode prog_9_method_4_code 22 = .ok (.if_icmp .eq 17, 3) := by decide +kernel
theorem d_Rd_put_25 : decode prog_9_method_4_code 25 = .ok (.iload 4, 2) := by decide +kernel
theorem d_Rd_put_27 : decode prog_9_method_4_code 27 = .ok (.bipush 32, 2) := by decide +kernel
theorem d_Rd_put_29 : decode prog_9_method_4_code 29 = .ok (.if_icmp .lt 14, 3) := by decide +kernel
theorem d_Rd_put_32 : decode prog_9_method_4_code 32 = .ok (.iload 4, 2) := by decide +kernel
theorem d_Rd_put_34 : decode prog_9_method_4_code 34 = .ok (.bipush 126, 2) := by decide +kernel
theorem d_Rd_put_36 : decode prog_9_method_4_code 36 = .ok (.if_icmp .gt 7, 3) := by decide +kernel
theorem d_Rd_put_39 : decode prog_9_method_4_code 39 = .ok (.iconst 1, 1) := by decide +kernel
theorem d_Rd_put_40 : decode prog_9_method_4_code 40 = .ok (.goto 4, 3) := by decide +kernel
theorem d_Rd_put_43 : decode prog_9_method_4_code 43 = .ok (.iconst 0, 1) := by decide +kernel
theorem d_Rd_put_44 : decode prog_9_method_4_code 44 = .ok (.istore 5, 2) := by decide +kernel
theorem d_Rd_put_46 : decode prog_9_method_4_code 46 = .ok (.iload 5, 2) := by decide +kernel
theorem d_Rd_put_48 : decode prog_9_method_4_code 48 = .ok (.ifCond .eq 34, 3) := by decide +kernel
theorem d_Rd_put_51 : decode prog_9_method_4_code 51 = .ok (.aload_n 0, 1) := by decide +kernel
theorem d_Rd_put_52 : decode prog_9_method_4_code 52 = .ok (.getfield 22, 3) := by decide +kernel
theorem d_Rd_put_55 : decode prog_9_method_4_code 55 = .ok (.sipush 1000, 3) := by decide +kernel
theorem d_Rd_put_58 : decode prog_9_method_4_code 58 = .ok (.if_icmp .ge 24, 3) := by decide +kernel
theorem d_Rd_put_61 : decode prog_9_method_4_code 61 = .ok (.aload_n 0, 1) := by decide +kernel
theorem d_Rd_put_62 : decode prog_9_method_4_code 62 = .ok (.getfield 11, 3) := by decide +kernel
theorem d_Rd_put_65 : decode prog_9_method_4_code 65 = .ok (.aload_n 0, 1) := by decide +kernel
theorem d_Rd_put_66 : decode prog_9_method_4_code 66 = .ok (.getfield 22, 3) := by decide +kernel
theorem d_Rd_put_69 : decode prog_9_method_4_code 69 = .ok (.iload 4, 2) := by decide +kernel
theorem d_Rd_put_71 : decode prog_9_method_4_code 71 = .ok (.castore, 1) := by decide +kernel
theorem d_Rd_put_72 : decode prog_9_method_4_code 72 = .ok (.aload_n 0, 1) := by decide +kernel
theorem d_Rd_put_73 : decode prog_9_method_4_code 73 = .ok (.dup, 1) := by decide +kernel
theorem d_Rd_put_74 : decode prog_9_method_4_code 74 = .ok (.getfield 22, 3) := by decide +kernel
theorem d_Rd_put_77 : decode prog_9_method_4_code 77 = .ok (.iconst 1, 1) := by decide +kernel
theorem d_Rd_put_78 : decode prog_9_method_4_code 78 = .ok (.iadd, 1) := by decide +kernel
theorem d_Rd_put_79 : decode prog_9_method_4_code 79 = .ok (.putfield 22, 3) := by decide +kernel
theorem d_Rd_put_82 : decode prog_9_method_4_code 82 = .ok (.iinc 3 (-8), 3) := by decide +kernel
theorem d_Rd_put_85 : decode prog_9_method_4_code 85 = .ok (.goto (-82), 3) := by decide +kernel
theorem d_Rd_put_88 : decode prog_9_method_4_code 88 = .ok (.return_, 1) := by decide +kernel
abbrev S_Rd_put : Type := Nat × Nat × Int64 × Int32 × Int32 × Int32 × AM
noncomputable def T_Rd_put_0 (v0R : Nat) (v1J : Int64) (σ : AM) : S_Rd_put ⊕ Option (Unit × AM) :=
  .inl (1, v0R, v1J, (56 : Int32), 0, 0, σ)
noncomputable def T_Rd_put_1 (v0R : Nat) (v1J : Int64) (v3I : Int32) (σ : AM) : S_Rd_put ⊕ Option (Unit × AM) :=
  if v3I < 0 then (.inr (some ((), σ))) else (letT ((((((v1J.toUInt64 >>> (v3I.toInt64.toUInt64 &&& Int64.toUInt64 63)).toInt64) &&& (255 : Int64)).toInt32).toUInt32 % 65536).toInt32) fun x1 => if x1 = (10 : Int32) then (.inl (2, v0R, v1J, v3I, x1, 0, σ)) else (if x1 < (32 : Int32) then (.inl (3, v0R, v1J, v3I, x1, 0, σ)) else (if (126 : Int32) < x1 then (.inl (3, v0R, v1J, v3I, x1, 0, σ)) else (.inl (2, v0R, v1J, v3I, x1, 0, σ)))))
noncomputable def T_Rd_put_2 (v0R : Nat) (v1J : Int64) (v3I : Int32) (v4I : Int32) (σ : AM) : S_Rd_put ⊕ Option (Unit × AM) :=
  .inl (4, v0R, v1J, v3I, v4I, (1 : Int32), σ)
noncomputable def T_Rd_put_3 (v0R : Nat) (v1J : Int64) (v3I : Int32) (v4I : Int32) (σ : AM) : S_Rd_put ⊕ Option (Unit × AM) :=
  .inl (4, v0R, v1J, v3I, v4I, (0 : Int32), σ)
noncomputable def T_Rd_put_4 (v0R : Nat) (v1J : Int64) (v3I : Int32) (v4I : Int32) (s0I : Int32) (σ : AM) : S_Rd_put ⊕ Option (Unit × AM) :=
  if s0I = 0 then (.inl (5, v0R, v1J, v3I, 0, 0, σ)) else (gdT (okO σ v0R 2) <| if (aI σ v0R 2) < (1000 : Int32) then (gdT (okO σ (aR σ v0R 0) 104) <| gdT (inB (aI σ v0R 2) (aN σ (aR σ v0R 0))) <| letT (sI σ (aR σ v0R 0) (aI σ v0R 2).toNatClampNeg (vp_nar .char v4I)) fun σ4 => letT (sI σ4 v0R 2 ((aI σ4 v0R 2) + (1 : Int32))) fun σ6 => .inl (5, v0R, v1J, v3I, 0, 0, σ6)) else (.inl (5, v0R, v1J, v3I, 0, 0, σ)))
noncomputable def T_Rd_put_5 (v0R : Nat) (v1J : Int64) (v3I : Int32) (σ : AM) : S_Rd_put ⊕ Option (Unit × AM) :=
  .inl (1, v0R, v1J, v3I + ((-8) : Int32), 0, 0, σ)
noncomputable def F_Rd_put : S_Rd_put → S_Rd_put ⊕ Option (Unit × AM) := fun s => match s.1 with
  | 0 => T_Rd_put_0 (s.2.1) (s.2.2.1) (s.2.2.2.2.2.2)
  | 1 => T_Rd_put_1 (s.2.1) (s.2.2.1) (s.2.2.2.1) (s.2.2.2.2.2.2)
  | 2 => T_Rd_put_2 (s.2.1) (s.2.2.1) (s.2.2.2.1) (s.2.2.2.2.1) (s.2.2.2.2.2.2)
  | 3 => T_Rd_put_3 (s.2.1) (s.2.2.1) (s.2.2.2.1) (s.2.2.2.2.1) (s.2.2.2.2.2.2)
  | 4 => T_Rd_put_4 (s.2.1) (s.2.2.1) (s.2.2.2.1) (s.2.2.2.2.1) (s.2.2.2.2.2.1) (s.2.2.2.2.2.2)
  | _ => T_Rd_put_5 (s.2.1) (s.2.2.1) (s.2.2.2.1) (s.2.2.2.2.2.2)
noncomputable def L_Rd_put_0 (v0R : Nat) (v1J : Int64) (σ : AM) : Option (Unit × AM) := lp F_Rd_put (0, v0R, v1J, 0, 0, 0, σ)
noncomputable def L_Rd_put_1 (v0R : Nat) (v1J : Int64) (v3I : Int32) (σ : AM) : Option (Unit × AM) := lp F_Rd_put (1, v0R, v1J, v3I, 0, 0, σ)
noncomputable def L_Rd_put_2 (v0R : Nat) (v1J : Int64) (v3I : Int32) (v4I : Int32) (σ : AM) : Option (Unit × AM) := lp F_Rd_put (2, v0R, v1J, v3I, v4I, 0, σ)
noncomputable def L_Rd_put_3 (v0R : Nat) (v1J : Int64) (v3I : Int32) (v4I : Int32) (σ : AM) : Option (Unit × AM) := lp F_Rd_put (3, v0R, v1J, v3I, v4I, 0, σ)
noncomputable def L_Rd_put_4 (v0R : Nat) (v1J : Int64) (v3I : Int32) (v4I : Int32) (s0I : Int32) (σ : AM) : Option (Unit × AM) := lp F_Rd_put (4, v0R, v1J, v3I, v4I, s0I, σ)
noncomputable def L_Rd_put_5 (v0R : Nat) (v1J : Int64) (v3I : Int32) (σ : AM) : Option (Unit × AM) := lp F_Rd_put (5, v0R, v1J, v3I, 0, 0, σ)
set_option maxRecDepth 20000 in
theorem E_Rd_put_0 (v0R : Nat) (v1J : Int64) (σ : AM) : L_Rd_put_0 v0R v1J σ = (L_Rd_put_1 v0R v1J ((56 : Int32)) σ) := by
  unfold L_Rd_put_0
  rw [lp_eq]
  show lpK (lp F_Rd_put) (T_Rd_put_0 v0R v1J σ) = _
  unfold T_Rd_put_0
  simp only [lpK_ite, lq_inl, lq_inr, lpK_bnd, lpK_gd, lq_let]
  try rfl
set_option maxRecDepth 20000 in
theorem E_Rd_put_1 (v0R : Nat) (v1J : Int64) (v3I : Int32) (σ : AM) : L_Rd_put_1 v0R v1J v3I σ = (if v3I < 0 then ((some ((), σ))) else (letT ((((((v1J.toUInt64 >>> (v3I.toInt64.toUInt64 &&& Int64.toUInt64 63)).toInt64) &&& (255 : Int64)).toInt32).toUInt32 % 65536).toInt32) fun x1 => if x1 = (10 : Int32) then (L_Rd_put_2 v0R v1J v3I x1 σ) else (if x1 < (32 : Int32) then (L_Rd_put_3 v0R v1J v3I x1 σ) else (if (126 : Int32) < x1 then (L_Rd_put_3 v0R v1J v3I x1 σ) else (L_Rd_put_2 v0R v1J v3I x1 σ))))) := by
  unfold L_Rd_put_1
  rw [lp_eq]
  show lpK (lp F_Rd_put) (T_Rd_put_1 v0R v1J v3I σ) = _
  unfold T_Rd_put_1
  simp only [lpK_ite, lq_inl, lq_inr, lpK_bnd, lpK_gd, lq_let]
  try rfl
set_option maxRecDepth 20000 in
theorem E_Rd_put_2 (v0R : Nat) (v1J : Int64) (v3I : Int32) (v4I : Int32) (σ : AM) : L_Rd_put_2 v0R v1J v3I v4I σ = (L_Rd_put_4 v0R v1J v3I v4I ((1 : Int32)) σ) := by
  unfold L_Rd_put_2
  rw [lp_eq]
  show lpK (lp F_Rd_put) (T_Rd_put_2 v0R v1J v3I v4I σ) = _
  unfold T_Rd_put_2
  simp only [lpK_ite, lq_inl, lq_inr, lpK_bnd, lpK_gd, lq_let]
  try rfl
set_option maxRecDepth 20000 in
theorem E_Rd_put_3 (v0R : Nat) (v1J : Int64) (v3I : Int32) (v4I : Int32) (σ : AM) : L_Rd_put_3 v0R v1J v3I v4I σ = (L_Rd_put_4 v0R v1J v3I v4I ((0 : Int32)) σ) := by
  unfold L_Rd_put_3
  rw [lp_eq]
  show lpK (lp F_Rd_put) (T_Rd_put_3 v0R v1J v3I v4I σ) = _
  unfold T_Rd_put_3
  simp only [lpK_ite, lq_inl, lq_inr, lpK_bnd, lpK_gd, lq_let]
  try rfl
set_option maxRecDepth 20000 in
theorem E_Rd_put_4 (v0R : Nat) (v1J : Int64) (v3I : Int32) (v4I : Int32) (s0I : Int32) (σ : AM) : L_Rd_put_4 v0R v1J v3I v4I s0I σ = (if s0I = 0 then (L_Rd_put_5 v0R v1J v3I σ) else (gd (okO σ v0R 2) <| if (aI σ v0R 2) < (1000 : Int32) then (gd (okO σ (aR σ v0R 0) 104) <| gd (inB (aI σ v0R 2) (aN σ (aR σ v0R 0))) <| letT (sI σ (aR σ v0R 0) (aI σ v0R 2).toNatClampNeg (vp_nar .char v4I)) fun σ4 => letT (sI σ4 v0R 2 ((aI σ4 v0R 2) + (1 : Int32))) fun σ6 => L_Rd_put_5 v0R v1J v3I σ6) else (L_Rd_put_5 v0R v1J v3I σ))) := by
  unfold L_Rd_put_4
  rw [lp_eq]
  show lpK (lp F_Rd_put) (T_Rd_put_4 v0R v1J v3I v4I s0I σ) = _
  unfold T_Rd_put_4
  simp only [lpK_ite, lq_inl, lq_inr, lpK_bnd, lpK_gd, lq_let]
  try rfl
set_option maxRecDepth 20000 in
theorem E_Rd_put_5 (v0R : Nat) (v1J : Int64) (v3I : Int32) (σ : AM) : L_Rd_put_5 v0R v1J v3I σ = (L_Rd_put_1 v0R v1J (v3I + ((-8) : Int32)) σ) := by
  unfold L_Rd_put_5
  rw [lp_eq]
  show lpK (lp F_Rd_put) (T_Rd_put_5 v0R v1J v3I σ) = _
  unfold T_Rd_put_5
  simp only [lpK_ite, lq_inl, lq_inr, lpK_bnd, lpK_gd, lq_let]
  try rfl
noncomputable def M_Rd_put (v0R : Nat) (v1J : Int64) (σ : AM) : Option (Unit × AM) := mw σ (L_Rd_put_0 v0R v1J σ)
def I_Rd_put (G : GX) (p : Program) (l : Launch) (e : Env) (s : State) (m : MethodId) (args : Array Value) (below : List Frame) (meth : Method) (c : Code) (z0 u0 n : Nat) : Prop :=
  (∀ (v0R : Nat) (v1J : Int64) (σ : AM), VX (QM eV G args s below z0 u0) G p l e s m args below meth c 0 z0 u0 6 (lpn F_Rd_put n (0, v0R, v1J, 0, 0, 0, σ)) 0 [(0, .ref v0R), (1, .long v1J)] [] σ) ∧
  (∀ (v0R : Nat) (v1J : Int64) (v3I : Int32) (σ : AM), VX (QM eV G args s below z0 u0) G p l e s m args below meth c 0 z0 u0 6 (lpn F_Rd_put n (1, v0R, v1J, v3I, 0, 0, σ)) 3 [(0, .ref v0R), (1, .long v1J), (3, .int v3I)] [] σ) ∧
  (∀ (v0R : Nat) (v1J : Int64) (v3I : Int32) (v4I : Int32) (σ : AM), VX (QM eV G args s below z0 u0) G p l e s m args below meth c 0 z0 u0 6 (lpn F_Rd_put n (2, v0R, v1J, v3I, v4I, 0, σ)) 39 [(0, .ref v0R), (1, .long v1J), (3, .int v3I), (4, .int v4I)] [] σ) ∧
  (∀ (v0R : Nat) (v1J : Int64) (v3I : Int32) (v4I : Int32) (σ : AM), VX (QM eV G args s below z0 u0) G p l e s m args below meth c 0 z0 u0 6 (lpn F_Rd_put n (3, v0R, v1J, v3I, v4I, 0, σ)) 43 [(0, .ref v0R), (1, .long v1J), (3, .int v3I), (4, .int v4I)] [] σ) ∧
  (∀ (v0R : Nat) (v1J : Int64) (v3I : Int32) (v4I : Int32) (s0I : Int32) (σ : AM), VX (QM eV G args s below z0 u0) G p l e s m args below meth c 0 z0 u0 6 (lpn F_Rd_put n (4, v0R, v1J, v3I, v4I, s0I, σ)) 44 [(0, .ref v0R), (1, .long v1J), (3, .int v3I), (4, .int v4I)] [.int s0I] σ) ∧
  (∀ (v0R : Nat) (v1J : Int64) (v3I : Int32) (σ : AM), VX (QM eV G args s below z0 u0) G p l e s m args below meth c 0 z0 u0 6 (lpn F_Rd_put n (5, v0R, v1J, v3I, 0, 0, σ)) 82 [(0, .ref v0R), (1, .long v1J), (3, .int v3I)] [] σ)
set_option maxRecDepth 20000 in
theorem s_Rd_put_0 {G : GX} {p : Program} {l : Launch} {e : Env} {s : State} {m : MethodId} {args : Array Value} {below : List Frame} {meth : Method} {c : Code} {z0 u0 n : Nat} (C : Cx G p s m args meth c prog_9_method_4_code 6 "BellPlate$Reader" ((none))) (IH : I_Rd_put G p l e s m args below meth c z0 u0 n) (v0R : Nat) (v1J : Int64) (σ : AM) : VX (QM eV G args s below z0 u0) G p l e s m args below meth c 0 z0 u0 6 (lpK (lpn F_Rd_put n) (T_Rd_put_0 v0R v1J σ)) 0 [(0, .ref v0R), (1, .long v1J)] [] σ := by
  unfold T_Rd_put_0
  refine x_bipush (v := (56 : Int32)) C d_Rd_put_0 (by decide) ?_
  refine x_istore_n (lv' := [(3, .int (56 : Int32)), (0, .ref v0R), (1, .long v1J)]) C d_Rd_put_2 (by decide) rfl rfl ?_
  refine x_lv [1, 2, 0] rfl ?_
  exact IH.2.1 v0R v1J ((56 : Int32)) (σ)
set_option maxRecDepth 20000 in
theorem s_Rd_put_1 {G : GX} {p : Program} {l : Launch} {e : Env} {s : State} {m : MethodId} {args : Array Value} {below : List Frame} {meth : Method} {c : Code} {z0 u0 n : Nat} (C : Cx G p s m args meth c prog_9_method_4_code 6 "BellPlate$Reader" ((none))) (IH : I_Rd_put G p l e s m args below meth c z0 u0 n) (v0R : Nat) (v1J : Int64) (v3I : Int32) (σ : AM) : VX (QM eV G args s below z0 u0) G p l e s m args below meth c 0 z0 u0 6 (lpK (lpn F_Rd_put n) (T_Rd_put_1 v0R v1J v3I σ)) 3 [(0, .ref v0R), (1, .long v1J), (3, .int v3I)] [] σ := by
  unfold T_Rd_put_1
  refine x_iload_n C d_Rd_put_3 2 rfl ?_
  refine x_if_lt (tgt := 88) C d_Rd_put_4 (by decide) (fun _ => ?_) (fun _ => ?_)
  · exact x_vret C d_Rd_put_88
  · refine x_lload_n C d_Rd_put_7 1 rfl ?_
    refine x_iload_n C d_Rd_put_8 2 rfl ?_
    refine x_lushr C d_Rd_put_9 ?_
    refine x_ldc2 C d_Rd_put_10 w735 ?_
    refine x_land C d_Rd_put_13 ?_
    refine x_l2i C d_Rd_put_14 ?_
    refine x_i2c C d_Rd_put_15 ?_
    refine x_letI (fun x1 _ => ?_)
    refine x_istore (lv' := [(4, .int x1), (0, .ref v0R), (1, .long v1J), (3, .int v3I)]) C d_Rd_put_16 (by decide) rfl ?_
    refine x_iload C d_Rd_put_18 0 rfl ?_
    refine x_bipush (v := (10 : Int32)) C d_Rd_put_20 (by decide) ?_
    refine x_icmp_eq (tgt := 39) C d_Rd_put_22 (by decide) (fun _ => ?_) (fun _ => ?_)
    · refine x_lv [1, 2, 3, 0] rfl ?_
      exact IH.2.2.1 v0R v1J v3I x1 (σ)
    · refine x_iload C d_Rd_put_25 0 rfl ?_
      refine x_bipush (v := (32 : Int32)) C d_Rd_put_27 (by decide) ?_
      refine x_icmp_lt (tgt := 43) C d_Rd_put_29 (by decide) (fun _ => ?_) (fun _ => ?_)
      · refine x_lv [1, 2, 3, 0] rfl ?_
        exact IH.2.2.2.1 v0R v1J v3I x1 (σ)
      · refine x_iload C d_Rd_put_32 0 rfl ?_
        refine x_bipush (v := (126 : Int32)) C d_Rd_put_34 (by decide) ?_
        refine x_icmp_gt (tgt := 43) C d_Rd_put_36 (by decide) (fun _ => ?_) (fun _ => ?_)
        · refine x_lv [1, 2, 3, 0] rfl ?_
          exact IH.2.2.2.1 v0R v1J v3I x1 (σ)
        · refine x_lv [1, 2, 3, 0] rfl ?_
          exact IH.2.2.1 v0R v1J v3I x1 (σ)
set_option maxRecDepth 20000 in
theorem s_Rd_put_2 {G : GX} {p : Program} {l : Launch} {e : Env} {s : State} {m : MethodId} {args : Array Value} {below : List Frame} {meth : Method} {c : Code} {z0 u0 n : Nat} (C : Cx G p s m args meth c prog_9_method_4_code 6 "BellPlate$Reader" ((none))) (IH : I_Rd_put G p l e s m args below meth c z0 u0 n) (v0R : Nat) (v1J : Int64) (v3I : Int32) (v4I : Int32) (σ : AM) : VX (QM eV G args s below z0 u0) G p l e s m args below meth c 0 z0 u0 6 (lpK (lpn F_Rd_put n) (T_Rd_put_2 v0R v1J v3I v4I σ)) 39 [(0, .ref v0R), (1, .long v1J), (3, .int v3I), (4, .int v4I)] [] σ := by
  unfold T_Rd_put_2
  refine x_iconst (v := (1 : Int32)) C d_Rd_put_39 (by decide) ?_
  refine x_goto (tgt := 44) C d_Rd_put_40 (by decide) ?_
  exact IH.2.2.2.2.1 v0R v1J v3I v4I ((1 : Int32)) (σ)
set_option maxRecDepth 20000 in
theorem s_Rd_put_3 {G : GX} {p : Program} {l : Launch} {e : Env} {s : State} {m : MethodId} {args : Array Value} {below : List Frame} {meth : Method} {c : Code} {z0 u0 n : Nat} (C : Cx G p s m args meth c prog_9_method_4_code 6 "BellPlate$Reader" ((none))) (IH : I_Rd_put G p l e s m args below meth c z0 u0 n) (v0R : Nat) (v1J : Int64) (v3I : Int32) (v4I : Int32) (σ : AM) : VX (QM eV G args s below z0 u0) G p l e s m args below meth c 0 z0 u0 6 (lpK (lpn F_Rd_put n) (T_Rd_put_3 v0R v1J v3I v4I σ)) 43 [(0, .ref v0R), (1, .long v1J), (3, .int v3I), (4, .int v4I)] [] σ := by
  unfold T_Rd_put_3
  refine x_iconst (v := (0 : Int32)) C d_Rd_put_43 (by decide) ?_
  exact IH.2.2.2.2.1 v0R v1J v3I v4I ((0 : Int32)) (σ)
set_option maxRecDepth 20000 in
theorem s_Rd_put_4 {G : GX} {p : Program} {l : Launch} {e : Env} {s : State} {m : MethodId} {args : Array Value} {below : List Frame} {meth : Method} {c : Code} {z0 u0 n : Nat} (C : Cx G p s m args meth c prog_9_method_4_code 6 "BellPlate$Reader" ((none))) (IH : I_Rd_put G p l e s m args below meth c z0 u0 n) (v0R : Nat) (v1J : Int64) (v3I : Int32) (v4I : Int32) (s0I : Int32) (σ : AM) : VX (QM eV G args s below z0 u0) G p l e s m args below meth c 0 z0 u0 6 (lpK (lpn F_Rd_put n) (T_Rd_put_4 v0R v1J v3I v4I s0I σ)) 44 [(0, .ref v0R), (1, .long v1J), (3, .int v3I), (4, .int v4I)] [.int s0I] σ := by
  unfold T_Rd_put_4
  refine x_istore (lv' := [(5, .int s0I), (0, .ref v0R), (1, .long v1J), (3, .int v3I), (4, .int v4I)]) C d_Rd_put_44 (by decide) rfl ?_
  refine x_iload C d_Rd_put_46 0 rfl ?_
  refine x_if_eq (tgt := 82) C d_Rd_put_48 (by decide) (fun _ => ?_) (fun _ => ?_)
  · refine x_lv [1, 2, 3] rfl ?_
    exact IH.2.2.2.2.2 v0R v1J v3I (σ)
  · refine x_aload_n C d_Rd_put_51 1 rfl ?_
    refine x_gd (fun h1 => ?_)
    refine x_getI (k := 2) C (okO_iff.mp h1) rfl j1_ok (by decide) rfl w206 d_Rd_put_52 ?_
    refine x_sipush (v := (1000 : Int32)) C d_Rd_put_55 (by decide) ?_
    refine x_icmp_ge (tgt := 82) C d_Rd_put_58 (by decide) (fun _ => ?_) (fun _ => ?_)
    · refine x_aload_n C d_Rd_put_61 1 rfl ?_
      refine x_gd (fun h2 => ?_)
      refine x_getR (k := 0) (kv := 104) C (okO_iff.mp h1) rfl j1_ok (by decide) rfl (okO_iff.mp h2) (by decide) w204 d_Rd_put_62 ?_
      refine x_aload_n C d_Rd_put_65 1 rfl ?_
      refine x_getI (k := 2) C (okO_iff.mp h1) rfl j1_ok (by decide) rfl w206 d_Rd_put_66 ?_
      refine x_iload C d_Rd_put_69 4 rfl ?_
      refine x_gd (fun h3 => ?_)
      refine x_astC C (okO_iff.mp h2) (inB_iff.mp h3) d_Rd_put_71 ?_
      refine x_letS (fun σ4 e5 => ?_)
      refine x_aload_n C d_Rd_put_72 1 rfl ?_
      refine x_dup C d_Rd_put_73 rfl ?_
      refine x_getI (k := 2) C (by first | exact (okO_iff.mp h1) | (rw [e5]; exact (okO_iff.mp h1))) rfl j1_ok (by decide) rfl w206 d_Rd_put_74 ?_
      refine x_iconst (v := (1 : Int32)) C d_Rd_put_77 (by decide) ?_
      refine x_iadd C d_Rd_put_78 ?_
      refine x_putI (k := 2) C (by first | exact (okO_iff.mp h1) | (rw [e5]; exact (okO_iff.mp h1))) rfl j1_ok y1_ok n1_ok (by decide) rfl rfl rfl rfl w206 d_Rd_put_79 ?_
      refine x_letS (fun σ6 e7 => ?_)
      refine x_lv [1, 2, 3] rfl ?_
      exact IH.2.2.2.2.2 v0R v1J v3I (σ6)
    · refine x_lv [1, 2, 3] rfl ?_
      exact IH.2.2.2.2.2 v0R v1J v3I (σ)
set_option maxRecDepth 20000 in
theorem s_Rd_put_5 {G : GX} {p : Program} {l : Launch} {e : Env} {s : State} {m : MethodId} {args : Array Value} {below : List Frame} {meth : Method} {c : Code} {z0 u0 n : Nat} (C : Cx G p s m args meth c prog_9_method_4_code 6 "BellPlate$Reader" ((none))) (IH : I_Rd_put G p l e s m args below meth c z0 u0 n) (v0R : Nat) (v1J : Int64) (v3I : Int32) (σ : AM) : VX (QM eV G args s below z0 u0) G p l e s m args below meth c 0 z0 u0 6 (lpK (lpn F_Rd_put n) (T_Rd_put_5 v0R v1J v3I σ)) 82 [(0, .ref v0R), (1, .long v1J), (3, .int v3I)] [] σ := by
  unfold T_Rd_put_5
  refine x_iinc (v := v3I + ((-8) : Int32)) (lv' := [(3, .int (v3I + ((-8) : Int32))), (0, .ref v0R), (1, .long v1J)]) C d_Rd_put_82 2 rfl rfl (by decide) rfl ?_
  refine x_goto (tgt := 3) C d_Rd_put_85 (by decide) ?_
  refine x_lv [1, 2, 0] rfl ?_
  exact IH.2.1 v0R v1J (v3I + ((-8) : Int32)) (σ)
theorem i_Rd_put {G : GX} {p : Program} {l : Launch} {e : Env} {s : State} {m : MethodId} {args : Array Value} {below : List Frame} {meth : Method} {c : Code} {z0 u0 : Nat} (C : Cx G p s m args meth c prog_9_method_4_code 6 "BellPlate$Reader" ((none))) (n : Nat) : I_Rd_put G p l e s m args below meth c z0 u0 n := by
  induction n with
  | zero => exact ⟨fun _ _ _ => x_none, fun _ _ _ _ => x_none, fun _ _ _ _ _ => x_none, fun _ _ _ _ _ => x_none, fun _ _ _ _ _ _ => x_none, fun _ _ _ _ => x_none⟩
  | succ n IH => exact ⟨fun v0R v1J σ => s_Rd_put_0 C IH v0R v1J σ, fun v0R v1J v3I σ => s_Rd_put_1 C IH v0R v1J v3I σ, fun v0R v1J v3I v4I σ => s_Rd_put_2 C IH v0R v1J v3I v4I σ, fun v0R v1J v3I v4I σ => s_Rd_put_3 C IH v0R v1J v3I v4I σ, fun v0R v1J v3I v4I s0I σ => s_Rd_put_4 C IH v0R v1J v3I v4I s0I σ, fun v0R v1J v3I σ => s_Rd_put_5 C IH v0R v1J v3I σ⟩
theorem c_Rd_put (G : GX) (l : Launch) (v0R : Nat) (v1J : Int64) (σ : AM) : CT eV G l 0 y_Rd_put prog_9_method_4_code 6 (none) [.ref v0R, .long v1J] σ (M_Rd_put v0R v1J σ) := by
  refine ct_of (by decide +kernel) (Nat.le_of_ble_eq_true rfl) (fun p e s m args below meth c C hin => ?_)
  refine x_lve (lv' := [(0, .ref v0R), (1, .long v1J)]) rfl ?_
  intro r σ' h
  obtain ⟨n, hn⟩ := (lp_iff _ _ _).mp h
  exact (i_Rd_put C n).1 v0R v1J σ r σ' hn
/-! BellPlate$Reader.isBlank(C)Z -/
abbrev y_Rd_isBlank : MethodName := ⟨"BellPlate$Reader", "isBlank", "(C)Z"⟩
theorem k_Rd_isBlank : y_Rd_isBlank.cls ≠ "java/lang/invoke/MethodHandle" ∧ y_Rd_isBlank.cls ≠ "java/lang/invoke/VarHandle" ∧ (parseMethodDescriptor y_Rd_isBlank.desc).map (fun d => d.parameters.length) = some 1 := by decide +kernel
theorem d_Rd_isBlank_0 : decode prog_9_method_10_code 0 = .ok (.iload_n 0, 1) := by decide +kernel
theorem d_Rd_isBlank_1 : decode prog_9_method_10_code 1 = .ok (.bipush 10, 2) := by decide +kernel
theorem d_Rd_isBlank_3 : decode prog_9_method_10_code 3 = .ok (.if_icmp .eq 9, 3) := by decide +kernel
theorem d_Rd_isBlank_6 : decode prog_9_method_10_code 6 = .ok (.iload_n 0, 1) := by decide +kernel
theorem d_Rd_isBlank_7 : decode prog_9_method_10_code 7 = .ok (.bipush 32, 2) := by decide +kernel
theorem d_Rd_isBlank_9 : decode prog_9_method_10_code 9 = .ok (.if_icmp .ne 7, 3) := by decide +kernel
theorem d_Rd_isBlank_12 : decode prog_9_method_10_code 12 = .ok (.iconst 1, 1) := by decide +kernel
theorem d_Rd_isBlank_13 : decode prog_9_method_10_code 13 = .ok (.goto 4, 3) := by decide +kernel
theorem d_Rd_isBlank_16 : decode prog_9_method_10_code 16 = .ok (.iconst 0, 1) := by decide +kernel
theorem d_Rd_isBlank_17 : decode prog_9_method_10_code 17 = .ok (.ireturn, 1) := by decide +kernel
abbrev S_Rd_isBlank : Type := Nat × Int32 × Int32 × AM
noncomputable def T_Rd_isBlank_0 (v0I : Int32) (σ : AM) : S_Rd_isBlank ⊕ Option (Int32 × AM) :=
  if v0I = (10 : Int32) then (.inl (1, 0, 0, σ)) else (if v0I = (32 : Int32) then (.inl (1, 0, 0, σ)) else (.inl (2, 0, (0 : Int32), σ)))
noncomputable def T_Rd_isBlank_1  (σ : AM) : S_Rd_isBlank ⊕ Option (Int32 × AM) :=
  .inl (2, 0, (1 : Int32), σ)
noncomputable def T_Rd_isBlank_2 (s0I : Int32) (σ : AM) : S_Rd_isBlank ⊕ Option (Int32 × AM) :=
  gdT (isB s0I) <| .inr (some (s0I, σ))
noncomputable def F_Rd_isBlank : S_Rd_isBlank → S_Rd_isBlank ⊕ Option (Int32 × AM) := fun s => match s.1 with
  | 0 => T_Rd_isBlank_0 (s.2.1) (s.2.2.2)
  | 1 => T_Rd_isBlank_1  (s.2.2.2)
  | _ => T_Rd_isBlank_2 (s.2.2.1) (s.2.2.2)
noncomputable def L_Rd_isBlank_0 (v0I : Int32) (σ : AM) : Option (Int32 × AM) := lp F_Rd_isBlank (0, v0I, 0, σ)
noncomputable def L_Rd_isBlank_1  (σ : AM) : Option (Int32 × AM) := lp F_Rd_isBlank (1, 0, 0, σ)
noncomputable def L_Rd_isBlank_2 (s0I : Int32) (σ : AM) : Option (Int32 × AM) := lp F_Rd_isBlank (2, 0, s0I, σ)
set_option maxRecDepth 20000 in
theorem E_Rd_isBlank_0 (v0I : Int32) (σ : AM) : L_Rd_isBlank_0 v0I σ = (if v0I = (10 : Int32) then (L_Rd_isBlank_1 σ) else (if v0I = (32 : Int32) then (L_Rd_isBlank_1 σ) else (L_Rd_isBlank_2 ((0 : Int32)) σ))) := by
  unfold L_Rd_isBlank_0
  rw [lp_eq]
  show lpK (lp F_Rd_isBlank) (T_Rd_isBlank_0 v0I σ) = _
  unfold T_Rd_isBlank_0
  simp only [lpK_ite, lq_inl, lq_inr, lpK_bnd, lpK_gd, lq_let]
  try rfl
set_option maxRecDepth 20000 in
theorem E_Rd_isBlank_1  (σ : AM) : L_Rd_isBlank_1  σ = (L_Rd_isBlank_2 ((1 : Int32)) σ) := by
  unfold L_Rd_isBlank_1
  rw [lp_eq]
  show lpK (lp F_Rd_isBlank) (T_Rd_isBlank_1  σ) = _
  unfold T_Rd_isBlank_1
  simp only [lpK_ite, lq_inl, lq_inr, lpK_bnd, lpK_gd, lq_let]
  try rfl
set_option maxRecDepth 20000 in
theorem E_Rd_isBlank_2 (s0I : Int32) (σ : AM) : L_Rd_isBlank_2 s0I σ = (gd (isB s0I) <| (some (s0I, σ))) := by
  unfold L_Rd_isBlank_2
  rw [lp_eq]
  show lpK (lp F_Rd_isBlank) (T_Rd_isBlank_2 s0I σ) = _
  unfold T_Rd_isBlank_2
  simp only [lpK_ite, lq_inl, lq_inr, lpK_bnd, lpK_gd, lq_let]
  try rfl
noncomputable def M_Rd_isBlank (v0I : Int32) (σ : AM) : Option (Int32 × AM) := mw σ (L_Rd_isBlank_0 v0I σ)
def I_Rd_isBlank (G : GX) (p : Program) (l : Launch) (e : Env) (s : State) (m : MethodId) (args : Array Value) (below : List Frame) (meth : Method) (c : Code) (z0 u0 n : Nat) : Prop :=
  (∀ (v0I : Int32) (σ : AM), VX (QM eI G args s below z0 u0) G p l e s m args below meth c 0 z0 u0 1 (lpn F_Rd_isBlank n (0, v0I, 0, σ)) 0 [(0, .int v0I)] [] σ) ∧
  (∀ (σ : AM), VX (QM eI G args s below z0 u0) G p l e s m args below meth c 0 z0 u0 1 (lpn F_Rd_isBlank n (1, 0, 0, σ)) 12 [] [] σ) ∧
  (∀ (s0I : Int32) (σ : AM), VX (QM eI G args s below z0 u0) G p l e s m args below meth c 0 z0 u0 1 (lpn F_Rd_isBlank n (2, 0, s0I, σ)) 17 [] [.int s0I] σ)
set_option maxRecDepth 20000 in
theorem s_Rd_isBlank_0 {G : GX} {p : Program} {l : Launch} {e : Env} {s : State} {m : MethodId} {args : Array Value} {below : List Frame} {meth : Method} {c : Code} {z0 u0 n : Nat} (C : Cx G p s m args meth c prog_9_method_10_code 1 "BellPlate$Reader" ((some FieldType.boolean))) (IH : I_Rd_isBlank G p l e s m args below meth c z0 u0 n) (v0I : Int32) (σ : AM) : VX (QM eI G args s below z0 u0) G p l e s m args below meth c 0 z0 u0 1 (lpK (lpn F_Rd_isBlank n) (T_Rd_isBlank_0 v0I σ)) 0 [(0, .int v0I)] [] σ := by
  unfold T_Rd_isBlank_0
  refine x_iload_n C d_Rd_isBlank_0 0 rfl ?_
  refine x_bipush (v := (10 : Int32)) C d_Rd_isBlank_1 (by decide) ?_
  refine x_icmp_eq (tgt := 12) C d_Rd_isBlank_3 (by decide) (fun _ => ?_) (fun _ => ?_)
  · refine x_lv [] rfl ?_
    exact IH.2.1  (σ)
  · refine x_iload_n C d_Rd_isBlank_6 0 rfl ?_
    refine x_bipush (v := (32 : Int32)) C d_Rd_isBlank_7 (by decide) ?_
    refine x_icmp_ne (tgt := 16) C d_Rd_isBlank_9 (by decide) (fun _ => ?_) (fun _ => ?_)
    · refine x_lv [] rfl ?_
      exact IH.2.1  (σ)
    · refine x_iconst (v := (0 : Int32)) C d_Rd_isBlank_16 (by decide) ?_
      refine x_lv [] rfl ?_
      exact IH.2.2 ((0 : Int32)) (σ)
set_option maxRecDepth 20000 in
theorem s_Rd_isBlank_1 {G : GX} {p : Program} {l : Launch} {e : Env} {s : State} {m : MethodId} {args : Array Value} {below : List Frame} {meth : Method} {c : Code} {z0 u0 n : Nat} (C : Cx G p s m args meth c prog_9_method_10_code 1 "BellPlate$Reader" ((some FieldType.boolean))) (IH : I_Rd_isBlank G p l e s m args below meth c z0 u0 n)  (σ : AM) : VX (QM eI G args s below z0 u0) G p l e s m args below meth c 0 z0 u0 1 (lpK (lpn F_Rd_isBlank n) (T_Rd_isBlank_1  σ)) 12 [] [] σ := by
  unfold T_Rd_isBlank_1
  refine x_iconst (v := (1 : Int32)) C d_Rd_isBlank_12 (by decide) ?_
  refine x_goto (tgt := 17) C d_Rd_isBlank_13 (by decide) ?_
  exact IH.2.2 ((1 : Int32)) (σ)
set_option maxRecDepth 20000 in
theorem s_Rd_isBlank_2 {G : GX} {p : Program} {l : Launch} {e : Env} {s : State} {m : MethodId} {args : Array Value} {below : List Frame} {meth : Method} {c : Code} {z0 u0 n : Nat} (C : Cx G p s m args meth c prog_9_method_10_code 1 "BellPlate$Reader" ((some FieldType.boolean))) (IH : I_Rd_isBlank G p l e s m args below meth c z0 u0 n) (s0I : Int32) (σ : AM) : VX (QM eI G args s below z0 u0) G p l e s m args below meth c 0 z0 u0 1 (lpK (lpn F_Rd_isBlank n) (T_Rd_isBlank_2 s0I σ)) 17 [] [.int s0I] σ := by
  unfold T_Rd_isBlank_2
  refine x_gd (fun h1 => ?_)
  exact x_zret C (isB_narrow h1) d_Rd_isBlank_17
theorem i_Rd_isBlank {G : GX} {p : Program} {l : Launch} {e : Env} {s : State} {m : MethodId} {args : Array Value} {below : List Frame} {meth : Method} {c : Code} {z0 u0 : Nat} (C : Cx G p s m args meth c prog_9_method_10_code 1 "BellPlate$Reader" ((some FieldType.boolean))) (n : Nat) : I_Rd_isBlank G p l e s m args below meth c z0 u0 n := by
  induction n with
  | zero => exact ⟨fun _ _ => x_none, fun _ => x_none, fun _ _ => x_none⟩
  | succ n IH => exact ⟨fun v0I σ => s_Rd_isBlank_0 C IH v0I σ, fun σ => s_Rd_isBlank_1 C IH σ, fun s0I σ => s_Rd_isBlank_2 C IH s0I σ⟩
theorem c_Rd_isBlank (G : GX) (l : Launch) (v0I : Int32) (σ : AM) : CT eI G l 0 y_Rd_isBlank prog_9_method_10_code 1 ((some FieldType.boolean)) [.int v0I] σ (M_Rd_isBlank v0I σ) := by
  refine ct_of (by decide +kernel) (Nat.le_of_ble_eq_true rfl) (fun p e s m args below meth c C hin => ?_)
  refine x_lve (lv' := [(0, .int v0I)]) rfl ?_
  intro r σ' h
  obtain ⟨n, hn⟩ := (lp_iff _ _ _).mp h
  exact (i_Rd_isBlank C n).1 v0I σ r σ' hn
/-! BellPlate$Reader.isLetter(C)Z -/
abbrev y_Rd_isLetter : MethodName := ⟨"BellPlate$Reader", "isLetter", "(C)Z"⟩
theorem k_Rd_isLetter : y_Rd_isLetter.cls ≠ "java/lang/invoke/MethodHandle" ∧ y_Rd_isLetter.cls ≠ "java/lang/invoke/VarHandle" ∧ (parseMethodDescriptor y_Rd_isLetter.desc).map (fun d => d.parameters.length) = some 1 := by decide +kernel
theorem d_Rd_isLetter_0 : decode prog_9_method_11_code 0 = .ok (.iload_n 0, 1) := by decide +kernel
theorem d_Rd_isLetter_1 : decode prog_9_method_11_code 1 = .ok (.bipush 97, 2) := by decide +kernel
theorem d_Rd_isLetter_3 : decode prog_9_method_11_code 3 = .ok (.if_icmp .lt 13, 3) := by decide +kernel
theorem d_Rd_isLetter_6 : decode prog_9_method_11_code 6 = .ok (.iload_n 0, 1) := by decide +kernel
theorem d_Rd_isLetter_7 : decode prog_9_method_11_code 7 = .ok (.bipush 122, 2) := by decide +kernel
theorem d_Rd_isLetter_9 : decode prog_9_method_11_code 9 = .ok (.if_icmp .gt 7, 3) := by decide +kernel
theorem d_Rd_isLetter_12 : decode prog_9_method_11_code 12 = .ok (.iconst 1, 1) := by decide +kernel
theorem d_Rd_isLetter_13 : decode prog_9_method_11_code 13 = .ok (.goto 4, 3) := by decide +kernel
theorem d_Rd_isLetter_16 : decode prog_9_method_11_code 16 = .ok (.iconst 0, 1) := by decide +kernel
theorem d_Rd_isLetter_17 : decode prog_9_method_11_code 17 = .ok (.ireturn, 1) := by decide +kernel
abbrev S_Rd_isLetter : Type := Nat × Int32 × Int32 × AM
noncomputable def T_Rd_isLetter_0 (v0I : Int32) (σ : AM) : S_Rd_isLetter ⊕ Option (Int32 × AM) :=
  if v0I < (97 : Int32) then (.inl (1, 0, 0, σ)) else (if (122 : Int32) < v0I then (.inl (1, 0, 0, σ)) else (.inl (2, 0, (1 : Int32), σ)))
noncomputable def T_Rd_isLetter_1  (σ : AM) : S_Rd_isLetter ⊕ Option (Int32 × AM) :=
  .inl (2, 0, (0 : Int32), σ)
noncomputable def T_Rd_isLetter_2 (s0I : Int32) (σ : AM) : S_Rd_isLetter ⊕ Option (Int32 × AM) :=
  gdT (isB s0I) <| .inr (some (s0I, σ))
noncomputable def F_Rd_isLetter : S_Rd_isLetter → S_Rd_isLetter ⊕ Option (Int32 × AM) := fun s => match s.1 with
  | 0 => T_Rd_isLetter_0 (s.2.1) (s.2.2.2)
  | 1 => T_Rd_isLetter_1  (s.2.2.2)
  | _ => T_Rd_isLetter_2 (s.2.2.1) (s.2.2.2)
noncomputable def L_Rd_isLetter_0 (v0I : Int32) (σ : AM) : Option (Int32 × AM) := lp F_Rd_isLetter (0, v0I, 0, σ)
noncomputable def L_Rd_isLetter_1  (σ : AM) : Option (Int32 × AM) := lp F_Rd_isLetter (1, 0, 0, σ)
noncomputable def L_Rd_isLetter_2 (s0I : Int32) (σ : AM) : Option (Int32 × AM) := lp F_Rd_isLetter (2, 0, s0I, σ)
set_option maxRecDepth 20000 in
theorem E_Rd_isLetter_0 (v0I : Int32) (σ : AM) : L_Rd_isLetter_0 v0I σ = (if v0I < (97 : Int32) then (L_Rd_isLetter_1 σ) else (if (122 : Int32) < v0I then (L_Rd_isLetter_1 σ) else (L_Rd_isLetter_2 ((1 : Int32)) σ))) := by
  unfold L_Rd_isLetter_0
  rw [lp_eq]
  show lpK (lp F_Rd_isLetter) (T_Rd_isLetter_0 v0I σ) = _
  unfold T_Rd_isLetter_0
  simp only [lpK_ite, lq_inl, lq_inr, lpK_bnd, lpK_gd, lq_let]
  try rfl
set_option maxRecDepth 20000 in
theorem E_Rd_isLetter_1  (σ : AM) : L_Rd_isLetter_1  σ = (L_Rd_isLetter_2 ((0 : Int32)) σ) := by
  unfold L_Rd_isLetter_1
  rw [lp_eq]
  show lpK (lp F_Rd_isLetter) (T_Rd_isLetter_1  σ) = _
  unfold T_Rd_isLetter_1
  simp only [lpK_ite, lq_inl, lq_inr, lpK_bnd, lpK_gd, lq_let]
  try rfl
set_option maxRecDepth 20000 in
theorem E_Rd_isLetter_2 (s0I : Int32) (σ : AM) : L_Rd_isLetter_2 s0I σ = (gd (isB s0I) <| (some (s0I, σ))) := by
  unfold L_Rd_isLetter_2
  rw [lp_eq]
  show lpK (lp F_Rd_isLetter) (T_Rd_isLetter_2 s0I σ) = _
  unfold T_Rd_isLetter_2
  simp only [lpK_ite, lq_inl, lq_inr, lpK_bnd, lpK_gd, lq_let]
  try rfl
noncomputable def M_Rd_isLetter (v0I : Int32) (σ : AM) : Option (Int32 × AM) := mw σ (L_Rd_isLetter_0 v0I σ)
def I_Rd_isLetter (G : GX) (p : Program) (l : Launch) (e : Env) (s : State) (m : MethodId) (args : Array Value) (below : List Frame) (meth : Method) (c : Code) (z0 u0 n : Nat) : Prop :=
  (∀ (v0I : Int32) (σ : AM), VX (QM eI G args s below z0 u0) G p l e s m args below meth c 0 z0 u0 1 (lpn F_Rd_isLetter n (0, v0I, 0, σ)) 0 [(0, .int v0I)] [] σ) ∧
  (∀ (σ : AM), VX (QM eI G args s below z0 u0) G p l e s m args below meth c 0 z0 u0 1 (lpn F_Rd_isLetter n (1, 0, 0, σ)) 16 [] [] σ) ∧
  (∀ (s0I : Int32) (σ : AM), VX (QM eI G args s below z0 u0) G p l e s m args below meth c 0 z0 u0 1 (lpn F_Rd_isLetter n (2, 0, s0I, σ)) 17 [] [.int s0I] σ)
set_option maxRecDepth 20000 in
theorem s_Rd_isLetter_0 {G : GX} {p : Program} {l : Launch} {e : Env} {s : State} {m : MethodId} {args : Array Value} {below : List Frame} {meth : Method} {c : Code} {z0 u0 n : Nat} (C : Cx G p s m args meth c prog_9_method_11_code 1 "BellPlate$Reader" ((some FieldType.boolean))) (IH : I_Rd_isLetter G p l e s m args below meth c z0 u0 n) (v0I : Int32) (σ : AM) : VX (QM eI G args s below z0 u0) G p l e s m args below meth c 0 z0 u0 1 (lpK (lpn F_Rd_isLetter n) (T_Rd_isLetter_0 v0I σ)) 0 [(0, .int v0I)] [] σ := by
  unfold T_Rd_isLetter_0
  refine x_iload_n C d_Rd_isLetter_0 0 rfl ?_
  refine x_bipush (v := (97 : Int32)) C d_Rd_isLetter_1 (by decide) ?_
  refine x_icmp_lt (tgt := 16) C d_Rd_isLetter_3 (by decide) (fun _ => ?_) (fun _ => ?_)
  · refine x_lv [] rfl ?_
    exact IH.2.1  (σ)
  · refine x_iload_n C d_Rd_isLetter_6 0 rfl ?_
    refine x_bipush (v := (122 : Int32)) C d_Rd_isLetter_7 (by decide) ?_
    refine x_icmp_gt (tgt := 16) C d_Rd_isLetter_9 (by decide) (fun _ => ?_) (fun _ => ?_)
    · refine x_lv [] rfl ?_
      exact IH.2.1  (σ)
    · refine x_iconst (v := (1 : Int32)) C d_Rd_isLetter_12 (by decide) ?_
      refine x_goto (tgt := 17) C d_Rd_isLetter_13 (by decide) ?_
      refine x_lv [] rfl ?_
      exact IH.2.2 ((1 : Int32)) (σ)
set_option maxRecDepth 20000 in
theorem s_Rd_isLetter_1 {G : GX} {p : Program} {l : Launch} {e : Env} {s : State} {m : MethodId} {args : Array Value} {below : List Frame} {meth : Method} {c : Code} {z0 u0 n : Nat} (C : Cx G p s m args meth c prog_9_method_11_code 1 "BellPlate$Reader" ((some FieldType.boolean))) (IH : I_Rd_isLetter G p l e s m args below meth c z0 u0 n)  (σ : AM) : VX (QM eI G args s below z0 u0) G p l e s m args below meth c 0 z0 u0 1 (lpK (lpn F_Rd_isLetter n) (T_Rd_isLetter_1  σ)) 16 [] [] σ := by
  unfold T_Rd_isLetter_1
  refine x_iconst (v := (0 : Int32)) C d_Rd_isLetter_16 (by decide) ?_
  exact IH.2.2 ((0 : Int32)) (σ)
set_option maxRecDepth 20000 in
theorem s_Rd_isLetter_2 {G : GX} {p : Program} {l : Launch} {e : Env} {s : State} {m : MethodId} {args : Array Value} {below : List Frame} {meth : Method} {c : Code} {z0 u0 n : Nat} (C : Cx G p s m args meth c prog_9_method_11_code 1 "BellPlate$Reader" ((some FieldType.boolean))) (IH : I_Rd_isLetter G p l e s m args below meth c z0 u0 n) (s0I : Int32) (σ : AM) : VX (QM eI G args s below z0 u0) G p l e s m args below meth c 0 z0 u0 1 (lpK (lpn F_Rd_isLetter n) (T_Rd_isLetter_2 s0I σ)) 17 [] [.int s0I] σ := by
  unfold T_Rd_isLetter_2
  refine x_gd (fun h1 => ?_)
  exact x_zret C (isB_narrow h1) d_Rd_isLetter_17
theorem i_Rd_isLetter {G : GX} {p : Program} {l : Launch} {e : Env} {s : State} {m : MethodId} {args : Array Value} {below : List Frame} {meth : Method} {c : Code} {z0 u0 : Nat} (C : Cx G p s m args meth c prog_9_method_11_code 1 "BellPlate$Reader" ((some FieldType.boolean))) (n : Nat) : I_Rd_isLetter G p l e s m args below meth c z0 u0 n := by
  induction n with
  | zero => exact ⟨fun _ _ => x_none, fun _ => x_none, fun _ _ => x_none⟩
  | succ n IH => exact ⟨fun v0I σ => s_Rd_isLetter_0 C IH v0I σ, fun σ => s_Rd_isLetter_1 C IH σ, fun s0I σ => s_Rd_isLetter_2 C IH s0I σ⟩
theorem c_Rd_isLetter (G : GX) (l : Launch) (v0I : Int32) (σ : AM) : CT eI G l 0 y_Rd_isLetter prog_9_method_11_code 1 ((some FieldType.boolean)) [.int v0I] σ (M_Rd_isLetter v0I σ) := by
  refine ct_of (by decide +kernel) (Nat.le_of_ble_eq_true rfl) (fun p e s m args below meth c C hin => ?_)
  refine x_lve (lv' := [(0, .int v0I)]) rfl ?_
  intro r σ' h
  obtain ⟨n, hn⟩ := (lp_iff _ _ _).mp h
  exact (i_Rd_isLetter C n).1 v0I σ r σ' hn
/-! BellPlate$Reader.readWord()V -/
abbrev y_Rd_readWord : MethodName := ⟨"BellPlate$Reader", "readWord", "()V"⟩
theorem k_Rd_readWord : y_Rd_readWord.cls ≠ "java/lang/invoke/MethodHandle" ∧ y_Rd_readWord.cls ≠ "java/lang/invoke/VarHandle" ∧ (parseMethodDescriptor y_Rd_readWord.desc).map (fun d => d.parameters.length) = some 0 := by decide +kernel
theorem d_Rd_readWord_0 : decode prog_9_method_8_code 0 = .ok (.aload_n 0, 1) := by decide +kernel
theorem d_Rd_readWord_1 : decode prog_9_method_8_code 1 = .ok (.lconst 0, 1) := by decide +kernel
theorem d_Rd_readWord_2 : decode prog_9_method_8_code 2 = .ok (.putfield 103, 3) := by decide +kernel
theorem d_Rd_readWord_5 : decode prog_9_method_8_code 5 = .ok (.iconst 0, 1) := by decide +kernel
theorem d_Rd_readWord_6 : decode prog_9_method_8_code 6 = .ok (.istore_n 1, 1) := by decide +kernel
theorem d_Rd_readWord_7 : decode prog_9_method_8_code 7 = .ok (.iload_n 1, 1) := by decide +kernel
theorem d_Rd_readWord_8 : decode prog_9_method_8_code 8 = .ok (.sipush 1000, 3) := by decide +kernel
theorem d_Rd_readWord_11 : decode prog_9_method_8_code 11 = .ok (.if_icmp .ge 67, 3) := by decide +kernel
theorem d_Rd_readWord_14 : decode prog_9_method_8_code 14 = .ok (.aload_n 0, 1) := by decide +kernel
theorem d_Rd_readWord_15 : decode prog_9_method_8_code 15 = .ok (.getfield 28, 3) := by decide +kernel
theorem d_Rd_readWord_18 : decode prog_9_method_8_code 18 = .ok (.aload_n 0, 1) := by decide +kernel
theorem d_Rd_readWord_19 : decode prog_9_method_8_code 19 = .ok (.getfield 22, 3) := by decide +kernel
theorem d_Rd_readWord_22 : decode prog_9_method_8_code 22 = .ok (.if_icmp .ge 56, 3) := by decide +kernel
theorem d_Rd_readWord_25 : decode prog_9_method_8_code 25 = .ok (.aload_n 0, 1) := by decide +kernel
theorem d_Rd_readWord_26 : decode prog_9_method_8_code 26 = .ok (.getfield 11, 3) := by decide +kernel
theorem d_Rd_readWord_29 : decode prog_9_method_8_code 29 = .ok (.aload_n 0, 1) := by decide +kernel
theorem d_Rd_readWord_30 : decode prog_9_method_8_code 30 = .ok (.getfield 28, 3) := by decide +kernel
theorem d_Rd_readWord_33 : decode prog_9_method_8_code 33 = .ok (.caload, 1) := by decide +kernel
theorem d_Rd_readWord_34 : decode prog_9_method_8_code 34 = .ok (.invokestatic 83, 3) := by decide +kernel
theorem d_Rd_readWord_37 : decode prog_9_method_8_code 37 = .ok (.ifCond .eq 41, 3) := by decide +kernel
theorem d_Rd_readWord_40 : decode prog_9_method_8_code 40 = .ok (.aload_n 0, 1) := by decide +kernel
theorem d_Rd_readWord_41 : decode prog_9_method_8_code 41 = .ok (.aload_n 0, 1) := by decide +kernel
theorem d_Rd_readWord_42 : decode prog_9_method_8_code 42 = .ok (.getfield 103, 3) := by decide +kernel
theorem d_Rd_readWord_45 : decode prog_9_method_8_code 45 = .ok (.bipush 8, 2) := by decide +kernel
theorem d_Rd_readWord_47 : decode prog_9_method_8_code 47 = .ok (.lshl, 1) := by decide +kernel
theorem d_Rd_readWord_48 : decode prog_9_method_8_code 48 = .ok (.aload_n 0, 1) := by decide +kernel
theorem d_Rd_readWord_49 : decode prog_9_method_8_code 49 = .ok (.getfield 11, 3) := by decide +kernel
theorem d_Rd_readWord_52 : decode prog_9_method_8_code 52 = .ok (.aload_n 0, 1) := by decide +kernel
theorem d_Rd_readWord_53 : decode prog_9_method_8_code 53 = .ok (.getfield 28, 3) := by decide +kernel
theorem d_Rd_readWord_56 : decode prog_9_method_8_code 56 = .ok (.caload, 1) := by decide +kernel
theorem d_Rd_readWord_57 : decode prog_9_method_8_code 57 = .ok (.i2l, 1) := by decide +kernel
theorem d_Rd_readWord_58 : decode prog_9_method_8_code 58 = .ok (.lor, 1) := by decide +kernel
theorem d_Rd_readWord_59 : decode prog_9_method_8_code 59 = .ok (.putfield 103, 3) := by decide +kernel
theorem d_Rd_readWord_62 : decode prog_9_method_8_code 62 = .ok (.aload_n 0, 1) := by decide +kernel
theorem d_Rd_readWord_63 : decode prog_9_method_8_code 63 = .ok (.dup, 1) := by decide +kernel
theorem d_Rd_readWord_64 : decode prog_9_method_8_code 64 = .ok (.getfield 28, 3) := by decide +kernel
theorem d_Rd_readWord_67 : decode prog_9_method_8_code 67 = .ok (.iconst 1, 1) := by decide +kernel
theorem d_Rd_readWord_68 : decode prog_9_method_8_code 68 = .ok (.iadd, 1) := by decide +kernel
theorem d_Rd_readWord_69 : decode prog_9_method_8_code 69 = .ok (.putfield 28, 3) := by decide +kernel
theorem d_Rd_readWord_72 : decode prog_9_method_8_code 72 = .ok (.iinc 1 1, 3) := by decide +kernel
theorem d_Rd_readWord_75 : decode prog_9_method_8_code 75 = .ok (.goto (-68), 3) := by decide +kernel
theorem d_Rd_readWord_78 : decode prog_9_method_8_code 78 = .ok (.aload_n 0, 1) := by decide +kernel
theorem d_Rd_readWord_79 : decode prog_9_method_8_code 79 = .ok (.getfield 28, 3) := by decide +kernel
theorem d_Rd_readWord_82 : decode prog_9_method_8_code 82 = .ok (.aload_n 0, 1) := by decide +kernel
theorem d_Rd_readWord_83 : decode prog_9_method_8_code 83 = .ok (.getfield 76, 3) := by decide +kernel
theorem d_Rd_readWord_86 : decode prog_9_method_8_code 86 = .ok (.isub, 1) := by decide +kernel
theorem d_Rd_readWord_87 : decode prog_9_method_8_code 87 = .ok (.bipush 8, 2) := by decide +kernel
theorem d_Rd_readWord_89 : decode prog_9_method_8_code 89 = .ok (.if_icmp .le 9, 3) := by decide +kernel
theorem d_Rd_readWord_92 : decode prog_9_method_8_code 92 = .ok (.aload_n 0, 1) := by decide +kernel
theorem d_Rd_readWord_93 : decode prog_9_method_8_code 93 = .ok (.iconst 1, 1) := by decide +kernel
theorem d_Rd_readWord_94 : decode prog_9_method_8_code 94 = .ok (.putfield 50, 3) := by decide +kernel
theorem d_Rd_readWord_97 : decode prog_9_method_8_code 97 = .ok (.return_, 1) := by decide +kernel
theorem d_Rd_readWord_98 : decode prog_9_method_8_code 98 = .ok (.aload_n 0, 1) := by decide +kernel
theorem d_Rd_readWord_99 : decode prog_9_method_8_code 99 = .ok (.iconst 3, 1) := by decide +kernel
theorem d_Rd_readWord_100 : decode prog_9_method_8_code 100 = .ok (.putfield 50, 3) := by decide +kernel
theorem d_Rd_readWord_103 : decode prog_9_method_8_code 103 = .ok (.iconst 0, 1) := by decide +kernel
theorem d_Rd_readWord_104 : decode prog_9_method_8_code 104 = .ok (.istore_n 1, 1) := by decide +kernel
theorem d_Rd_readWord_105 : decode prog_9_method_8_code 105 = .ok (.iload_n 1, 1) := by decide +kernel
theorem d_Rd_readWord_106 : decode prog_9_method_8_code 106 = .ok (.getstatic 107, 3) := by decide +kernel
theorem d_Rd_readWord_109 : decode prog_9_method_8_code 109 = .ok (.arraylength, 1) := by decide +kernel
theorem d_Rd_readWord_110 : decode prog_9_method_8_code 110 = .ok (.if_icmp .ge 29, 3) := by decide +kernel
theorem d_Rd_readWord_113 : decode prog_9_method_8_code 113 = .ok (.getstatic 107, 3) := by decide +kernel
theorem d_Rd_readWord_116 : decode prog_9_method_8_code 116 = .ok (.iload_n 1, 1) := by decide +kernel
theorem d_Rd_readWord_117 : decode prog_9_method_8_code 117 = .ok (.laload, 1) := by decide +kernel
theorem d_Rd_readWord_118 : decode prog_9_method_8_code 118 = .ok (.aload_n 0, 1) := by decide +kernel
theorem d_Rd_readWord_119 : decode prog_9_method_8_code 119 = .ok (.getfield 103, 3) := by decide +kernel
theorem d_Rd_readWord_122 : decode prog_9_method_8_code 122 = .ok (.lcmp, 1) := by decide +kernel
theorem d_Rd_readWord_123 : decode prog_9_method_8_code 123 = .ok (.ifCond .ne 10, 3) := by decide +kernel
theorem d_Rd_readWord_126 : decode prog_9_method_8_code 126 = .ok (.aload_n 0, 1) := by decide +kernel
theorem d_Rd_readWord_127 : decode prog_9_method_8_code 127 = .ok (.iconst 4, 1) := by decide +kernel
theorem d_Rd_readWord_128 : decode prog_9_method_8_code 128 = .ok (.iload_n 1, 1) := by decide +kernel
theorem d_Rd_readWord_129 : decode prog_9_method_8_code 129 = .ok (.iadd, 1) := by decide +kernel
theorem d_Rd_readWord_130 : decode prog_9_method_8_code 130 = .ok (.putfield 50, 3) := by decide +kernel
theorem d_Rd_readWord_133 : decode prog_9_method_8_code 133 = .ok (.iinc 1 1, 3) := by decide +kernel
theorem d_Rd_readWord_136 : decode prog_9_method_8_code 136 = .ok (.goto (-31), 3) := by decide +kernel
theorem d_Rd_readWord_139 : decode prog_9_method_8_code 139 = .ok (.return_, 1) := by decide +kernel
abbrev S_Rd_readWord : Type := Nat × Nat × Int32 × AM
noncomputable def T_Rd_readWord_0 (v0R : Nat) (σ : AM) : S_Rd_readWord ⊕ Option (Unit × AM) :=
  gdT (okO σ v0R 2) <| letT (sL σ v0R 7 (0 : Int64)) fun σ2 => .inl (1, v0R, (0 : Int32), σ2)
noncomputable def T_Rd_readWord_1 (v0R : Nat) (v1I : Int32) (σ : AM) : S_Rd_readWord ⊕ Option (Unit × AM) :=
  if v1I < (1000 : Int32) then (gdT (okO σ v0R 2) <| if (aI σ v0R 3) < (aI σ v0R 2) then (gdT (okO σ (aR σ v0R 0) 104) <| gdT (inB (aI σ v0R 3) (aN σ (aR σ v0R 0))) <| bndT (M_Rd_isLetter (aI σ (aR σ v0R 0) (aI σ v0R 3).toNatClampNeg) σ) fun r4 σ5 => if r4 = 0 then (.inl (2, v0R, 0, σ5)) else (gdT (okO σ5 v0R 2) <| gdT (okO σ5 (aR σ5 v0R 0) 104) <| gdT (inB (aI σ5 v0R 3) (aN σ5 (aR σ5 v0R 0))) <| letT (sL σ5 v0R 7 (((aL σ5 v0R 7) <<< ((8 : Int32).toInt64 &&& 63)) ||| ((aI σ5 (aR σ5 v0R 0) (aI σ5 v0R 3).toNatClampNeg).toInt64))) fun σ9 => letT (sI σ9 v0R 3 ((aI σ9 v0R 3) + (1 : Int32))) fun σ11 => .inl (1, v0R, v1I + (1 : Int32), σ11))) else (.inl (2, v0R, 0, σ))) else (.inl (2, v0R, 0, σ))
noncomputable def T_Rd_readWord_2 (v0R : Nat) (σ : AM) : S_Rd_readWord ⊕ Option (Unit × AM) :=
  gdT (okO σ v0R 2) <| if (8 : Int32) < ((aI σ v0R 3) - (aI σ v0R 5)) then (letT (sI σ v0R 4 (1 : Int32)) fun σ2 => .inr (some ((), σ2))) else (letT (sI σ v0R 4 (3 : Int32)) fun σ4 => .inl (3, v0R, (0 : Int32), σ4))
noncomputable def T_Rd_readWord_3 (v0R : Nat) (v1I : Int32) (σ : AM) : S_Rd_readWord ⊕ Option (Unit × AM) :=
  if v1I < (10 : Int32) then (gdT (inB v1I 10) <| gdT (okO σ v0R 2) <| if (lg_cmp (tbWORDS v1I.toNatClampNeg) (aL σ v0R 7)) = 0 then (letT (sI σ v0R 4 ((4 : Int32) + v1I)) fun σ3 => .inl (4, v0R, v1I, σ3)) else (.inl (4, v0R, v1I, σ))) else (.inr (some ((), σ)))
noncomputable def T_Rd_readWord_4 (v0R : Nat) (v1I : Int32) (σ : AM) : S_Rd_readWord ⊕ Option (Unit × AM) :=
  .inl (3, v0R, v1I + (1 : Int32), σ)
noncomputable def F_Rd_readWord : S_Rd_readWord → S_Rd_readWord ⊕ Option (Unit × AM) := fun s => match s.1 with
  | 0 => T_Rd_readWord_0 (s.2.1) (s.2.2.2)
  | 1 => T_Rd_readWord_1 (s.2.1) (s.2.2.1) (s.2.2.2)
  | 2 => T_Rd_readWord_2 (s.2.1) (s.2.2.2)
  | 3 => T_Rd_readWord_3 (s.2.1) (s.2.2.1) (s.2.2.2)
  | _ => T_Rd_readWord_4 (s.2.1) (s.2.2.1) (s.2.2.2)
noncomputable def L_Rd_readWord_0 (v0R : Nat) (σ : AM) : Option (Unit × AM) := lp F_Rd_readWord (0, v0R, 0, σ)
noncomputable def L_Rd_readWord_1 (v0R : Nat) (v1I : Int32) (σ : AM) : Option (Unit × AM) := lp F_Rd_readWord (1, v0R, v1I, σ)
noncomputable def L_Rd_readWord_2 (v0R : Nat) (σ : AM) : Option (Unit × AM) := lp F_Rd_readWord (2, v0R, 0, σ)
noncomputable def L_Rd_readWord_3 (v0R : Nat) (v1I : Int32) (σ : AM) : Option (Unit × AM) := lp F_Rd_readWord (3, v0R, v1I, σ)
noncomputable def L_Rd_readWord_4 (v0R : Nat) (v1I : Int32) (σ : AM) : Option (Unit × AM) := lp F_Rd_readWord (4, v0R, v1I, σ)
set_option maxRecDepth 20000 in
theorem E_Rd_readWord_0 (v0R : Nat) (σ : AM) : L_Rd_readWord_0 v0R σ = (gd (okO σ v0R 2) <| letT (sL σ v0R 7 (0 : Int64)) fun σ2 => L_Rd_readWord_1 v0R ((0 : Int32)) σ2) := by
  unfold L_Rd_readWord_0
  rw [lp_eq]
  show lpK (lp F_Rd_readWord) (T_Rd_readWord_0 v0R σ) = _
  unfold T_Rd_readWord_0
  simp only [lpK_ite, lq_inl, lq_inr, lpK_bnd, lpK_gd, lq_let]
  try rfl
set_option maxRecDepth 20000 in
theorem E_Rd_readWord_1 (v0R : Nat) (v1I : Int32) (σ : AM) : L_Rd_readWord_1 v0R v1I σ = (if v1I < (1000 : Int32) then (gd (okO σ v0R 2) <| if (aI σ v0R 3) < (aI σ v0R 2) then (gd (okO σ (aR σ v0R 0) 104) <| gd (inB (aI σ v0R 3) (aN σ (aR σ v0R 0))) <| bnd (M_Rd_isLetter (aI σ (aR σ v0R 0) (aI σ v0R 3).toNatClampNeg) σ) fun r4 σ5 => if r4 = 0 then (L_Rd_readWord_2 v0R σ5) else (gd (okO σ5 v0R 2) <| gd (okO σ5 (aR σ5 v0R 0) 104) <| gd (inB (aI σ5 v0R 3) (aN σ5 (aR σ5 v0R 0))) <| letT (sL σ5 v0R 7 (((aL σ5 v0R 7) <<< ((8 : Int32).toInt64 &&& 63)) ||| ((aI σ5 (aR σ5 v0R 0) (aI σ5 v0R 3).toNatClampNeg).toInt64))) fun σ9 => letT (sI σ9 v0R 3 ((aI σ9 v0R 3) + (1 : Int32))) fun σ11 => L_Rd_readWord_1 v0R (v1I + (1 : Int32)) σ11)) else (L_Rd_readWord_2 v0R σ)) else (L_Rd_readWord_2 v0R σ)) := by
  unfold L_Rd_readWord_1
  rw [lp_eq]
  show lpK (lp F_Rd_readWord) (T_Rd_readWord_1 v0R v1I σ) = _
  unfold T_Rd_readWord_1
  simp only [lpK_ite, lq_inl, lq_inr, lpK_bnd, lpK_gd, lq_let]
  try rfl
set_option maxRecDepth 20000 in
theorem E_Rd_readWord_2 (v0R : Nat) (σ : AM) : L_Rd_readWord_2 v0R σ = (gd (okO σ v0R 2) <| if (8 : Int32) < ((aI σ v0R 3) - (aI σ v0R 5)) then (letT (sI σ v0R 4 (1 : Int32)) fun σ2 => (some ((), σ2))) else (letT (sI σ v0R 4 (3 : Int32)) fun σ4 => L_Rd_readWord_3 v0R ((0 : Int32)) σ4)) := by
  unfold L_Rd_readWord_2
  rw [lp_eq]
  show lpK (lp F_Rd_readWord) (T_Rd_readWord_2 v0R σ) = _
  unfold T_Rd_readWord_2
  simp only [lpK_ite, lq_inl, lq_inr, lpK_bnd, lpK_gd, lq_let]
  try rfl
set_option maxRecDepth 20000 in
theorem E_Rd_readWord_3 (v0R : Nat) (v1I : Int32) (σ : AM) : L_Rd_readWord_3 v0R v1I σ = (if v1I < (10 : Int32) then (gd (inB v1I 10) <| gd (okO σ v0R 2) <| if (lg_cmp (tbWORDS v1I.toNatClampNeg) (aL σ v0R 7)) = 0 then (letT (sI σ v0R 4 ((4 : Int32) + v1I)) fun σ3 => L_Rd_readWord_4 v0R v1I σ3) else (L_Rd_readWord_4 v0R v1I σ)) else ((some ((), σ)))) := by
  unfold L_Rd_readWord_3
  rw [lp_eq]
  show lpK (lp F_Rd_readWord) (T_Rd_readWord_3 v0R v1I σ) = _
  unfold T_Rd_readWord_3
  simp only [lpK_ite, lq_inl, lq_inr, lpK_bnd, lpK_gd, lq_let]
  try rfl
set_option maxRecDepth 20000 in
theorem E_Rd_readWord_4 (v0R : Nat) (v1I : Int32) (σ : AM) : L_Rd_readWord_4 v0R v1I σ = (L_Rd_readWord_3 v0R (v1I + (1 : Int32)) σ) := by
  unfold L_Rd_readWord_4
  rw [lp_eq]
  show lpK (lp F_Rd_readWord) (T_Rd_readWord_4 v0R v1I σ) = _
  unfold T_Rd_readWord_4
  simp only [lpK_ite, lq_inl, lq_inr, lpK_bnd, lpK_gd, lq_let]
  try rfl
noncomputable def M_Rd_readWord (v0R : Nat) (σ : AM) : Option (Unit × AM) := mw σ (L_Rd_readWord_0 v0R σ)
def I_Rd_readWord (G : GX) (p : Program) (l : Launch) (e : Env) (s : State) (m : MethodId) (args : Array Value) (below : List Frame) (meth : Method) (c : Code) (z0 u0 n : Nat) : Prop :=
  (∀ (v0R : Nat) (σ : AM), VX (QM eV G args s below z0 u0) G p l e s m args below meth c 1 z0 u0 2 (lpn F_Rd_readWord n (0, v0R, 0, σ)) 0 [(0, .ref v0R)] [] σ) ∧
  (∀ (v0R : Nat) (v1I : Int32) (σ : AM), VX (QM eV G args s below z0 u0) G p l e s m args below meth c 1 z0 u0 2 (lpn F_Rd_readWord n (1, v0R, v1I, σ)) 7 [(0, .ref v0R), (1, .int v1I)] [] σ) ∧
  (∀ (v0R : Nat) (σ : AM), VX (QM eV G args s below z0 u0) G p l e s m args below meth c 1 z0 u0 2 (lpn F_Rd_readWord n (2, v0R, 0, σ)) 78 [(0, .ref v0R)] [] σ) ∧
  (∀ (v0R : Nat) (v1I : Int32) (σ : AM), VX (QM eV G args s below z0 u0) G p l e s m args below meth c 1 z0 u0 2 (lpn F_Rd_readWord n (3, v0R, v1I, σ)) 105 [(0, .ref v0R), (1, .int v1I)] [] σ) ∧
  (∀ (v0R : Nat) (v1I : Int32) (σ : AM), VX (QM eV G args s below z0 u0) G p l e s m args below meth c 1 z0 u0 2 (lpn F_Rd_readWord n (4, v0R, v1I, σ)) 133 [(0, .ref v0R), (1, .int v1I)] [] σ)
set_option maxRecDepth 20000 in
theorem s_Rd_readWord_0 {G : GX} {p : Program} {l : Launch} {e : Env} {s : State} {m : MethodId} {args : Array Value} {below : List Frame} {meth : Method} {c : Code} {z0 u0 n : Nat} (C : Cx G p s m args meth c prog_9_method_8_code 2 "BellPlate$Reader" ((none))) (IH : I_Rd_readWord G p l e s m args below meth c z0 u0 n) (v0R : Nat) (σ : AM) : VX (QM eV G args s below z0 u0) G p l e s m args below meth c 1 z0 u0 2 (lpK (lpn F_Rd_readWord n) (T_Rd_readWord_0 v0R σ)) 0 [(0, .ref v0R)] [] σ := by
  unfold T_Rd_readWord_0
  refine x_aload_n C d_Rd_readWord_0 0 rfl ?_
  refine x_lconst (v := (0 : Int64)) C d_Rd_readWord_1 (by decide) ?_
  refine x_gd (fun h1 => ?_)
  refine x_putJ (k := 7) C (okO_iff.mp h1) rfl j1_ok y1_ok n1_ok (by decide) rfl rfl rfl rfl w211 d_Rd_readWord_2 ?_
  refine x_letS (fun σ2 e3 => ?_)
  refine x_iconst (v := (0 : Int32)) C d_Rd_readWord_5 (by decide) ?_
  refine x_istore_n (lv' := [(1, .int (0 : Int32)), (0, .ref v0R)]) C d_Rd_readWord_6 (by decide) rfl rfl ?_
  refine x_lv [1, 0] rfl ?_
  exact IH.2.1 v0R ((0 : Int32)) (σ2)
set_option maxRecDepth 20000 in
theorem s_Rd_readWord_1 {G : GX} {p : Program} {l : Launch} {e : Env} {s : State} {m : MethodId} {args : Array Value} {below : List Frame} {meth : Method} {c : Code} {z0 u0 n : Nat} (C : Cx G p s m args meth c prog_9_method_8_code 2 "BellPlate$Reader" ((none))) (IH : I_Rd_readWord G p l e s m args below meth c z0 u0 n) (v0R : Nat) (v1I : Int32) (σ : AM) : VX (QM eV G args s below z0 u0) G p l e s m args below meth c 1 z0 u0 2 (lpK (lpn F_Rd_readWord n) (T_Rd_readWord_1 v0R v1I σ)) 7 [(0, .ref v0R), (1, .int v1I)] [] σ := by
  unfold T_Rd_readWord_1
  refine x_iload_n C d_Rd_readWord_7 1 rfl ?_
  refine x_sipush (v := (1000 : Int32)) C d_Rd_readWord_8 (by decide) ?_
  refine x_icmp_ge (tgt := 78) C d_Rd_readWord_11 (by decide) (fun _ => ?_) (fun _ => ?_)
  · refine x_aload_n C d_Rd_readWord_14 0 rfl ?_
    refine x_gd (fun h1 => ?_)
    refine x_getI (k := 3) C (okO_iff.mp h1) rfl j1_ok (by decide) rfl w207 d_Rd_readWord_15 ?_
    refine x_aload_n C d_Rd_readWord_18 0 rfl ?_
    refine x_getI (k := 2) C (okO_iff.mp h1) rfl j1_ok (by decide) rfl w206 d_Rd_readWord_19 ?_
    refine x_icmp_ge (tgt := 78) C d_Rd_readWord_22 (by decide) (fun _ => ?_) (fun _ => ?_)
    · refine x_aload_n C d_Rd_readWord_25 0 rfl ?_
      refine x_gd (fun h2 => ?_)
      refine x_getR (k := 0) (kv := 104) C (okO_iff.mp h1) rfl j1_ok (by decide) rfl (okO_iff.mp h2) (by decide) w204 d_Rd_readWord_26 ?_
      refine x_aload_n C d_Rd_readWord_29 0 rfl ?_
      refine x_getI (k := 3) C (okO_iff.mp h1) rfl j1_ok (by decide) rfl w207 d_Rd_readWord_30 ?_
      refine x_gd (fun h3 => ?_)
      refine x_aldC C (okO_iff.mp h2) (inB_iff.mp h3) d_Rd_readWord_33 ?_
      refine x_callSI (As := [.int (aI σ (aR σ v0R 0) (aI σ v0R 3).toNatClampNeg)]) C (c_Rd_isLetter G l (aI σ (aR σ v0R 0) (aI σ v0R 3).toNatClampNeg) σ) w760 w759 w761 w121 k_Rd_isLetter rfl (by decide) (by decide) rfl (Nat.le_of_ble_eq_true rfl) d_Rd_readWord_34 (fun r4 σ5 => ?_)
      refine x_if_eq (tgt := 78) C d_Rd_readWord_37 (by decide) (fun _ => ?_) (fun _ => ?_)
      · refine x_lv [0] rfl ?_
        exact IH.2.2.1 v0R (σ5)
      · refine x_aload_n C d_Rd_readWord_40 0 rfl ?_
        refine x_aload_n C d_Rd_readWord_41 0 rfl ?_
        refine x_gd (fun h6 => ?_)
        refine x_getJ (k := 7) C (okO_iff.mp h6) rfl j1_ok (by decide) rfl w211 d_Rd_readWord_42 ?_
        refine x_bipush (v := (8 : Int32)) C d_Rd_readWord_45 (by decide) ?_
        refine x_lshl C d_Rd_readWord_47 ?_
        refine x_aload_n C d_Rd_readWord_48 0 rfl ?_
        refine x_gd (fun h7 => ?_)
        refine x_getR (k := 0) (kv := 104) C (okO_iff.mp h6) rfl j1_ok (by decide) rfl (okO_iff.mp h7) (by decide) w204 d_Rd_readWord_49 ?_
        refine x_aload_n C d_Rd_readWord_52 0 rfl ?_
        refine x_getI (k := 3) C (okO_iff.mp h6) rfl j1_ok (by decide) rfl w207 d_Rd_readWord_53 ?_
        refine x_gd (fun h8 => ?_)
        refine x_aldC C (okO_iff.mp h7) (inB_iff.mp h8) d_Rd_readWord_56 ?_
        refine x_i2l C d_Rd_readWord_57 ?_
        refine x_lor C d_Rd_readWord_58 ?_
        refine x_putJ (k := 7) C (okO_iff.mp h6) rfl j1_ok y1_ok n1_ok (by decide) rfl rfl rfl rfl w211 d_Rd_readWord_59 ?_
        refine x_letS (fun σ9 e10 => ?_)
        refine x_aload_n C d_Rd_readWord_62 0 rfl ?_
        refine x_dup C d_Rd_readWord_63 rfl ?_
        refine x_getI (k := 3) C (by first | exact (okO_iff.mp h6) | (rw [e10]; exact (okO_iff.mp h6))) rfl j1_ok (by decide) rfl w207 d_Rd_readWord_64 ?_
        refine x_iconst (v := (1 : Int32)) C d_Rd_readWord_67 (by decide) ?_
        refine x_iadd C d_Rd_readWord_68 ?_
        refine x_putI (k := 3) C (by first | exact (okO_iff.mp h6) | (rw [e10]; exact (okO_iff.mp h6))) rfl j1_ok y1_ok n1_ok (by decide) rfl rfl rfl rfl w207 d_Rd_readWord_69 ?_
        refine x_letS (fun σ11 e12 => ?_)
        refine x_iinc (v := v1I + (1 : Int32)) (lv' := [(1, .int (v1I + (1 : Int32))), (0, .ref v0R)]) C d_Rd_readWord_72 1 rfl rfl (by decide) rfl ?_
        refine x_goto (tgt := 7) C d_Rd_readWord_75 (by decide) ?_
        refine x_lv [1, 0] rfl ?_
        exact IH.2.1 v0R (v1I + (1 : Int32)) (σ11)
    · refine x_lv [0] rfl ?_
      exact IH.2.2.1 v0R (σ)
  · refine x_lv [0] rfl ?_
    exact IH.2.2.1 v0R (σ)
set_option maxRecDepth 20000 in
theorem s_Rd_readWord_2 {G : GX} {p : Program} {l : Launch} {e : Env} {s : State} {m : MethodId} {args : Array Value} {below : List Frame} {meth : Method} {c : Code} {z0 u0 n : Nat} (C : Cx G p s m args meth c prog_9_method_8_code 2 "BellPlate$Reader" ((none))) (IH : I_Rd_readWord G p l e s m args below meth c z0 u0 n) (v0R : Nat) (σ : AM) : VX (QM eV G args s below z0 u0) G p l e s m args below meth c 1 z0 u0 2 (lpK (lpn F_Rd_readWord n) (T_Rd_readWord_2 v0R σ)) 78 [(0, .ref v0R)] [] σ := by
  unfold T_Rd_readWord_2
  refine x_aload_n C d_Rd_readWord_78 0 rfl ?_
  refine x_gd (fun h1 => ?_)
  refine x_getI (k := 3) C (okO_iff.mp h1) rfl j1_ok (by decide) rfl w207 d_Rd_readWord_79 ?_
  refine x_aload_n C d_Rd_readWord_82 0 rfl ?_
  refine x_getI (k := 5) C (okO_iff.mp h1) rfl j1_ok (by decide) rfl w209 d_Rd_readWord_83 ?_
  refine x_isub C d_Rd_readWord_86 ?_
  refine x_bipush (v := (8 : Int32)) C d_Rd_readWord_87 (by decide) ?_
  refine x_icmp_le (tgt := 98) C d_Rd_readWord_89 (by decide) (fun _ => ?_) (fun _ => ?_)
  · refine x_aload_n C d_Rd_readWord_92 0 rfl ?_
    refine x_iconst (v := (1 : Int32)) C d_Rd_readWord_93 (by decide) ?_
    refine x_putI (k := 4) C (okO_iff.mp h1) rfl j1_ok y1_ok n1_ok (by decide) rfl rfl rfl rfl w208 d_Rd_readWord_94 ?_
    refine x_letS (fun σ2 e3 => ?_)
    exact x_vret C d_Rd_readWord_97
  · refine x_aload_n C d_Rd_readWord_98 0 rfl ?_
    refine x_iconst (v := (3 : Int32)) C d_Rd_readWord_99 (by decide) ?_
    refine x_putI (k := 4) C (okO_iff.mp h1) rfl j1_ok y1_ok n1_ok (by decide) rfl rfl rfl rfl w208 d_Rd_readWord_100 ?_
    refine x_letS (fun σ4 e5 => ?_)
    refine x_iconst (v := (0 : Int32)) C d_Rd_readWord_103 (by decide) ?_
    refine x_istore_n (lv' := [(1, .int (0 : Int32)), (0, .ref v0R)]) C d_Rd_readWord_104 (by decide) rfl rfl ?_
    refine x_lv [1, 0] rfl ?_
    exact IH.2.2.2.1 v0R ((0 : Int32)) (σ4)
set_option maxRecDepth 20000 in
theorem s_Rd_readWord_3 {G : GX} {p : Program} {l : Launch} {e : Env} {s : State} {m : MethodId} {args : Array Value} {below : List Frame} {meth : Method} {c : Code} {z0 u0 n : Nat} (C : Cx G p s m args meth c prog_9_method_8_code 2 "BellPlate$Reader" ((none))) (IH : I_Rd_readWord G p l e s m args below meth c z0 u0 n) (v0R : Nat) (v1I : Int32) (σ : AM) : VX (QM eV G args s below z0 u0) G p l e s m args below meth c 1 z0 u0 2 (lpK (lpn F_Rd_readWord n) (T_Rd_readWord_3 v0R v1I σ)) 105 [(0, .ref v0R), (1, .int v1I)] [] σ := by
  unfold T_Rd_readWord_3
  refine x_iload_n C d_Rd_readWord_105 1 rfl ?_
  refine x_gs0 C w766 d_Rd_readWord_106 ?_
  refine x_sn0 C d_Rd_readWord_109 ?_
  refine x_icmp_ge (tgt := 139) C d_Rd_readWord_110 (by decide) (fun _ => ?_) (fun _ => ?_)
  · refine x_gs0 C w766 d_Rd_readWord_113 ?_
    refine x_iload_n C d_Rd_readWord_116 1 rfl ?_
    refine x_gd (fun h1 => ?_)
    refine x_sl0 C (inB_iff.mp h1) d_Rd_readWord_117 ?_
    refine x_aload_n C d_Rd_readWord_118 0 rfl ?_
    refine x_gd (fun h2 => ?_)
    refine x_getJ (k := 7) C (okO_iff.mp h2) rfl j1_ok (by decide) rfl w211 d_Rd_readWord_119 ?_
    refine x_lcmp C d_Rd_readWord_122 ?_
    refine x_if_ne (tgt := 133) C d_Rd_readWord_123 (by decide) (fun _ => ?_) (fun _ => ?_)
    · refine x_aload_n C d_Rd_readWord_126 0 rfl ?_
      refine x_iconst (v := (4 : Int32)) C d_Rd_readWord_127 (by decide) ?_
      refine x_iload_n C d_Rd_readWord_128 1 rfl ?_
      refine x_iadd C d_Rd_readWord_129 ?_
      refine x_putI (k := 4) C (okO_iff.mp h2) rfl j1_ok y1_ok n1_ok (by decide) rfl rfl rfl rfl w208 d_Rd_readWord_130 ?_
      refine x_letS (fun σ3 e4 => ?_)
      exact IH.2.2.2.2 v0R v1I (σ3)
    · exact IH.2.2.2.2 v0R v1I (σ)
  · exact x_vret C d_Rd_readWord_139
set_option maxRecDepth 20000 in
theorem s_Rd_readWord_4 {G : GX} {p : Program} {l : Launch} {e : Env} {s : State} {m : MethodId} {args : Array Value} {below : List Frame} {meth : Method} {c : Code} {z0 u0 n : Nat} (C : Cx G p s m args meth c prog_9_method_8_code 2 "BellPlate$Reader" ((none))) (IH : I_Rd_readWord G p l e s m args below meth c z0 u0 n) (v0R : Nat) (v1I : Int32) (σ : AM) : VX (QM eV G args s below z0 u0) G p l e s m args below meth c 1 z0 u0 2 (lpK (lpn F_Rd_readWord n) (T_Rd_readWord_4 v0R v1I σ)) 133 [(0, .ref v0R), (1, .int v1I)] [] σ := by
  unfold T_Rd_readWord_4
  refine x_iinc (v := v1I + (1 : Int32)) (lv' := [(1, .int (v1I + (1 : Int32))), (0, .ref v0R)]) C d_Rd_readWord_133 1 rfl rfl (by decide) rfl ?_
  refine x_goto (tgt := 105) C d_Rd_readWord_136 (by decide) ?_
  refine x_lv [1, 0] rfl ?_
  exact IH.2.2.2.1 v0R (v1I + (1 : Int32)) (σ)
theorem i_Rd_readWord {G : GX} {p : Program} {l : Launch} {e : Env} {s : State} {m : MethodId} {args : Array Value} {below : List Frame} {meth : Method} {c : Code} {z0 u0 : Nat} (C : Cx G p s m args meth c prog_9_method_8_code 2 "BellPlate$Reader" ((none))) (n : Nat) : I_Rd_readWord G p l e s m args below meth c z0 u0 n := by
  induction n with
  | zero => exact ⟨fun _ _ => x_none, fun _ _ _ => x_none, fun _ _ => x_none, fun _ _ _ => x_none, fun _ _ _ => x_none⟩
  | succ n IH => exact ⟨fun v0R σ => s_Rd_readWord_0 C IH v0R σ, fun v0R v1I σ => s_Rd_readWord_1 C IH v0R v1I σ, fun v0R σ => s_Rd_readWord_2 C IH v0R σ, fun v0R v1I σ => s_Rd_readWord_3 C IH v0R v1I σ, fun v0R v1I σ => s_Rd_readWord_4 C IH v0R v1I σ⟩
theorem c_Rd_readWord (G : GX) (l : Launch) (v0R : Nat) (σ : AM) : CT eV G l 1 y_Rd_readWord prog_9_method_8_code 2 (none) [.ref v0R] σ (M_Rd_readWord v0R σ) := by
  refine ct_of (by decide +kernel) (Nat.le_of_ble_eq_true rfl) (fun p e s m args below meth c C hin => ?_)
  refine x_lve (lv' := [(0, .ref v0R)]) rfl ?_
  intro r σ' h
  obtain ⟨n, hn⟩ := (lp_iff _ _ _).mp h
  exact (i_Rd_readWord C n).1 v0R σ r σ' hn
/-! BellPlate$Reader.isDigit(C)Z -/
abbrev y_Rd_isDigit : MethodName := ⟨"BellPlate$Reader", "isDigit", "(C)Z"⟩
theorem k_Rd_isDigit : y_Rd_isDigit.cls ≠ "java/lang/invoke/MethodHandle" ∧ y_Rd_isDigit.cls ≠ "java/lang/invoke/VarHandle" ∧ (parseMethodDescriptor y_Rd_isDigit.desc).map (fun d => d.parameters.length) = some 1 := by decide +kernel
theorem d_Rd_isDigit_0 : decode prog_9_method_12_code 0 = .ok (.iload_n 0, 1) := by decide +kernel
theorem d_Rd_isDigit_1 : decode prog_9_method_12_code 1 = .ok (.bipush 48, 2) := by decide +kernel
theorem d_Rd_isDigit_3 : decode prog_9_method_12_code 3 = .ok (.if_icmp .lt 13, 3) := by decide +kernel
theorem d_Rd_isDigit_6 : decode prog_9_method_12_code 6 = .ok (.iload_n 0, 1) := by decide +kernel
theorem d_Rd_isDigit_7 : decode prog_9_method_12_code 7 = .ok (.bipush 57, 2) := by decide +kernel
theorem d_Rd_isDigit_9 : decode prog_9_method_12_code 9 = .ok (.if_icmp .gt 7, 3) := by decide +kernel
theorem d_Rd_isDigit_12 : decode prog_9_method_12_code 12 = .ok (.iconst 1, 1) := by decide +kernel
theorem d_Rd_isDigit_13 : decode prog_9_method_12_code 13 = .ok (.goto 4, 3) := by decide +kernel
theorem d_Rd_isDigit_16 : decode prog_9_method_12_code 16 = .ok (.iconst 0, 1) := by decide +kernel
theorem d_Rd_isDigit_17 : decode prog_9_method_12_code 17 = .ok (.ireturn, 1) := by decide +kernel
abbrev S_Rd_isDigit : Type := Nat × Int32 × Int32 × AM
noncomputable def T_Rd_isDigit_0 (v0I : Int32) (σ : AM) : S_Rd_isDigit ⊕ Option (Int32 × AM) :=
  if v0I < (48 : Int32) then (.inl (1, 0, 0, σ)) else (if (57 : Int32) < v0I then (.inl (1, 0, 0, σ)) else (.inl (2, 0, (1 : Int32), σ)))
noncomputable def T_Rd_isDigit_1  (σ : AM) : S_Rd_isDigit ⊕ Option (Int32 × AM) :=
  .inl (2, 0, (0 : Int32), σ)
noncomputable def T_Rd_isDigit_2 (s0I : Int32) (σ : AM) : S_Rd_isDigit ⊕ Option (Int32 × AM) :=
  gdT (isB s0I) <| .inr (some (s0I, σ))
noncomputable def F_Rd_isDigit : S_Rd_isDigit → S_Rd_isDigit ⊕ Option (Int32 × AM) := fun s => match s.1 with
  | 0 => T_Rd_isDigit_0 (s.2.1) (s.2.2.2)
  | 1 => T_Rd_isDigit_1  (s.2.2.2)
  | _ => T_Rd_isDigit_2 (s.2.2.1) (s.2.2.2)
noncomputable def L_Rd_isDigit_0 (v0I : Int32) (σ : AM) : Option (Int32 × AM) := lp F_Rd_isDigit (0, v0I, 0, σ)
noncomputable def L_Rd_isDigit_1  (σ : AM) : Option (Int32 × AM) := lp F_Rd_isDigit (1, 0, 0, σ)
noncomputable def L_Rd_isDigit_2 (s0I : Int32) (σ : AM) : Option (Int32 × AM) := lp F_Rd_isDigit (2, 0, s0I, σ)
set_option maxRecDepth 20000 in
theorem E_Rd_isDigit_0 (v0I : Int32) (σ : AM) : L_Rd_isDigit_0 v0I σ = (if v0I < (48 : Int32) then (L_Rd_isDigit_1 σ) else (if (57 : Int32) < v0I then (L_Rd_isDigit_1 σ) else (L_Rd_isDigit_2 ((1 : Int32)) σ))) := by
  unfold L_Rd_isDigit_0
  rw [lp_eq]
  show lpK (lp F_Rd_isDigit) (T_Rd_isDigit_0 v0I σ) = _
  unfold T_Rd_isDigit_0
  simp only [lpK_ite, lq_inl, lq_inr, lpK_bnd, lpK_gd, lq_let]
  try rfl
set_option maxRecDepth 20000 in
theorem E_Rd_isDigit_1  (σ : AM) : L_Rd_isDigit_1  σ = (L_Rd_isDigit_2 ((0 : Int32)) σ) := by
  unfold L_Rd_isDigit_1
  rw [lp_eq]
  show lpK (lp F_Rd_isDigit) (T_Rd_isDigit_1  σ) = _
  unfold T_Rd_isDigit_1
  simp only [lpK_ite, lq_inl, lq_inr, lpK_bnd, lpK_gd, lq_let]
  try rfl
set_option maxRecDepth 20000 in
theorem E_Rd_isDigit_2 (s0I : Int32) (σ : AM) : L_Rd_isDigit_2 s0I σ = (gd (isB s0I) <| (some (s0I, σ))) := by
  unfold L_Rd_isDigit_2
  rw [lp_eq]
  show lpK (lp F_Rd_isDigit) (T_Rd_isDigit_2 s0I σ) = _
  unfold T_Rd_isDigit_2
  simp only [lpK_ite, lq_inl, lq_inr, lpK_bnd, lpK_gd, lq_let]
  try rfl
noncomputable def M_Rd_isDigit (v0I : Int32) (σ : AM) : Option (Int32 × AM) := mw σ (L_Rd_isDigit_0 v0I σ)
def I_Rd_isDigit (G : GX) (p : Program) (l : Launch) (e : Env) (s : State) (m : MethodId) (args : Array Value) (below : List Frame) (meth : Method) (c : Code) (z0 u0 n : Nat) : Prop :=
  (∀ (v0I : Int32) (σ : AM), VX (QM eI G args s below z0 u0) G p l e s m args below meth c 0 z0 u0 1 (lpn F_Rd_isDigit n (0, v0I, 0, σ)) 0 [(0, .int v0I)] [] σ) ∧
  (∀ (σ : AM), VX (QM eI G args s below z0 u0) G p l e s m args below meth c 0 z0 u0 1 (lpn F_Rd_isDigit n (1, 0, 0, σ)) 16 [] [] σ) ∧
  (∀ (s0I : Int32) (σ : AM), VX (QM eI G args s below z0 u0) G p l e s m args below meth c 0 z0 u0 1 (lpn F_Rd_isDigit n (2, 0, s0I, σ)) 17 [] [.int s0I] σ)
set_option maxRecDepth 20000 in
theorem s_Rd_isDigit_0 {G : GX} {p : Program} {l : Launch} {e : Env} {s : State} {m : MethodId} {args : Array Value} {below : List Frame} {meth : Method} {c : Code} {z0 u0 n : Nat} (C : Cx G p s m args meth c prog_9_method_12_code 1 "BellPlate$Reader" ((some FieldType.boolean))) (IH : I_Rd_isDigit G p l e s m args below meth c z0 u0 n) (v0I : Int32) (σ : AM) : VX (QM eI G args s below z0 u0) G p l e s m args below meth c 0 z0 u0 1 (lpK (lpn F_Rd_isDigit n) (T_Rd_isDigit_0 v0I σ)) 0 [(0, .int v0I)] [] σ := by
  unfold T_Rd_isDigit_0
  refine x_iload_n C d_Rd_isDigit_0 0 rfl ?_
  refine x_bipush (v := (48 : Int32)) C d_Rd_isDigit_1 (by decide) ?_
  refine x_icmp_lt (tgt := 16) C d_Rd_isDigit_3 (by decide) (fun _ => ?_) (fun _ => ?_)
  · refine x_lv [] rfl ?_
    exact IH.2.1  (σ)
  · refine x_iload_n C d_Rd_isDigit_6 0 rfl ?_
    refine x_bipush (v := (57 : Int32)) C d_Rd_isDigit_7 (by decide) ?_
    refine x_icmp_gt (tgt := 16) C d_Rd_isDigit_9 (by decide) (fun _ => ?_) (fun _ => ?_)
    · refine x_lv [] rfl ?_
      exact IH.2.1  (σ)
    · refine x_iconst (v := (1 : Int32)) C d_Rd_isDigit_12 (by decide) ?_
      refine x_goto (tgt := 17) C d_Rd_isDigit_13 (by decide) ?_
      refine x_lv [] rfl ?_
      exact IH.2.2 ((1 : Int32)) (σ)
set_option maxRecDepth 20000 in
theorem s_Rd_isDigit_1 {G : GX} {p : Program} {l : Launch} {e : Env} {s : State} {m : MethodId} {args : Array Value} {below : List Frame} {meth : Method} {c : Code} {z0 u0 n : Nat} (C : Cx G p s m args meth c prog_9_method_12_code 1 "BellPlate$Reader" ((some FieldType.boolean))) (IH : I_Rd_isDigit G p l e s m args below meth c z0 u0 n)  (σ : AM) : VX (QM eI G args s below z0 u0) G p l e s m args below meth c 0 z0 u0 1 (lpK (lpn F_Rd_isDigit n) (T_Rd_isDigit_1  σ)) 16 [] [] σ := by
  unfold T_Rd_isDigit_1
  refine x_iconst (v := (0 : Int32)) C d_Rd_isDigit_16 (by decide) ?_
  exact IH.2.2 ((0 : Int32)) (σ)
set_option maxRecDepth 20000 in
theorem s_Rd_isDigit_2 {G : GX} {p : Program} {l : Launch} {e : Env} {s : State} {m : MethodId} {args : Array Value} {below : List Frame} {meth : Method} {c : Code} {z0 u0 n : Nat} (C : Cx G p s m args meth c prog_9_method_12_code 1 "BellPlate$Reader" ((some FieldType.boolean))) (IH : I_Rd_isDigit G p l e s m args below meth c z0 u0 n) (s0I : Int32) (σ : AM) : VX (QM eI G args s below z0 u0) G p l e s m args below meth c 0 z0 u0 1 (lpK (lpn F_Rd_isDigit n) (T_Rd_isDigit_2 s0I σ)) 17 [] [.int s0I] σ := by
  unfold T_Rd_isDigit_2
  refine x_gd (fun h1 => ?_)
  exact x_zret C (isB_narrow h1) d_Rd_isDigit_17
theorem i_Rd_isDigit {G : GX} {p : Program} {l : Launch} {e : Env} {s : State} {m : MethodId} {args : Array Value} {below : List Frame} {meth : Method} {c : Code} {z0 u0 : Nat} (C : Cx G p s m args meth c prog_9_method_12_code 1 "BellPlate$Reader" ((some FieldType.boolean))) (n : Nat) : I_Rd_isDigit G p l e s m args below meth c z0 u0 n := by
  induction n with
  | zero => exact ⟨fun _ _ => x_none, fun _ => x_none, fun _ _ => x_none⟩
  | succ n IH => exact ⟨fun v0I σ => s_Rd_isDigit_0 C IH v0I σ, fun σ => s_Rd_isDigit_1 C IH σ, fun s0I σ => s_Rd_isDigit_2 C IH s0I σ⟩
theorem c_Rd_isDigit (G : GX) (l : Launch) (v0I : Int32) (σ : AM) : CT eI G l 0 y_Rd_isDigit prog_9_method_12_code 1 ((some FieldType.boolean)) [.int v0I] σ (M_Rd_isDigit v0I σ) := by
  refine ct_of (by decide +kernel) (Nat.le_of_ble_eq_true rfl) (fun p e s m args below meth c C hin => ?_)
  refine x_lve (lv' := [(0, .int v0I)]) rfl ?_
  intro r σ' h
  obtain ⟨n, hn⟩ := (lp_iff _ _ _).mp h
  exact (i_Rd_isDigit C n).1 v0I σ r σ' hn
/-! BellPlate$Reader.readNumber()V -/
abbrev y_Rd_readNumber : MethodName := ⟨"BellPlate$Reader", "readNumber", "()V"⟩
theorem k_Rd_readNumber : y_Rd_readNumber.cls ≠ "java/lang/invoke/MethodHandle" ∧ y_Rd_readNumber.cls ≠ "java/lang/invoke/VarHandle" ∧ (parseMethodDescriptor y_Rd_readNumber.desc).map (fun d => d.parameters.length) = some 0 := by decide +kernel
theorem d_Rd_readNumber_0 : decode prog_9_method_9_code 0 = .ok (.aload_n 0, 1) := by decide +kernel
theorem d_Rd_readNumber_1 : decode prog_9_method_9_code 1 = .ok (.iconst 0, 1) := by decide +kernel
theorem d_Rd_readNumber_2 : decode prog_9_method_9_code 2 = .ok (.putfield 111, 3) := by decide +kernel
theorem d_Rd_readNumber_5 : decode prog_9_method_9_code 5 = .ok (.iconst 0, 1) := by decide +kernel
theorem d_Rd_readNumber_6 : decode prog_9_method_9_code 6 = .ok (.istore_n 1, 1) := by decide +kernel
theorem d_Rd_readNumber_7 : decode prog_9_method_9_code 7 = .ok (.iload_n 1, 1) := by decide +kernel
theorem d_Rd_readNumber_8 : decode prog_9_method_9_code 8 = .ok (.sipush 1000, 3) := by decide +kernel
theorem d_Rd_readNumber_11 : decode prog_9_method_9_code 11 = .ok (.if_icmp .ge 69, 3) := by decide +kernel
theorem d_Rd_readNumber_14 : decode prog_9_method_9_code 14 = .ok (.aload_n 0, 1) := by decide +kernel
theorem d_Rd_readNumber_15 : decode prog_9_method_9_code 15 = .ok (.getfield 28, 3) := by decide +kernel
theorem d_Rd_readNumber_18 : decode prog_9_method_9_code 18 = .ok (.aload_n 0, 1) := by decide +kernel
theorem d_Rd_readNumber_19 : decode prog_9_method_9_code 19 = .ok (.getfield 22, 3) := by decide +kernel
theorem d_Rd_readNumber_22 : decode prog_9_method_9_code 22 = .ok (.if_icmp .ge 58, 3) := by decide +kernel
theorem d_Rd_readNumber_25 : decode prog_9_method_9_code 25 = .ok (.aload_n 0, 1) := by decide +kernel
theorem d_Rd_readNumber_26 : decode prog_9_method_9_code 26 = .ok (.getfield 11, 3) := by decide +kernel
theorem d_Rd_readNumber_29 : decode prog_9_method_9_code 29 = .ok (.aload_n 0, 1) := by decide +kernel
theorem d_Rd_readNumber_30 : decode prog_9_method_9_code 30 = .ok (.getfield 28, 3) := by decide +kernel
theorem d_Rd_readNumber_33 : decode prog_9_method_9_code 33 = .ok (.caload, 1) := by decide +kernel
theorem d_Rd_readNumber_34 : decode prog_9_method_9_code 34 = .ok (.invokestatic 89, 3) := by decide +kernel
theorem d_Rd_readNumber_37 : decode prog_9_method_9_code 37 = .ok (.ifCond .eq 43, 3) := by decide +kernel
theorem d_Rd_readNumber_40 : decode prog_9_method_9_code 40 = .ok (.aload_n 0, 1) := by decide +kernel
theorem d_Rd_readNumber_41 : decode prog_9_method_9_code 41 = .ok (.aload_n 0, 1) := by decide +kernel
theorem d_Rd_readNumber_42 : decode prog_9_method_9_code 42 = .ok (.getfield 111, 3) := by decide +kernel
theorem d_Rd_readNumber_45 : decode prog_9_method_9_code 45 = .ok (.bipush 10, 2) := by decide +kernel
theorem d_Rd_readNumber_47 : decode prog_9_method_9_code 47 = .ok (.imul, 1) := by decide +kernel
theorem d_Rd_readNumber_48 : decode prog_9_method_9_code 48 = .ok (.aload_n 0, 1) := by decide +kernel
theorem d_Rd_readNumber_49 : decode prog_9_method_9_code 49 = .ok (.getfield 11, 3) := by decide +kernel
theorem d_Rd_readNumber_52 : decode prog_9_method_9_code 52 = .ok (.aload_n 0, 1) := by decide +kernel
theorem d_Rd_readNumber_53 : decode prog_9_method_9_code 53 = .ok (.getfield 28, 3) := by decide +kernel
theorem d_Rd_readNumber_56 : decode prog_9_method_9_code 56 = .ok (.caload, 1) := by decide +kernel
theorem d_Rd_readNumber_57 : decode prog_9_method_9_code 57 = .ok (.bipush 48, 2) := by decide +kernel
theorem d_Rd_readNumber_59 : decode prog_9_method_9_code 59 = .ok (.isub, 1) := by decide +kernel
theorem d_Rd_readNumber_60 : decode prog_9_method_9_code 60 = .ok (.iadd, 1) := by decide +kernel
theorem d_Rd_readNumber_61 : decode prog_9_method_9_code 61 = .ok (.putfield 111, 3) := by decide +kernel
theorem d_Rd_readNumber_64 : decode prog_9_method_9_code 64 = .ok (.aload_n 0, 1) := by decide +kernel
theorem d_Rd_readNumber_65 : decode prog_9_method_9_code 65 = .ok (.dup, 1) := by decide +kernel
theorem d_Rd_readNumber_66 : decode prog_9_method_9_code 66 = .ok (.getfield 28, 3) := by decide +kernel
theorem d_Rd_readNumber_69 : decode prog_9_method_9_code 69 = .ok (.iconst 1, 1) := by decide +kernel
theorem d_Rd_readNumber_70 : decode prog_9_method_9_code 70 = .ok (.iadd, 1) := by decide +kernel
theorem d_Rd_readNumber_71 : decode prog_9_method_9_code 71 = .ok (.putfield 28, 3) := by decide +kernel
theorem d_Rd_readNumber_74 : decode prog_9_method_9_code 74 = .ok (.iinc 1 1, 3) := by decide +kernel
theorem d_Rd_readNumber_77 : decode prog_9_method_9_code 77 = .ok (.goto (-70), 3) := by decide +kernel
theorem d_Rd_readNumber_80 : decode prog_9_method_9_code 80 = .ok (.aload_n 0, 1) := by decide +kernel
theorem d_Rd_readNumber_81 : decode prog_9_method_9_code 81 = .ok (.aload_n 0, 1) := by decide +kernel
theorem d_Rd_readNumber_82 : decode prog_9_method_9_code 82 = .ok (.getfield 28, 3) := by decide +kernel
theorem d_Rd_readNumber_85 : decode prog_9_method_9_code 85 = .ok (.aload_n 0, 1) := by decide +kernel
theorem d_Rd_readNumber_86 : decode prog_9_method_9_code 86 = .ok (.getfield 76, 3) := by decide +kernel
theorem d_Rd_readNumber_89 : decode prog_9_method_9_code 89 = .ok (.isub, 1) := by decide +kernel
theorem d_Rd_readNumber_90 : decode prog_9_method_9_code 90 = .ok (.iconst 4, 1) := by decide +kernel
theorem d_Rd_readNumber_91 : decode prog_9_method_9_code 91 = .ok (.if_icmp .le 7, 3) := by decide +kernel
theorem d_Rd_readNumber_94 : decode prog_9_method_9_code 94 = .ok (.iconst 1, 1) := by decide +kernel
theorem d_Rd_readNumber_95 : decode prog_9_method_9_code 95 = .ok (.goto 4, 3) := by decide +kernel
theorem d_Rd_readNumber_98 : decode prog_9_method_9_code 98 = .ok (.iconst 2, 1) := by decide +kernel
theorem d_Rd_readNumber_99 : decode prog_9_method_9_code 99 = .ok (.putfield 50, 3) := by decide +kernel
theorem d_Rd_readNumber_102 : decode prog_9_method_9_code 102 = .ok (.return_, 1) := by decide +kernel
abbrev S_Rd_readNumber : Type := Nat × Nat × Int32 × Nat × Int32 × AM
noncomputable def T_Rd_readNumber_0 (v0R : Nat) (σ : AM) : S_Rd_readNumber ⊕ Option (Unit × AM) :=
  gdT (okO σ v0R 2) <| letT (sI σ v0R 6 (0 : Int32)) fun σ2 => .inl (1, v0R, (0 : Int32), 0, 0, σ2)
noncomputable def T_Rd_readNumber_1 (v0R : Nat) (v1I : Int32) (σ : AM) : S_Rd_readNumber ⊕ Option (Unit × AM) :=
  if v1I < (1000 : Int32) then (gdT (okO σ v0R 2) <| if (aI σ v0R 3) < (aI σ v0R 2) then (gdT (okO σ (aR σ v0R 0) 104) <| gdT (inB (aI σ v0R 3) (aN σ (aR σ v0R 0))) <| bndT (M_Rd_isDigit (aI σ (aR σ v0R 0) (aI σ v0R 3).toNatClampNeg) σ) fun r4 σ5 => if r4 = 0 then (.inl (2, v0R, 0, 0, 0, σ5)) else (gdT (okO σ5 v0R 2) <| gdT (okO σ5 (aR σ5 v0R 0) 104) <| gdT (inB (aI σ5 v0R 3) (aN σ5 (aR σ5 v0R 0))) <| letT (sI σ5 v0R 6 (((aI σ5 v0R 6) * (10 : Int32)) + ((aI σ5 (aR σ5 v0R 0) (aI σ5 v0R 3).toNatClampNeg) - (48 : Int32)))) fun σ9 => letT (sI σ9 v0R 3 ((aI σ9 v0R 3) + (1 : Int32))) fun σ11 => .inl (1, v0R, v1I + (1 : Int32), 0, 0, σ11))) else (.inl (2, v0R, 0, 0, 0, σ))) else (.inl (2, v0R, 0, 0, 0, σ))
noncomputable def T_Rd_readNumber_2 (v0R : Nat) (σ : AM) : S_Rd_readNumber ⊕ Option (Unit × AM) :=
  gdT (okO σ v0R 2) <| if (4 : Int32) < ((aI σ v0R 3) - (aI σ v0R 5)) then (.inl (3, 0, 0, v0R, (1 : Int32), σ)) else (.inl (3, 0, 0, v0R, (2 : Int32), σ))
noncomputable def T_Rd_readNumber_3 (s0R : Nat) (s1I : Int32) (σ : AM) : S_Rd_readNumber ⊕ Option (Unit × AM) :=
  gdT (okO σ s0R 2) <| letT (sI σ s0R 4 s1I) fun σ2 => .inr (some ((), σ2))
noncomputable def F_Rd_readNumber : S_Rd_readNumber → S_Rd_readNumber ⊕ Option (Unit × AM) := fun s => match s.1 with
  | 0 => T_Rd_readNumber_0 (s.2.1) (s.2.2.2.2.2)
  | 1 => T_Rd_readNumber_1 (s.2.1) (s.2.2.1) (s.2.2.2.2.2)
  | 2 => T_Rd_readNumber_2 (s.2.1) (s.2.2.2.2.2)
  | _ => T_Rd_readNumber_3 (s.2.2.2.1) (s.2.2.2.2.1) (s.2.2.2.2.2)
noncomputable def L_Rd_readNumber_0 (v0R : Nat) (σ : AM) : Option (Unit × AM) := lp F_Rd_readNumber (0, v0R, 0, 0, 0, σ)
noncomputable def L_Rd_readNumber_1 (v0R : Nat) (v1I : Int32) (σ : AM) : Option (Unit × AM) := lp F_Rd_readNumber (1, v0R, v1I, 0, 0, σ)
noncomputable def L_Rd_readNumber_2 (v0R : Nat) (σ : AM) : Option (Unit × AM) := lp F_Rd_readNumber (2, v0R, 0, 0, 0, σ)
noncomputable def L_Rd_readNumber_3 (s0R : Nat) (s1I : Int32) (σ : AM) : Option (Unit × AM) := lp F_Rd_readNumber (3, 0, 0, s0R, s1I, σ)
set_option maxRecDepth 20000 in
theorem E_Rd_readNumber_0 (v0R : Nat) (σ : AM) : L_Rd_readNumber_0 v0R σ = (gd (okO σ v0R 2) <| letT (sI σ v0R 6 (0 : Int32)) fun σ2 => L_Rd_readNumber_1 v0R ((0 : Int32)) σ2) := by
  unfold L_Rd_readNumber_0
  rw [lp_eq]
  show lpK (lp F_Rd_readNumber) (T_Rd_readNumber_0 v0R σ) = _
  unfold T_Rd_readNumber_0
  simp only [lpK_ite, lq_inl, lq_inr, lpK_bnd, lpK_gd, lq_let]
  try rfl
set_option maxRecDepth 20000 in
theorem E_Rd_readNumber_1 (v0R : Nat) (v1I : Int32) (σ : AM) : L_Rd_readNumber_1 v0R v1I σ = (if v1I < (1000 : Int32) then (gd (okO σ v0R 2) <| if (aI σ v0R 3) < (aI σ v0R 2) then (gd (okO σ (aR σ v0R 0) 104) <| gd (inB (aI σ v0R 3) (aN σ (aR σ v0R 0))) <| bnd (M_Rd_isDigit (aI σ (aR σ v0R 0) (aI σ v0R 3).toNatClampNeg) σ) fun r4 σ5 => if r4 = 0 then (L_Rd_readNumber_2 v0R σ5) else (gd (okO σ5 v0R 2) <| gd (okO σ5 (aR σ5 v0R 0) 104) <| gd (inB (aI σ5 v0R 3) (aN σ5 (aR σ5 v0R 0))) <| letT (sI σ5 v0R 6 (((aI σ5 v0R 6) * (10 : Int32)) + ((aI σ5 (aR σ5 v0R 0) (aI σ5 v0R 3).toNatClampNeg) - (48 : Int32)))) fun σ9 => letT (sI σ9 v0R 3 ((aI σ9 v0R 3) + (1 : Int32))) fun σ11 => L_Rd_readNumber_1 v0R (v1I + (1 : Int32)) σ11)) else (L_Rd_readNumber_2 v0R σ)) else (L_Rd_readNumber_2 v0R σ)) := by
  unfold L_Rd_readNumber_1
  rw [lp_eq]
  show lpK (lp F_Rd_readNumber) (T_Rd_readNumber_1 v0R v1I σ) = _
  unfold T_Rd_readNumber_1
  simp only [lpK_ite, lq_inl, lq_inr, lpK_bnd, lpK_gd, lq_let]
  try rfl
set_option maxRecDepth 20000 in
theorem E_Rd_readNumber_2 (v0R : Nat) (σ : AM) : L_Rd_readNumber_2 v0R σ = (gd (okO σ v0R 2) <| if (4 : Int32) < ((aI σ v0R 3) - (aI σ v0R 5)) then (L_Rd_readNumber_3 v0R ((1 : Int32)) σ) else (L_Rd_readNumber_3 v0R ((2 : Int32)) σ)) := by
  unfold L_Rd_readNumber_2
  rw [lp_eq]
  show lpK (lp F_Rd_readNumber) (T_Rd_readNumber_2 v0R σ) = _
  unfold T_Rd_readNumber_2
  simp only [lpK_ite, lq_inl, lq_inr, lpK_bnd, lpK_gd, lq_let]
  try rfl
set_option maxRecDepth 20000 in
theorem E_Rd_readNumber_3 (s0R : Nat) (s1I : Int32) (σ : AM) : L_Rd_readNumber_3 s0R s1I σ = (gd (okO σ s0R 2) <| letT (sI σ s0R 4 s1I) fun σ2 => (some ((), σ2))) := by
  unfold L_Rd_readNumber_3
  rw [lp_eq]
  show lpK (lp F_Rd_readNumber) (T_Rd_readNumber_3 s0R s1I σ) = _
  unfold T_Rd_readNumber_3
  simp only [lpK_ite, lq_inl, lq_inr, lpK_bnd, lpK_gd, lq_let]
  try rfl
noncomputable def M_Rd_readNumber (v0R : Nat) (σ : AM) : Option (Unit × AM) := mw σ (L_Rd_readNumber_0 v0R σ)
def I_Rd_readNumber (G : GX) (p : Program) (l : Launch) (e : Env) (s : State) (m : MethodId) (args : Array Value) (below : List Frame) (meth : Method) (c : Code) (z0 u0 n : Nat) : Prop :=
  (∀ (v0R : Nat) (σ : AM), VX (QM eV G args s below z0 u0) G p l e s m args below meth c 1 z0 u0 2 (lpn F_Rd_readNumber n (0, v0R, 0, 0, 0, σ)) 0 [(0, .ref v0R)] [] σ) ∧
  (∀ (v0R : Nat) (v1I : Int32) (σ : AM), VX (QM eV G args s below z0 u0) G p l e s m args below meth c 1 z0 u0 2 (lpn F_Rd_readNumber n (1, v0R, v1I, 0, 0, σ)) 7 [(0, .ref v0R), (1, .int v1I)] [] σ) ∧
  (∀ (v0R : Nat) (σ : AM), VX (QM eV G args s below z0 u0) G p l e s m args below meth c 1 z0 u0 2 (lpn F_Rd_readNumber n (2, v0R, 0, 0, 0, σ)) 80 [(0, .ref v0R)] [] σ) ∧
  (∀ (s0R : Nat) (s1I : Int32) (σ : AM), VX (QM eV G args s below z0 u0) G p l e s m args below meth c 1 z0 u0 2 (lpn F_Rd_readNumber n (3, 0, 0, s0R, s1I, σ)) 99 [] [.int s1I, .ref s0R] σ)
set_option maxRecDepth 20000 in
theorem s_Rd_readNumber_0 {G : GX} {p : Program} {l : Launch} {e : Env} {s : State} {m : MethodId} {args : Array Value} {below : List Frame} {meth : Method} {c : Code} {z0 u0 n : Nat} (C : Cx G p s m args meth c prog_9_method_9_code 2 "BellPlate$Reader" ((none))) (IH : I_Rd_readNumber G p l e s m args below meth c z0 u0 n) (v0R : Nat) (σ : AM) : VX (QM eV G args s below z0 u0) G p l e s m args below meth c 1 z0 u0 2 (lpK (lpn F_Rd_readNumber n) (T_Rd_readNumber_0 v0R σ)) 0 [(0, .ref v0R)] [] σ := by
  unfold T_Rd_readNumber_0
  refine x_aload_n C d_Rd_readNumber_0 0 rfl ?_
  refine x_iconst (v := (0 : Int32)) C d_Rd_readNumber_1 (by decide) ?_
  refine x_gd (fun h1 => ?_)
  refine x_putI (k := 6) C (okO_iff.mp h1) rfl j1_ok y1_ok n1_ok (by decide) rfl rfl rfl rfl w210 d_Rd_readNumber_2 ?_
  refine x_letS (fun σ2 e3 => ?_)
  refine x_iconst (v := (0 : Int32)) C d_Rd_readNumber_5 (by decide) ?_
  refine x_istore_n (lv' := [(1, .int (0 : Int32)), (0, .ref v0R)]) C d_Rd_readNumber_6 (by decide) rfl rfl ?_
  refine x_lv [1, 0] rfl ?_
  exact IH.2.1 v0R ((0 : Int32)) (σ2)
set_option maxRecDepth 20000 in
theorem s_Rd_readNumber_1 {G : GX} {p : Program} {l : Launch} {e : Env} {s : State} {m : MethodId} {args : Array Value} {below : List Frame} {meth : Method} {c : Code} {z0 u0 n : Nat} (C : Cx G p s m args meth c prog_9_method_9_code 2 "BellPlate$Reader" ((none))) (IH : I_Rd_readNumber G p l e s m args below meth c z0 u0 n) (v0R : Nat) (v1I : Int32) (σ : AM) : VX (QM eV G args s below z0 u0) G p l e s m args below meth c 1 z0 u0 2 (lpK (lpn F_Rd_readNumber n) (T_Rd_readNumber_1 v0R v1I σ)) 7 [(0, .ref v0R), (1, .int v1I)] [] σ := by
  unfold T_Rd_readNumber_1
  refine x_iload_n C d_Rd_readNumber_7 1 rfl ?_
  refine x_sipush (v := (1000 : Int32)) C d_Rd_readNumber_8 (by decide) ?_
  refine x_icmp_ge (tgt := 80) C d_Rd_readNumber_11 (by decide) (fun _ => ?_) (fun _ => ?_)
  · refine x_aload_n C d_Rd_readNumber_14 0 rfl ?_
    refine x_gd (fun h1 => ?_)
    refine x_getI (k := 3) C (okO_iff.mp h1) rfl j1_ok (by decide) rfl w207 d_Rd_readNumber_15 ?_
    refine x_aload_n C d_Rd_readNumber_18 0 rfl ?_
    refine x_getI (k := 2) C (okO_iff.mp h1) rfl j1_ok (by decide) rfl w206 d_Rd_readNumber_19 ?_
    refine x_icmp_ge (tgt := 80) C d_Rd_readNumber_22 (by decide) (fun _ => ?_) (fun _ => ?_)
    · refine x_aload_n C d_Rd_readNumber_25 0 rfl ?_
      refine x_gd (fun h2 => ?_)
      refine x_getR (k := 0) (kv := 104) C (okO_iff.mp h1) rfl j1_ok (by decide) rfl (okO_iff.mp h2) (by decide) w204 d_Rd_readNumber_26 ?_
      refine x_aload_n C d_Rd_readNumber_29 0 rfl ?_
      refine x_getI (k := 3) C (okO_iff.mp h1) rfl j1_ok (by decide) rfl w207 d_Rd_readNumber_30 ?_
      refine x_gd (fun h3 => ?_)
      refine x_aldC C (okO_iff.mp h2) (inB_iff.mp h3) d_Rd_readNumber_33 ?_
      refine x_callSI (As := [.int (aI σ (aR σ v0R 0) (aI σ v0R 3).toNatClampNeg)]) C (c_Rd_isDigit G l (aI σ (aR σ v0R 0) (aI σ v0R 3).toNatClampNeg) σ) w769 w768 w770 w121 k_Rd_isDigit rfl (by decide) (by decide) rfl (Nat.le_of_ble_eq_true rfl) d_Rd_readNumber_34 (fun r4 σ5 => ?_)
      refine x_if_eq (tgt := 80) C d_Rd_readNumber_37 (by decide) (fun _ => ?_) (fun _ => ?_)
      · refine x_lv [0] rfl ?_
        exact IH.2.2.1 v0R (σ5)
      · refine x_aload_n C d_Rd_readNumber_40 0 rfl ?_
        refine x_aload_n C d_Rd_readNumber_41 0 rfl ?_
        refine x_gd (fun h6 => ?_)
        refine x_getI (k := 6) C (okO_iff.mp h6) rfl j1_ok (by decide) rfl w210 d_Rd_readNumber_42 ?_
        refine x_bipush (v := (10 : Int32)) C d_Rd_readNumber_45 (by decide) ?_
        refine x_imul C d_Rd_readNumber_47 ?_
        refine x_aload_n C d_Rd_readNumber_48 0 rfl ?_
        refine x_gd (fun h7 => ?_)
        refine x_getR (k := 0) (kv := 104) C (okO_iff.mp h6) rfl j1_ok (by decide) rfl (okO_iff.mp h7) (by decide) w204 d_Rd_readNumber_49 ?_
        refine x_aload_n C d_Rd_readNumber_52 0 rfl ?_
        refine x_getI (k := 3) C (okO_iff.mp h6) rfl j1_ok (by decide) rfl w207 d_Rd_readNumber_53 ?_
        refine x_gd (fun h8 => ?_)
        refine x_aldC C (okO_iff.mp h7) (inB_iff.mp h8) d_Rd_readNumber_56 ?_
        refine x_bipush (v := (48 : Int32)) C d_Rd_readNumber_57 (by decide) ?_
        refine x_isub C d_Rd_readNumber_59 ?_
        refine x_iadd C d_Rd_readNumber_60 ?_
        refine x_putI (k := 6) C (okO_iff.mp h6) rfl j1_ok y1_ok n1_ok (by decide) rfl rfl rfl rfl w210 d_Rd_readNumber_61 ?_
        refine x_letS (fun σ9 e10 => ?_)
        refine x_aload_n C d_Rd_readNumber_64 0 rfl ?_
        refine x_dup C d_Rd_readNumber_65 rfl ?_
        refine x_getI (k := 3) C (by first | exact (okO_iff.mp h6) | (rw [e10]; exact (okO_iff.mp h6))) rfl j1_ok (by decide) rfl w207 d_Rd_readNumber_66 ?_
        refine x_iconst (v := (1 : Int32)) C d_Rd_readNumber_69 (by decide) ?_
        refine x_iadd C d_Rd_readNumber_70 ?_
        refine x_putI (k := 3) C (by first | exact (okO_iff.mp h6) | (rw [e10]; exact (okO_iff.mp h6))) rfl j1_ok y1_ok n1_ok (by decide) rfl rfl rfl rfl w207 d_Rd_readNumber_71 ?_
        refine x_letS (fun σ11 e12 => ?_)
        refine x_iinc (v := v1I + (1 : Int32)) (lv' := [(1, .int (v1I + (1 : Int32))), (0, .ref v0R)]) C d_Rd_readNumber_74 1 rfl rfl (by decide) rfl ?_
        refine x_goto (tgt := 7) C d_Rd_readNumber_77 (by decide) ?_
        refine x_lv [1, 0] rfl ?_
        exact IH.2.1 v0R (v1I + (1 : Int32)) (σ11)
    · refine x_lv [0] rfl ?_
      exact IH.2.2.1 v0R (σ)
  · refine x_lv [0] rfl ?_
    exact IH.2.2.1 v0R (σ)
set_option maxRecDepth 20000 in
theorem s_Rd_readNumber_2 {G : GX} {p : Program} {l : Launch} {e : Env} {s : State} {m : MethodId} {args : Array Value} {below : List Frame} {meth : Method} {c : Code} {z0 u0 n : Nat} (C : Cx G p s m args meth c prog_9_method_9_code 2 "BellPlate$Reader" ((none))) (IH : I_Rd_readNumber G p l e s m args below meth c z0 u0 n) (v0R : Nat) (σ : AM) : VX (QM eV G args s below z0 u0) G p l e s m args below meth c 1 z0 u0 2 (lpK (lpn F_Rd_readNumber n) (T_Rd_readNumber_2 v0R σ)) 80 [(0, .ref v0R)] [] σ := by
  unfold T_Rd_readNumber_2
  refine x_aload_n C d_Rd_readNumber_80 0 rfl ?_
  refine x_aload_n C d_Rd_readNumber_81 0 rfl ?_
  refine x_gd (fun h1 => ?_)
  refine x_getI (k := 3) C (okO_iff.mp h1) rfl j1_ok (by decide) rfl w207 d_Rd_readNumber_82 ?_
  refine x_aload_n C d_Rd_readNumber_85 0 rfl ?_
  refine x_getI (k := 5) C (okO_iff.mp h1) rfl j1_ok (by decide) rfl w209 d_Rd_readNumber_86 ?_
  refine x_isub C d_Rd_readNumber_89 ?_
  refine x_iconst (v := (4 : Int32)) C d_Rd_readNumber_90 (by decide) ?_
  refine x_icmp_le (tgt := 98) C d_Rd_readNumber_91 (by decide) (fun _ => ?_) (fun _ => ?_)
  · refine x_iconst (v := (1 : Int32)) C d_Rd_readNumber_94 (by decide) ?_
    refine x_goto (tgt := 99) C d_Rd_readNumber_95 (by decide) ?_
    refine x_lv [] rfl ?_
    exact IH.2.2.2 v0R ((1 : Int32)) (σ)
  · refine x_iconst (v := (2 : Int32)) C d_Rd_readNumber_98 (by decide) ?_
    refine x_lv [] rfl ?_
    exact IH.2.2.2 v0R ((2 : Int32)) (σ)
set_option maxRecDepth 20000 in
theorem s_Rd_readNumber_3 {G : GX} {p : Program} {l : Launch} {e : Env} {s : State} {m : MethodId} {args : Array Value} {below : List Frame} {meth : Method} {c : Code} {z0 u0 n : Nat} (C : Cx G p s m args meth c prog_9_method_9_code 2 "BellPlate$Reader" ((none))) (IH : I_Rd_readNumber G p l e s m args below meth c z0 u0 n) (s0R : Nat) (s1I : Int32) (σ : AM) : VX (QM eV G args s below z0 u0) G p l e s m args below meth c 1 z0 u0 2 (lpK (lpn F_Rd_readNumber n) (T_Rd_readNumber_3 s0R s1I σ)) 99 [] [.int s1I, .ref s0R] σ := by
  unfold T_Rd_readNumber_3
  refine x_gd (fun h1 => ?_)
  refine x_putI (k := 4) C (okO_iff.mp h1) rfl j1_ok y1_ok n1_ok (by decide) rfl rfl rfl rfl w208 d_Rd_readNumber_99 ?_
  refine x_letS (fun σ2 e3 => ?_)
  exact x_vret C d_Rd_readNumber_102
theorem i_Rd_readNumber {G : GX} {p : Program} {l : Launch} {e : Env} {s : State} {m : MethodId} {args : Array Value} {below : List Frame} {meth : Method} {c : Code} {z0 u0 : Nat} (C : Cx G p s m args meth c prog_9_method_9_code 2 "BellPlate$Reader" ((none))) (n : Nat) : I_Rd_readNumber G p l e s m args below meth c z0 u0 n := by
  induction n with
  | zero => exact ⟨fun _ _ => x_none, fun _ _ _ => x_none, fun _ _ => x_none, fun _ _ _ => x_none⟩
  | succ n IH => exact ⟨fun v0R σ => s_Rd_readNumber_0 C IH v0R σ, fun v0R v1I σ => s_Rd_readNumber_1 C IH v0R v1I σ, fun v0R σ => s_Rd_readNumber_2 C IH v0R σ, fun s0R s1I σ => s_Rd_readNumber_3 C IH s0R s1I σ⟩
theorem c_Rd_readNumber (G : GX) (l : Launch) (v0R : Nat) (σ : AM) : CT eV G l 1 y_Rd_readNumber prog_9_method_9_code 2 (none) [.ref v0R] σ (M_Rd_readNumber v0R σ) := by
  refine ct_of (by decide +kernel) (Nat.le_of_ble_eq_true rfl) (fun p e s m args below meth c C hin => ?_)
  refine x_lve (lv' := [(0, .ref v0R)]) rfl ?_
  intro r σ' h
  obtain ⟨n, hn⟩ := (lp_iff _ _ _).mp h
  exact (i_Rd_readNumber C n).1 v0R σ r σ' hn
/-! BellPlate$Reader.advance()V -/
abbrev y_Rd_advance : MethodName := ⟨"BellPlate$Reader", "advance", "()V"⟩
theorem k_Rd_advance : y_Rd_advance.cls ≠ "java/lang/invoke/MethodHandle" ∧ y_Rd_advance.cls ≠ "java/lang/invoke/VarHandle" ∧ (parseMethodDescriptor y_Rd_advance.desc).map (fun d => d.parameters.length) = some 0 := by decide +kernel
theorem d_Rd_advance_0 : decode prog_9_method_7_code 0 = .ok (.iconst 0, 1) := by decide +kernel
theorem d_Rd_advance_1 : decode prog_9_method_7_code 1 = .ok (.istore_n 1, 1) := by decide +kernel
theorem d_Rd_advance_2 : decode prog_9_method_7_code 2 = .ok (.iload_n 1, 1) := by decide +kernel
theorem d_Rd_advance_3 : decode prog_9_method_7_code 3 = .ok (.sipush 1000, 3) := by decide +kernel
theorem d_Rd_advance_6 : decode prog_9_method_7_code 6 = .ok (.if_icmp .ge 45, 3) := by decide +kernel
theorem d_Rd_advance_9 : decode prog_9_method_7_code 9 = .ok (.aload_n 0, 1) := by decide +kernel
theorem d_Rd_advance_10 : decode prog_9_method_7_code 10 = .ok (.getfield 28, 3) := by decide +kernel
theorem d_Rd_advance_13 : decode prog_9_method_7_code 13 = .ok (.aload_n 0, 1) := by decide +kernel
theorem d_Rd_advance_14 : decode prog_9_method_7_code 14 = .ok (.getfield 22, 3) := by decide +kernel
theorem d_Rd_advance_17 : decode prog_9_method_7_code 17 = .ok (.if_icmp .ge 34, 3) := by decide +kernel
theorem d_Rd_advance_20 : decode prog_9_method_7_code 20 = .ok (.aload_n 0, 1) := by decide +kernel
theorem d_Rd_advance_21 : decode prog_9_method_7_code 21 = .ok (.getfield 11, 3) := by decide +kernel
theorem d_Rd_advance_24 : decode prog_9_method_7_code 24 = .ok (.aload_n 0, 1) := by decide +kernel
theorem d_Rd_advance_25 : decode prog_9_method_7_code 25 = .ok (.getfield 28, 3) := by decide +kernel
theorem d_Rd_advance_28 : decode prog_9_method_7_code 28 = .ok (.caload, 1) := by decide +kernel
theorem d_Rd_advance_29 : decode prog_9_method_7_code 29 = .ok (.invokestatic 79, 3) := by decide +kernel
theorem d_Rd_advance_32 : decode prog_9_method_7_code 32 = .ok (.ifCond .eq 19, 3) := by decide +kernel
theorem d_Rd_advance_35 : decode prog_9_method_7_code 35 = .ok (.aload_n 0, 1) := by decide +kernel
theorem d_Rd_advance_36 : decode prog_9_method_7_code 36 = .ok (.dup, 1) := by decide +kernel
theorem d_Rd_advance_37 : decode prog_9_method_7_code 37 = .ok (.getfield 28, 3) := by decide +kernel
theorem d_Rd_advance_40 : decode prog_9_method_7_code 40 = .ok (.iconst 1, 1) := by decide +kernel
theorem d_Rd_advance_41 : decode prog_9_method_7_code 41 = .ok (.iadd, 1) := by decide +kernel
theorem d_Rd_advance_42 : decode prog_9_method_7_code 42 = .ok (.putfield 28, 3) := by decide +kernel
theorem d_Rd_advance_45 : decode prog_9_method_7_code 45 = .ok (.iinc 1 1, 3) := by decide +kernel
theorem d_Rd_advance_48 : decode prog_9_method_7_code 48 = .ok (.goto (-46), 3) := by decide +kernel
theorem d_Rd_advance_51 : decode prog_9_method_7_code 51 = .ok (.aload_n 0, 1) := by decide +kernel
theorem d_Rd_advance_52 : decode prog_9_method_7_code 52 = .ok (.aload_n 0, 1) := by decide +kernel
theorem d_Rd_advance_53 : decode prog_9_method_7_code 53 = .ok (.getfield 28, 3) := by decide +kernel
theorem d_Rd_advance_56 : decode prog_9_method_7_code 56 = .ok (.putfield 76, 3) := by decide +kernel
theorem d_Rd_advance_59 : decode prog_9_method_7_code 59 = .ok (.aload_n 0, 1) := by decide +kernel
theorem d_Rd_advance_60 : decode prog_9_method_7_code 60 = .ok (.getfield 28, 3) := by decide +kernel
theorem d_Rd_advance_63 : decode prog_9_method_7_code 63 = .ok (.aload_n 0, 1) := by decide +kernel
theorem d_Rd_advance_64 : decode prog_9_method_7_code 64 = .ok (.getfield 22, 3) := by decide +kernel
theorem d_Rd_advance_67 : decode prog_9_method_7_code 67 = .ok (.if_icmp .lt 11, 3) := by decide +kernel
theorem d_Rd_advance_70 : decode prog_9_method_7_code 70 = .ok (.aload_n 0, 1) := by decide +kernel
theorem d_Rd_advance_71 : decode prog_9_method_7_code 71 = .ok (.iconst 0, 1) := by decide +kernel
theorem d_Rd_advance_72 : decode prog_9_method_7_code 72 = .ok (.putfield 50, 3) := by decide +kernel
theorem d_Rd_advance_75 : decode prog_9_method_7_code 75 = .ok (.goto 85, 3) := by decide +kernel
theorem d_Rd_advance_78 : decode prog_9_method_7_code 78 = .ok (.aload_n 0, 1) := by decide +kernel
theorem d_Rd_advance_79 : decode prog_9_method_7_code 79 = .ok (.getfield 11, 3) := by decide +kernel
theorem d_Rd_advance_82 : decode prog_9_method_7_code 82 = .ok (.aload_n 0, 1) := by decide +kernel
theorem d_Rd_advance_83 : decode prog_9_method_7_code 83 = .ok (.getfield 28, 3) := by decide +kernel
theorem d_Rd_advance_86 : decode prog_9_method_7_code 86 = .ok (.caload, 1) := by decide +kernel
theorem d_Rd_advance_87 : decode prog_9_method_7_code 87 = .ok (.invokestatic 83, 3) := by decide +kernel
theorem d_Rd_advance_90 : decode prog_9_method_7_code 90 = .ok (.ifCond .eq 10, 3) := by decide +kernel
theorem d_Rd_advance_93 : decode prog_9_method_7_code 93 = .ok (.aload_n 0, 1) := by decide +kernel
theorem d_Rd_advance_94 : decode prog_9_method_7_code 94 = .ok (.invokevirtual 86, 3) := by decide +kernel
theorem d_Rd_advance_97 : decode prog_9_method_7_code 97 = .ok (.goto 63, 3) := by decide +kernel
theorem d_Rd_advance_100 : decode prog_9_method_7_code 100 = .ok (.aload_n 0, 1) := by decide +kernel
theorem d_Rd_advance_101 : decode prog_9_method_7_code 101 = .ok (.getfield 11, 3) := by decide +kernel
theorem d_Rd_advance_104 : decode prog_9_method_7_code 104 = .ok (.aload_n 0, 1) := by decide +kernel
theorem d_Rd_advance_105 : decode prog_9_method_7_code 105 = .ok (.getfield 28, 3) := by decide +kernel
theorem d_Rd_advance_108 : decode prog_9_method_7_code 108 = .ok (.caload, 1) := by decide +kernel
theorem d_Rd_advance_109 : decode prog_9_method_7_code 109 = .ok (.invokestatic 89, 3) := by decide +kernel
theorem d_Rd_advance_112 : decode prog_9_method_7_code 112 = .ok (.ifCond .eq 10, 3) := by decide +kernel
theorem d_Rd_advance_115 : decode prog_9_method_7_code 115 = .ok (.aload_n 0, 1) := by decide +kernel
theorem d_Rd_advance_116 : decode prog_9_method_7_code 116 = .ok (.invokevirtual 92, 3) := by decide +kernel
theorem d_Rd_advance_119 : decode prog_9_method_7_code 119 = .ok (.goto 41, 3) := by decide +kernel
theorem d_Rd_advance_122 : decode prog_9_method_7_code 122 = .ok (.aload_n 0, 1) := by decide +kernel
theorem d_Rd_advance_123 : decode prog_9_method_7_code 123 = .ok (.getfield 11, 3) := by decide +kernel
theorem d_Rd_advance_126 : decode prog_9_method_7_code 126 = .ok (.aload_n 0, 1) := by decide +kernel
theorem d_Rd_advance_127 : decode prog_9_method_7_code 127 = .ok (.getfield 28, 3) := by decide +kernel
theorem d_Rd_advance_130 : decode prog_9_method_7_code 130 = .ok (.caload, 1) := by decide +kernel
theorem d_Rd_advance_131 : decode prog_9_method_7_code 131 = .ok (.istore_n 1, 1) := by decide +kernel
theorem d_Rd_advance_132 : decode prog_9_method_7_code 132 = .ok (.aload_n 0, 1) := by decide +kernel
theorem d_Rd_advance_133 : decode prog_9_method_7_code 133 = .ok (.ldc 95, 2) := by decide +kernel
theorem d_Rd_advance_135 : decode prog_9_method_7_code 135 = .ok (.iload_n 1, 1) := by decide +kernel
theorem d_Rd_advance_136 : decode prog_9_method_7_code 136 = .ok (.invokevirtual 97, 3) := by decide +kernel
theorem d_Rd_advance_139 : decode prog_9_method_7_code 139 = .ok (.ifCond .lt 7, 3) := by decide +kernel
theorem d_Rd_advance_142 : decode prog_9_method_7_code 142 = .ok (.iload_n 1, 1) := by decide +kernel
theorem d_Rd_advance_143 : decode prog_9_method_7_code 143 = .ok (.goto 4, 3) := by decide +kernel
theorem d_Rd_advance_146 : decode prog_9_method_7_code 146 = .ok (.iconst 1, 1) := by decide +kernel
theorem d_Rd_advance_147 : decode prog_9_method_7_code 147 = .ok (.putfield 50, 3) := by decide +kernel
theorem d_Rd_advance_150 : decode prog_9_method_7_code 150 = .ok (.aload_n 0, 1) := by decide +kernel
theorem d_Rd_advance_151 : decode prog_9_method_7_code 151 = .ok (.dup, 1) := by decide +kernel
theorem d_Rd_advance_152 : decode prog_9_method_7_code 152 = .ok (.getfield 28, 3) := by decide +kernel
theorem d_Rd_advance_155 : decode prog_9_method_7_code 155 = .ok (.iconst 1, 1) := by decide +kernel
theorem d_Rd_advance_156 : decode prog_9_method_7_code 156 = .ok (.iadd, 1) := by decide +kernel
theorem d_Rd_advance_157 : decode prog_9_method_7_code 157 = .ok (.putfield 28, 3) := by decide +kernel
theorem d_Rd_advance_160 : decode prog_9_method_7_code 160 = .ok (.return_, 1) := by decide +kernel
abbrev S_Rd_advance : Type := Nat × Nat × Int32 × Nat × Int32 × AM
noncomputable def T_Rd_advance_0 (v0R : Nat) (σ : AM) : S_Rd_advance ⊕ Option (Unit × AM) :=
  .inl (1, v0R, (0 : Int32), 0, 0, σ)
noncomputable def T_Rd_advance_1 (v0R : Nat) (v1I : Int32) (σ : AM) : S_Rd_advance ⊕ Option (Unit × AM) :=
  if v1I < (1000 : Int32) then (gdT (okO σ v0R 2) <| if (aI σ v0R 3) < (aI σ v0R 2) then (gdT (okO σ (aR σ v0R 0) 104) <| gdT (inB (aI σ v0R 3) (aN σ (aR σ v0R 0))) <| bndT (M_Rd_isBlank (aI σ (aR σ v0R 0) (aI σ v0R 3).toNatClampNeg) σ) fun r4 σ5 => if r4 = 0 then (.inl (2, v0R, 0, 0, 0, σ5)) else (gdT (okO σ5 v0R 2) <| letT (sI σ5 v0R 3 ((aI σ5 v0R 3) + (1 : Int32))) fun σ7 => .inl (1, v0R, v1I + (1 : Int32), 0, 0, σ7))) else (.inl (2, v0R, 0, 0, 0, σ))) else (.inl (2, v0R, 0, 0, 0, σ))
noncomputable def T_Rd_advance_2 (v0R : Nat) (σ : AM) : S_Rd_advance ⊕ Option (Unit × AM) :=
  gdT (okO σ v0R 2) <| letT (sI σ v0R 5 (aI σ v0R 3)) fun σ2 => if (aI σ2 v0R 3) < (aI σ2 v0R 2) then (gdT (okO σ2 (aR σ2 v0R 0) 104) <| gdT (inB (aI σ2 v0R 3) (aN σ2 (aR σ2 v0R 0))) <| bndT (M_Rd_isLetter (aI σ2 (aR σ2 v0R 0) (aI σ2 v0R 3).toNatClampNeg) σ2) fun r6 σ7 => if r6 = 0 then (gdT (okO σ7 v0R 2) <| gdT (okO σ7 (aR σ7 v0R 0) 104) <| gdT (inB (aI σ7 v0R 3) (aN σ7 (aR σ7 v0R 0))) <| bndT (M_Rd_isDigit (aI σ7 (aR σ7 v0R 0) (aI σ7 v0R 3).toNatClampNeg) σ7) fun r11 σ12 => if r11 = 0 then (gdT (okO σ12 v0R 2) <| gdT (okO σ12 (aR σ12 v0R 0) 104) <| gdT (inB (aI σ12 v0R 3) (aN σ12 (aR σ12 v0R 0))) <| letT (aI σ12 (aR σ12 v0R 0) (aI σ12 v0R 3).toNatClampNeg) fun x16 => bndT (M_JStr_indexOf x16 σ12) fun r17 σ18 => if r17 < 0 then (.inl (3, v0R, 0, v0R, (1 : Int32), σ18)) else (.inl (3, v0R, 0, v0R, x16, σ18))) else (gdT (okO σ12 v0R 2) <| bndT (M_Rd_readNumber v0R σ12) fun _ σ20 => .inl (4, 0, 0, 0, 0, σ20))) else (gdT (okO σ7 v0R 2) <| bndT (M_Rd_readWord v0R σ7) fun _ σ23 => .inl (4, 0, 0, 0, 0, σ23))) else (letT (sI σ2 v0R 4 (0 : Int32)) fun σ25 => .inl (4, 0, 0, 0, 0, σ25))
noncomputable def T_Rd_advance_3 (v0R : Nat) (s0R : Nat) (s1I : Int32) (σ : AM) : S_Rd_advance ⊕ Option (Unit × AM) :=
  gdT (okO σ s0R 2) <| letT (sI σ s0R 4 s1I) fun σ2 => gdT (okO σ2 v0R 2) <| letT (sI σ2 v0R 3 ((aI σ2 v0R 3) + (1 : Int32))) fun σ5 => .inl (4, 0, 0, 0, 0, σ5)
noncomputable def T_Rd_advance_4  (σ : AM) : S_Rd_advance ⊕ Option (Unit × AM) :=
  .inr (some ((), σ))
noncomputable def F_Rd_advance : S_Rd_advance → S_Rd_advance ⊕ Option (Unit × AM) := fun s => match s.1 with
  | 0 => T_Rd_advance_0 (s.2.1) (s.2.2.2.2.2)
  | 1 => T_Rd_advance_1 (s.2.1) (s.2.2.1) (s.2.2.2.2.2)
  | 2 => T_Rd_advance_2 (s.2.1) (s.2.2.2.2.2)
  | 3 => T_Rd_advance_3 (s.2.1) (s.2.2.2.1) (s.2.2.2.2.1) (s.2.2.2.2.2)
  | _ => T_Rd_advance_4  (s.2.2.2.2.2)
noncomputable def L_Rd_advance_0 (v0R : Nat) (σ : AM) : Option (Unit × AM) := lp F_Rd_advance (0, v0R, 0, 0, 0, σ)
noncomputable def L_Rd_advance_1 (v0R : Nat) (v1I : Int32) (σ : AM) : Option (Unit × AM) := lp F_Rd_advance (1, v0R, v1I, 0, 0, σ)
noncomputable def L_Rd_advance_2 (v0R : Nat) (σ : AM) : Option (Unit × AM) := lp F_Rd_advance (2, v0R, 0, 0, 0, σ)
noncomputable def L_Rd_advance_3 (v0R : Nat) (s0R : Nat) (s1I : Int32) (σ : AM) : Option (Unit × AM) := lp F_Rd_advance (3, v0R, 0, s0R, s1I, σ)
noncomputable def L_Rd_advance_4  (σ : AM) : Option (Unit × AM) := lp F_Rd_advance (4, 0, 0, 0, 0, σ)
set_option maxRecDepth 20000 in
theorem E_Rd_advance_0 (v0R : Nat) (σ : AM) : L_Rd_advance_0 v0R σ = (L_Rd_advance_1 v0R ((0 : Int32)) σ) := by
  unfold L_Rd_advance_0
  rw [lp_eq]
  show lpK (lp F_Rd_advance) (T_Rd_advance_0 v0R σ) = _
  unfold T_Rd_advance_0
  simp only [lpK_ite, lq_inl, lq_inr, lpK_bnd, lpK_gd, lq_let]
  try rfl
set_option maxRecDepth 20000 in
theorem E_Rd_advance_1 (v0R : Nat) (v1I : Int32) (σ : AM) : L_Rd_advance_1 v0R v1I σ = (if v1I < (1000 : Int32) then (gd (okO σ v0R 2) <| if (aI σ v0R 3) < (aI σ v0R 2) then (gd (okO σ (aR σ v0R 0) 104) <| gd (inB (aI σ v0R 3) (aN σ (aR σ v0R 0))) <| bnd (M_Rd_isBlank (aI σ (aR σ v0R 0) (aI σ v0R 3).toNatClampNeg) σ) fun r4 σ5 => if r4 = 0 then (L_Rd_advance_2 v0R σ5) else (gd (okO σ5 v0R 2) <| letT (sI σ5 v0R 3 ((aI σ5 v0R 3) + (1 : Int32))) fun σ7 => L_Rd_advance_1 v0R (v1I + (1 : Int32)) σ7)) else (L_Rd_advance_2 v0R σ)) else (L_Rd_advance_2 v0R σ)) := by
  unfold L_Rd_advance_1
  rw [lp_eq]
  show lpK (lp F_Rd_advance) (T_Rd_advance_1 v0R v1I σ) = _
  unfold T_Rd_advance_1
  simp only [lpK_ite, lq_inl, lq_inr, lpK_bnd, lpK_gd, lq_let]
  try rfl
set_option maxRecDepth 20000 in
theorem E_Rd_advance_2 (v0R : Nat) (σ : AM) : L_Rd_advance_2 v0R σ = (gd (okO σ v0R 2) <| letT (sI σ v0R 5 (aI σ v0R 3)) fun σ2 => if (aI σ2 v0R 3) < (aI σ2 v0R 2) then (gd (okO σ2 (aR σ2 v0R 0) 104) <| gd (inB (aI σ2 v0R 3) (aN σ2 (aR σ2 v0R 0))) <| bnd (M_Rd_isLetter (aI σ2 (aR σ2 v0R 0) (aI σ2 v0R 3).toNatClampNeg) σ2) fun r6 σ7 => if r6 = 0 then (gd (okO σ7 v0R 2) <| gd (okO σ7 (aR σ7 v0R 0) 104) <| gd (inB (aI σ7 v0R 3) (aN σ7 (aR σ7 v0R 0))) <| bnd (M_Rd_isDigit (aI σ7 (aR σ7 v0R 0) (aI σ7 v0R 3).toNatClampNeg) σ7) fun r11 σ12 => if r11 = 0 then (gd (okO σ12 v0R 2) <| gd (okO σ12 (aR σ12 v0R 0) 104) <| gd (inB (aI σ12 v0R 3) (aN σ12 (aR σ12 v0R 0))) <| letT (aI σ12 (aR σ12 v0R 0) (aI σ12 v0R 3).toNatClampNeg) fun x16 => bnd (M_JStr_indexOf x16 σ12) fun r17 σ18 => if r17 < 0 then (L_Rd_advance_3 v0R v0R ((1 : Int32)) σ18) else (L_Rd_advance_3 v0R v0R x16 σ18)) else (gd (okO σ12 v0R 2) <| bnd (M_Rd_readNumber v0R σ12) fun _ σ20 => L_Rd_advance_4 σ20)) else (gd (okO σ7 v0R 2) <| bnd (M_Rd_readWord v0R σ7) fun _ σ23 => L_Rd_advance_4 σ23)) else (letT (sI σ2 v0R 4 (0 : Int32)) fun σ25 => L_Rd_advance_4 σ25)) := by
  unfold L_Rd_advance_2
  rw [lp_eq]
  show lpK (lp F_Rd_advance) (T_Rd_advance_2 v0R σ) = _
  unfold T_Rd_advance_2
  simp only [lpK_ite, lq_inl, lq_inr, lpK_bnd, lpK_gd, lq_let]
  try rfl
set_option maxRecDepth 20000 in
theorem E_Rd_advance_3 (v0R : Nat) (s0R : Nat) (s1I : Int32) (σ : AM) : L_Rd_advance_3 v0R s0R s1I σ = (gd (okO σ s0R 2) <| letT (sI σ s0R 4 s1I) fun σ2 => gd (okO σ2 v0R 2) <| letT (sI σ2 v0R 3 ((aI σ2 v0R 3) + (1 : Int32))) fun σ5 => L_Rd_advance_4 σ5) := by
  unfold L_Rd_advance_3
  rw [lp_eq]
  show lpK (lp F_Rd_advance) (T_Rd_advance_3 v0R s0R s1I σ) = _
  unfold T_Rd_advance_3
  simp only [lpK_ite, lq_inl, lq_inr, lpK_bnd, lpK_gd, lq_let]
  try rfl
set_option maxRecDepth 20000 in
theorem E_Rd_advance_4  (σ : AM) : L_Rd_advance_4  σ = ((some ((), σ))) := by
  unfold L_Rd_advance_4
  rw [lp_eq]
  show lpK (lp F_Rd_advance) (T_Rd_advance_4  σ) = _
  unfold T_Rd_advance_4
  simp only [lpK_ite, lq_inl, lq_inr, lpK_bnd, lpK_gd, lq_let]
  try rfl
noncomputable def M_Rd_advance (v0R : Nat) (σ : AM) : Option (Unit × AM) := mw σ (L_Rd_advance_0 v0R σ)
def I_Rd_advance (G : GX) (p : Program) (l : Launch) (e : Env) (s : State) (m : MethodId) (args : Array Value) (below : List Frame) (meth : Method) (c : Code) (z0 u0 n : Nat) : Prop :=
  (∀ (v0R : Nat) (σ : AM), VX (QM eV G args s below z0 u0) G p l e s m args below meth c 4 z0 u0 2 (lpn F_Rd_advance n (0, v0R, 0, 0, 0, σ)) 0 [(0, .ref v0R)] [] σ) ∧
  (∀ (v0R : Nat) (v1I : Int32) (σ : AM), VX (QM eV G args s below z0 u0) G p l e s m args below meth c 4 z0 u0 2 (lpn F_Rd_advance n (1, v0R, v1I, 0, 0, σ)) 2 [(0, .ref v0R), (1, .int v1I)] [] σ) ∧
  (∀ (v0R : Nat) (σ : AM), VX (QM eV G args s below z0 u0) G p l e s m args below meth c 4 z0 u0 2 (lpn F_Rd_advance n (2, v0R, 0, 0, 0, σ)) 51 [(0, .ref v0R)] [] σ) ∧
  (∀ (v0R : Nat) (s0R : Nat) (s1I : Int32) (σ : AM), VX (QM eV G args s below z0 u0) G p l e s m args below meth c 4 z0 u0 2 (lpn F_Rd_advance n (3, v0R, 0, s0R, s1I, σ)) 147 [(0, .ref v0R)] [.int s1I, .ref s0R] σ) ∧
  (∀ (σ : AM), VX (QM eV G args s below z0 u0) G p l e s m args below meth c 4 z0 u0 2 (lpn F_Rd_advance n (4, 0, 0, 0, 0, σ)) 160 [] [] σ)
set_option maxRecDepth 20000 in
theorem s_Rd_advance_0 {G : GX} {p : Program} {l : Launch} {e : Env} {s : State} {m : MethodId} {args : Array Value} {below : List Frame} {meth : Method} {c : Code} {z0 u0 n : Nat} (C : Cx G p s m args meth c prog_9_method_7_code 2 "BellPlate$Reader" ((none))) (IH : I_Rd_advance G p l e s m args below meth c z0 u0 n) (v0R : Nat) (σ : AM) : VX (QM eV G args s below z0 u0) G p l e s m args below meth c 4 z0 u0 2 (lpK (lpn F_Rd_advance n) (T_Rd_advance_0 v0R σ)) 0 [(0, .ref v0R)] [] σ := by
  unfold T_Rd_advance_0
  refine x_iconst (v := (0 : Int32)) C d_Rd_advance_0 (by decide) ?_
  refine x_istore_n (lv' := [(1, .int (0 : Int32)), (0, .ref v0R)]) C d_Rd_advance_1 (by decide) rfl rfl ?_
  refine x_lv [1, 0] rfl ?_
  exact IH.2.1 v0R ((0 : Int32)) (σ)
set_option maxRecDepth 20000 in
theorem s_Rd_advance_1 {G : GX} {p : Program} {l : Launch} {e : Env} {s : State} {m : MethodId} {args : Array Value} {below : List Frame} {meth : Method} {c : Code} {z0 u0 n : Nat} (C : Cx G p s m args meth c prog_9_method_7_code 2 "BellPlate$Reader" ((none))) (IH : I_Rd_advance G p l e s m args below meth c z0 u0 n) (v0R : Nat) (v1I : Int32) (σ : AM) : VX (QM eV G args s below z0 u0) G p l e s m args below meth c 4 z0 u0 2 (lpK (lpn F_Rd_advance n) (T_Rd_advance_1 v0R v1I σ)) 2 [(0, .ref v0R), (1, .int v1I)] [] σ := by
  unfold T_Rd_advance_1
  refine x_iload_n C d_Rd_advance_2 1 rfl ?_
  refine x_sipush (v := (1000 : Int32)) C d_Rd_advance_3 (by decide) ?_
  refine x_icmp_ge (tgt := 51) C d_Rd_advance_6 (by decide) (fun _ => ?_) (fun _ => ?_)
  · refine x_aload_n C d_Rd_advance_9 0 rfl ?_
    refine x_gd (fun h1 => ?_)
    refine x_getI (k := 3) C (okO_iff.mp h1) rfl j1_ok (by decide) rfl w207 d_Rd_advance_10 ?_
    refine x_aload_n C d_Rd_advance_13 0 rfl ?_
    refine x_getI (k := 2) C (okO_iff.mp h1) rfl j1_ok (by decide) rfl w206 d_Rd_advance_14 ?_
    refine x_icmp_ge (tgt := 51) C d_Rd_advance_17 (by decide) (fun _ => ?_) (fun _ => ?_)
    · refine x_aload_n C d_Rd_advance_20 0 rfl ?_
      refine x_gd (fun h2 => ?_)
      refine x_getR (k := 0) (kv := 104) C (okO_iff.mp h1) rfl j1_ok (by decide) rfl (okO_iff.mp h2) (by decide) w204 d_Rd_advance_21 ?_
      refine x_aload_n C d_Rd_advance_24 0 rfl ?_
      refine x_getI (k := 3) C (okO_iff.mp h1) rfl j1_ok (by decide) rfl w207 d_Rd_advance_25 ?_
      refine x_gd (fun h3 => ?_)
      refine x_aldC C (okO_iff.mp h2) (inB_iff.mp h3) d_Rd_advance_28 ?_
      refine x_callSI (As := [.int (aI σ (aR σ v0R 0) (aI σ v0R 3).toNatClampNeg)]) C (c_Rd_isBlank G l (aI σ (aR σ v0R 0) (aI σ v0R 3).toNatClampNeg) σ) w757 w756 w758 w121 k_Rd_isBlank rfl (by decide) (by decide) rfl (Nat.le_of_ble_eq_true rfl) d_Rd_advance_29 (fun r4 σ5 => ?_)
      refine x_if_eq (tgt := 51) C d_Rd_advance_32 (by decide) (fun _ => ?_) (fun _ => ?_)
      · refine x_lv [0] rfl ?_
        exact IH.2.2.1 v0R (σ5)
      · refine x_aload_n C d_Rd_advance_35 0 rfl ?_
        refine x_dup C d_Rd_advance_36 rfl ?_
        refine x_gd (fun h6 => ?_)
        refine x_getI (k := 3) C (okO_iff.mp h6) rfl j1_ok (by decide) rfl w207 d_Rd_advance_37 ?_
        refine x_iconst (v := (1 : Int32)) C d_Rd_advance_40 (by decide) ?_
        refine x_iadd C d_Rd_advance_41 ?_
        refine x_putI (k := 3) C (okO_iff.mp h6) rfl j1_ok y1_ok n1_ok (by decide) rfl rfl rfl rfl w207 d_Rd_advance_42 ?_
        refine x_letS (fun σ7 e8 => ?_)
        refine x_iinc (v := v1I + (1 : Int32)) (lv' := [(1, .int (v1I + (1 : Int32))), (0, .ref v0R)]) C d_Rd_advance_45 1 rfl rfl (by decide) rfl ?_
        refine x_goto (tgt := 2) C d_Rd_advance_48 (by decide) ?_
        refine x_lv [1, 0] rfl ?_
        exact IH.2.1 v0R (v1I + (1 : Int32)) (σ7)
    · refine x_lv [0] rfl ?_
      exact IH.2.2.1 v0R (σ)
  · refine x_lv [0] rfl ?_
    exact IH.2.2.1 v0R (σ)
set_option maxRecDepth 20000 in
theorem s_Rd_advance_2 {G : GX} {p : Program} {l : Launch} {e : Env} {s : State} {m : MethodId} {args : Array Value} {below : List Frame} {meth : Method} {c : Code} {z0 u0 n : Nat} (C : Cx G p s m args meth c prog_9_method_7_code 2 "BellPlate$Reader" ((none))) (IH : I_Rd_advance G p l e s m args below meth c z0 u0 n) (v0R : Nat) (σ : AM) : VX (QM eV G args s below z0 u0) G p l e s m args below meth c 4 z0 u0 2 (lpK (lpn F_Rd_advance n) (T_Rd_advance_2 v0R σ)) 51 [(0, .ref v0R)] [] σ := by
  unfold T_Rd_advance_2
  refine x_aload_n C d_Rd_advance_51 0 rfl ?_
  refine x_aload_n C d_Rd_advance_52 0 rfl ?_
  refine x_gd (fun h1 => ?_)
  refine x_getI (k := 3) C (okO_iff.mp h1) rfl j1_ok (by decide) rfl w207 d_Rd_advance_53 ?_
  refine x_putI (k := 5) C (okO_iff.mp h1) rfl j1_ok y1_ok n1_ok (by decide) rfl rfl rfl rfl w209 d_Rd_advance_56 ?_
  refine x_letS (fun σ2 e3 => ?_)
  refine x_aload_n C d_Rd_advance_59 0 rfl ?_
  refine x_getI (k := 3) C (by first | exact (okO_iff.mp h1) | (rw [e3]; exact (okO_iff.mp h1))) rfl j1_ok (by decide) rfl w207 d_Rd_advance_60 ?_
  refine x_aload_n C d_Rd_advance_63 0 rfl ?_
  refine x_getI (k := 2) C (by first | exact (okO_iff.mp h1) | (rw [e3]; exact (okO_iff.mp h1))) rfl j1_ok (by decide) rfl w206 d_Rd_advance_64 ?_
  refine x_icmp_lt (tgt := 78) C d_Rd_advance_67 (by decide) (fun _ => ?_) (fun _ => ?_)
  · refine x_aload_n C d_Rd_advance_78 0 rfl ?_
    refine x_gd (fun h4 => ?_)
    refine x_getR (k := 0) (kv := 104) C (by first | exact (okO_iff.mp h1) | (rw [e3]; exact (okO_iff.mp h1))) rfl j1_ok (by decide) rfl (okO_iff.mp h4) (by decide) w204 d_Rd_advance_79 ?_
    refine x_aload_n C d_Rd_advance_82 0 rfl ?_
    refine x_getI (k := 3) C (by first | exact (okO_iff.mp h1) | (rw [e3]; exact (okO_iff.mp h1))) rfl j1_ok (by decide) rfl w207 d_Rd_advance_83 ?_
    refine x_gd (fun h5 => ?_)
    refine x_aldC C (okO_iff.mp h4) (inB_iff.mp h5) d_Rd_advance_86 ?_
    refine x_callSI (As := [.int (aI σ2 (aR σ2 v0R 0) (aI σ2 v0R 3).toNatClampNeg)]) C (c_Rd_isLetter G l (aI σ2 (aR σ2 v0R 0) (aI σ2 v0R 3).toNatClampNeg) σ2) w760 w759 w761 w121 k_Rd_isLetter rfl (by decide) (by decide) rfl (Nat.le_of_ble_eq_true rfl) d_Rd_advance_87 (fun r6 σ7 => ?_)
    refine x_if_eq (tgt := 100) C d_Rd_advance_90 (by decide) (fun _ => ?_) (fun _ => ?_)
    · refine x_aload_n C d_Rd_advance_100 0 rfl ?_
      refine x_gd (fun h8 => ?_)
      refine x_gd (fun h9 => ?_)
      refine x_getR (k := 0) (kv := 104) C (okO_iff.mp h8) rfl j1_ok (by decide) rfl (okO_iff.mp h9) (by decide) w204 d_Rd_advance_101 ?_
      refine x_aload_n C d_Rd_advance_104 0 rfl ?_
      refine x_getI (k := 3) C (okO_iff.mp h8) rfl j1_ok (by decide) rfl w207 d_Rd_advance_105 ?_
      refine x_gd (fun h10 => ?_)
      refine x_aldC C (okO_iff.mp h9) (inB_iff.mp h10) d_Rd_advance_108 ?_
      refine x_callSI (As := [.int (aI σ7 (aR σ7 v0R 0) (aI σ7 v0R 3).toNatClampNeg)]) C (c_Rd_isDigit G l (aI σ7 (aR σ7 v0R 0) (aI σ7 v0R 3).toNatClampNeg) σ7) w769 w768 w770 w121 k_Rd_isDigit rfl (by decide) (by decide) rfl (Nat.le_of_ble_eq_true rfl) d_Rd_advance_109 (fun r11 σ12 => ?_)
      refine x_if_eq (tgt := 122) C d_Rd_advance_112 (by decide) (fun _ => ?_) (fun _ => ?_)
      · refine x_aload_n C d_Rd_advance_122 0 rfl ?_
        refine x_gd (fun h13 => ?_)
        refine x_gd (fun h14 => ?_)
        refine x_getR (k := 0) (kv := 104) C (okO_iff.mp h13) rfl j1_ok (by decide) rfl (okO_iff.mp h14) (by decide) w204 d_Rd_advance_123 ?_
        refine x_aload_n C d_Rd_advance_126 0 rfl ?_
        refine x_getI (k := 3) C (okO_iff.mp h13) rfl j1_ok (by decide) rfl w207 d_Rd_advance_127 ?_
        refine x_gd (fun h15 => ?_)
        refine x_aldC C (okO_iff.mp h14) (inB_iff.mp h15) d_Rd_advance_130 ?_
        refine x_letI (fun x16 _ => ?_)
        refine x_istore_n (lv' := [(1, .int x16), (0, .ref v0R)]) C d_Rd_advance_131 (by decide) rfl rfl ?_
        refine x_aload_n C d_Rd_advance_132 1 rfl ?_
        refine x_ldS C rfl d_Rd_advance_133 ?_
        refine x_iload_n C d_Rd_advance_135 0 rfl ?_
        refine x_callT (As := [.int x16]) C (c_JStr_indexOf G l x16 σ12) w777 w778 w776 w779 w135 k_JStr_indexOf rfl (by decide) (by decide) rfl (Nat.le_of_ble_eq_true rfl) d_Rd_advance_136 (fun r17 σ18 => ?_)
        refine x_if_lt (tgt := 146) C d_Rd_advance_139 (by decide) (fun _ => ?_) (fun _ => ?_)
        · refine x_iconst (v := (1 : Int32)) C d_Rd_advance_146 (by decide) ?_
          refine x_lv [1] rfl ?_
          exact IH.2.2.2.1 v0R v0R ((1 : Int32)) (σ18)
        · refine x_iload_n C d_Rd_advance_142 0 rfl ?_
          refine x_goto (tgt := 147) C d_Rd_advance_143 (by decide) ?_
          refine x_lv [1] rfl ?_
          exact IH.2.2.2.1 v0R v0R x16 (σ18)
      · refine x_aload_n C d_Rd_advance_115 0 rfl ?_
        refine x_gd (fun h21 => ?_)
        refine x_callVV (As := []) C (c_Rd_readNumber G l v0R  σ12) (okO_iff.mp h21) rfl w773 w8 w771 w774 w121 k_Rd_readNumber rfl (by decide) (by decide) rfl (Nat.le_of_ble_eq_true rfl) d_Rd_advance_116 (fun r19 σ20 => ?_)
        refine x_goto (tgt := 160) C d_Rd_advance_119 (by decide) ?_
        refine x_lv [] rfl ?_
        exact IH.2.2.2.2  (σ20)
    · refine x_aload_n C d_Rd_advance_93 0 rfl ?_
      refine x_gd (fun h24 => ?_)
      refine x_callVV (As := []) C (c_Rd_readWord G l v0R  σ7) (okO_iff.mp h24) rfl w764 w7 w762 w765 w121 k_Rd_readWord rfl (by decide) (by decide) rfl (Nat.le_of_ble_eq_true rfl) d_Rd_advance_94 (fun r22 σ23 => ?_)
      refine x_goto (tgt := 160) C d_Rd_advance_97 (by decide) ?_
      refine x_lv [] rfl ?_
      exact IH.2.2.2.2  (σ23)
  · refine x_aload_n C d_Rd_advance_70 0 rfl ?_
    refine x_iconst (v := (0 : Int32)) C d_Rd_advance_71 (by decide) ?_
    refine x_putI (k := 4) C (by first | exact (okO_iff.mp h1) | (rw [e3]; exact (okO_iff.mp h1))) rfl j1_ok y1_ok n1_ok (by decide) rfl rfl rfl rfl w208 d_Rd_advance_72 ?_
    refine x_letS (fun σ25 e26 => ?_)
    refine x_goto (tgt := 160) C d_Rd_advance_75 (by decide) ?_
    refine x_lv [] rfl ?_
    exact IH.2.2.2.2  (σ25)
set_option maxRecDepth 20000 in
theorem s_Rd_advance_3 {G : GX} {p : Program} {l : Launch} {e : Env} {s : State} {m : MethodId} {args : Array Value} {below : List Frame} {meth : Method} {c : Code} {z0 u0 n : Nat} (C : Cx G p s m args meth c prog_9_method_7_code 2 "BellPlate$Reader" ((none))) (IH : I_Rd_advance G p l e s m args below meth c z0 u0 n) (v0R : Nat) (s0R : Nat) (s1I : Int32) (σ : AM) : VX (QM eV G args s below z0 u0) G p l e s m args below meth c 4 z0 u0 2 (lpK (lpn F_Rd_advance n) (T_Rd_advance_3 v0R s0R s1I σ)) 147 [(0, .ref v0R)] [.int s1I, .ref s0R] σ := by
  unfold T_Rd_advance_3
  refine x_gd (fun h1 => ?_)
  refine x_putI (k := 4) C (okO_iff.mp h1) rfl j1_ok y1_ok n1_ok (by decide) rfl rfl rfl rfl w208 d_Rd_advance_147 ?_
  refine x_letS (fun σ2 e3 => ?_)
  refine x_aload_n C d_Rd_advance_150 0 rfl ?_
  refine x_dup C d_Rd_advance_151 rfl ?_
  refine x_gd (fun h4 => ?_)
  refine x_getI (k := 3) C (okO_iff.mp h4) rfl j1_ok (by decide) rfl w207 d_Rd_advance_152 ?_
  refine x_iconst (v := (1 : Int32)) C d_Rd_advance_155 (by decide) ?_
  refine x_iadd C d_Rd_advance_156 ?_
  refine x_putI (k := 3) C (okO_iff.mp h4) rfl j1_ok y1_ok n1_ok (by decide) rfl rfl rfl rfl w207 d_Rd_advance_157 ?_
  refine x_letS (fun σ5 e6 => ?_)
  refine x_lv [] rfl ?_
  exact IH.2.2.2.2  (σ5)
set_option maxRecDepth 20000 in
theorem s_Rd_advance_4 {G : GX} {p : Program} {l : Launch} {e : Env} {s : State} {m : MethodId} {args : Array Value} {below : List Frame} {meth : Method} {c : Code} {z0 u0 n : Nat} (C : Cx G p s m args meth c prog_9_method_7_code 2 "BellPlate$Reader" ((none))) (IH : I_Rd_advance G p l e s m args below meth c z0 u0 n)  (σ : AM) : VX (QM eV G args s below z0 u0) G p l e s m args below meth c 4 z0 u0 2 (lpK (lpn F_Rd_advance n) (T_Rd_advance_4  σ)) 160 [] [] σ := by
  unfold T_Rd_advance_4
  exact x_vret C d_Rd_advance_160
theorem i_Rd_advance {G : GX} {p : Program} {l : Launch} {e : Env} {s : State} {m : MethodId} {args : Array Value} {below : List Frame} {meth : Method} {c : Code} {z0 u0 : Nat} (C : Cx G p s m args meth c prog_9_method_7_code 2 "BellPlate$Reader" ((none))) (n : Nat) : I_Rd_advance G p l e s m args below meth c z0 u0 n := by
  induction n with
  | zero => exact ⟨fun _ _ => x_none, fun _ _ _ => x_none, fun _ _ => x_none, fun _ _ _ _ => x_none, fun _ => x_none⟩
  | succ n IH => exact ⟨fun v0R σ => s_Rd_advance_0 C IH v0R σ, fun v0R v1I σ => s_Rd_advance_1 C IH v0R v1I σ, fun v0R σ => s_Rd_advance_2 C IH v0R σ, fun v0R s0R s1I σ => s_Rd_advance_3 C IH v0R s0R s1I σ, fun σ => s_Rd_advance_4 C IH σ⟩
theorem c_Rd_advance (G : GX) (l : Launch) (v0R : Nat) (σ : AM) : CT eV G l 4 y_Rd_advance prog_9_method_7_code 2 (none) [.ref v0R] σ (M_Rd_advance v0R σ) := by
  refine ct_of (by decide +kernel) (Nat.le_of_ble_eq_true rfl) (fun p e s m args below meth c C hin => ?_)
  refine x_lve (lv' := [(0, .ref v0R)]) rfl ?_
  intro r σ' h
  obtain ⟨n, hn⟩ := (lp_iff _ _ _).mp h
  exact (i_Rd_advance C n).1 v0R σ r σ' hn
/-! BellPlate$Reader.fail(I)V -/
abbrev y_Rd_fail : MethodName := ⟨"BellPlate$Reader", "fail", "(I)V"⟩
theorem k_Rd_fail : y_Rd_fail.cls ≠ "java/lang/invoke/MethodHandle" ∧ y_Rd_fail.cls ≠ "java/lang/invoke/VarHandle" ∧ (parseMethodDescriptor y_Rd_fail.desc).map (fun d => d.parameters.length) = some 1 := by decide +kernel
theorem d_Rd_fail_0 : decode prog_9_method_6_code 0 = .ok (.aload_n 0, 1) := by decide +kernel
theorem d_Rd_fail_1 : decode prog_9_method_6_code 1 = .ok (.getfield 31, 3) := by decide +kernel
theorem d_Rd_fail_4 : decode prog_9_method_6_code 4 = .ok (.ifCond .ne 16, 3) := by decide +kernel
theorem d_Rd_fail_7 : decode prog_9_method_6_code 7 = .ok (.aload_n 0, 1) := by decide +kernel
theorem d_Rd_fail_8 : decode prog_9_method_6_code 8 = .ok (.iload_n 1, 1) := by decide +kernel
theorem d_Rd_fail_9 : decode prog_9_method_6_code 9 = .ok (.bipush 16, 2) := by decide +kernel
theorem d_Rd_fail_11 : decode prog_9_method_6_code 11 = .ok (.aload_n 0, 1) := by decide +kernel
theorem d_Rd_fail_12 : decode prog_9_method_6_code 12 = .ok (.getfield 76, 3) := by decide +kernel
theorem d_Rd_fail_15 : decode prog_9_method_6_code 15 = .ok (.imul, 1) := by decide +kernel
theorem d_Rd_fail_16 : decode prog_9_method_6_code 16 = .ok (.iadd, 1) := by decide +kernel
theorem d_Rd_fail_17 : decode prog_9_method_6_code 17 = .ok (.putfield 31, 3) := by decide +kernel
theorem d_Rd_fail_20 : decode prog_9_method_6_code 20 = .ok (.return_, 1) := by decide +kernel
abbrev S_Rd_fail : Type := Nat × Nat × Int32 × AM
noncomputable def T_Rd_fail_0 (v0R : Nat) (v1I : Int32) (σ : AM) : S_Rd_fail ⊕ Option (Unit × AM) :=
  gdT (okO σ v0R 2) <| if (aI σ v0R 8) = 0 then (letT (sI σ v0R 8 (v1I + ((16 : Int32) * (aI σ v0R 5)))) fun σ2 => .inl (1, 0, 0, σ2)) else (.inl (1, 0, 0, σ))
noncomputable def T_Rd_fail_1  (σ : AM) : S_Rd_fail ⊕ Option (Unit × AM) :=
  .inr (some ((), σ))
noncomputable def F_Rd_fail : S_Rd_fail → S_Rd_fail ⊕ Option (Unit × AM) := fun s => match s.1 with
  | 0 => T_Rd_fail_0 (s.2.1) (s.2.2.1) (s.2.2.2)
  | _ => T_Rd_fail_1  (s.2.2.2)
noncomputable def L_Rd_fail_0 (v0R : Nat) (v1I : Int32) (σ : AM) : Option (Unit × AM) := lp F_Rd_fail (0, v0R, v1I, σ)
noncomputable def L_Rd_fail_1  (σ : AM) : Option (Unit × AM) := lp F_Rd_fail (1, 0, 0, σ)
set_option maxRecDepth 20000 in
theorem E_Rd_fail_0 (v0R : Nat) (v1I : Int32) (σ : AM) : L_Rd_fail_0 v0R v1I σ = (gd (okO σ v0R 2) <| if (aI σ v0R 8) = 0 then (letT (sI σ v0R 8 (v1I + ((16 : Int32) * (aI σ v0R 5)))) fun σ2 => L_Rd_fail_1 σ2) else (L_Rd_fail_1 σ)) := by
  unfold L_Rd_fail_0
  rw [lp_eq]
  show lpK (lp F_Rd_fail) (T_Rd_fail_0 v0R v1I σ) = _
  unfold T_Rd_fail_0
  simp only [lpK_ite, lq_inl, lq_inr, lpK_bnd, lpK_gd, lq_let]
  try rfl
set_option maxRecDepth 20000 in
theorem E_Rd_fail_1  (σ : AM) : L_Rd_fail_1  σ = ((some ((), σ))) := by
  unfold L_Rd_fail_1
  rw [lp_eq]
  show lpK (lp F_Rd_fail) (T_Rd_fail_1  σ) = _
  unfold T_Rd_fail_1
  simp only [lpK_ite, lq_inl, lq_inr, lpK_bnd, lpK_gd, lq_let]
  try rfl
noncomputable def M_Rd_fail (v0R : Nat) (v1I : Int32) (σ : AM) : Option (Unit × AM) := mw σ (L_Rd_fail_0 v0R v1I σ)
def I_Rd_fail (G : GX) (p : Program) (l : Launch) (e : Env) (s : State) (m : MethodId) (args : Array Value) (below : List Frame) (meth : Method) (c : Code) (z0 u0 n : Nat) : Prop :=
  (∀ (v0R : Nat) (v1I : Int32) (σ : AM), VX (QM eV G args s below z0 u0) G p l e s m args below meth c 0 z0 u0 2 (lpn F_Rd_fail n (0, v0R, v1I, σ)) 0 [(0, .ref v0R), (1, .int v1I)] [] σ) ∧
  (∀ (σ : AM), VX (QM eV G args s below z0 u0) G p l e s m args below meth c 0 z0 u0 2 (lpn F_Rd_fail n (1, 0, 0, σ)) 20 [] [] σ)
set_option maxRecDepth 20000 in
theorem s_Rd_fail_0 {G : GX} {p : Program} {l : Launch} {e : Env} {s : State} {m : MethodId} {args : Array Value} {below : List Frame} {meth : Method} {c : Code} {z0 u0 n : Nat} (C : Cx G p s m args meth c prog_9_method_6_code 2 "BellPlate$Reader" ((none))) (IH : I_Rd_fail G p l e s m args below meth c z0 u0 n) (v0R : Nat) (v1I : Int32) (σ : AM) : VX (QM eV G args s below z0 u0) G p l e s m args below meth c 0 z0 u0 2 (lpK (lpn F_Rd_fail n) (T_Rd_fail_0 v0R v1I σ)) 0 [(0, .ref v0R), (1, .int v1I)] [] σ := by
  unfold T_Rd_fail_0
  refine x_aload_n C d_Rd_fail_0 0 rfl ?_
  refine x_gd (fun h1 => ?_)
  refine x_getI (k := 8) C (okO_iff.mp h1) rfl j1_ok (by decide) rfl w212 d_Rd_fail_1 ?_
  refine x_if_ne (tgt := 20) C d_Rd_fail_4 (by decide) (fun _ => ?_) (fun _ => ?_)
  · refine x_aload_n C d_Rd_fail_7 0 rfl ?_
    refine x_iload_n C d_Rd_fail_8 1 rfl ?_
    refine x_bipush (v := (16 : Int32)) C d_Rd_fail_9 (by decide) ?_
    refine x_aload_n C d_Rd_fail_11 0 rfl ?_
    refine x_getI (k := 5) C (okO_iff.mp h1) rfl j1_ok (by decide) rfl w209 d_Rd_fail_12 ?_
    refine x_imul C d_Rd_fail_15 ?_
    refine x_iadd C d_Rd_fail_16 ?_
    refine x_putI (k := 8) C (okO_iff.mp h1) rfl j1_ok y1_ok n1_ok (by decide) rfl rfl rfl rfl w212 d_Rd_fail_17 ?_
    refine x_letS (fun σ2 e3 => ?_)
    refine x_lv [] rfl ?_
    exact IH.2  (σ2)
  · refine x_lv [] rfl ?_
    exact IH.2  (σ)
set_option maxRecDepth 20000 in
theorem s_Rd_fail_1 {G : GX} {p : Program} {l : Launch} {e : Env} {s : State} {m : MethodId} {args : Array Value} {below : List Frame} {meth : Method} {c : Code} {z0 u0 n : Nat} (C : Cx G p s m args meth c prog_9_method_6_code 2 "BellPlate$Reader" ((none))) (IH : I_Rd_fail G p l e s m args below meth c z0 u0 n)  (σ : AM) : VX (QM eV G args s below z0 u0) G p l e s m args below meth c 0 z0 u0 2 (lpK (lpn F_Rd_fail n) (T_Rd_fail_1  σ)) 20 [] [] σ := by
  unfold T_Rd_fail_1
  exact x_vret C d_Rd_fail_20
theorem i_Rd_fail {G : GX} {p : Program} {l : Launch} {e : Env} {s : State} {m : MethodId} {args : Array Value} {below : List Frame} {meth : Method} {c : Code} {z0 u0 : Nat} (C : Cx G p s m args meth c prog_9_method_6_code 2 "BellPlate$Reader" ((none))) (n : Nat) : I_Rd_fail G p l e s m args below meth c z0 u0 n := by
  induction n with
  | zero => exact ⟨fun _ _ _ => x_none, fun _ => x_none⟩
  | succ n IH => exact ⟨fun v0R v1I σ => s_Rd_fail_0 C IH v0R v1I σ, fun σ => s_Rd_fail_1 C IH σ⟩
theorem c_Rd_fail (G : GX) (l : Launch) (v0R : Nat) (v1I : Int32) (σ : AM) : CT eV G l 0 y_Rd_fail prog_9_method_6_code 2 (none) [.ref v0R, .int v1I] σ (M_Rd_fail v0R v1I σ) := by
  refine ct_of (by decide +kernel) (Nat.le_of_ble_eq_true rfl) (fun p e s m args below meth c C hin => ?_)
  refine x_lve (lv' := [(0, .ref v0R), (1, .int v1I)]) rfl ?_
  intro r σ' h
  obtain ⟨n, hn⟩ := (lp_iff _ _ _).mp h
  exact (i_Rd_fail C n).1 v0R v1I σ r σ' hn
/-! BellPlate$Reader.expect(I)V -/
abbrev y_Rd_expect : MethodName := ⟨"BellPlate$Reader", "expect", "(I)V"⟩
theorem k_Rd_expect : y_Rd_expect.cls ≠ "java/lang/invoke/MethodHandle" ∧ y_Rd_expect.cls ≠ "java/lang/invoke/VarHandle" ∧ (parseMethodDescriptor y_Rd_expect.desc).map (fun d => d.parameters.length) = some 1 := by decide +kernel
theorem d_Rd_expect_0 : decode prog_9_method_19_code 0 = .ok (.aload_n 0, 1) := by decide +kernel
theorem d_Rd_expect_1 : decode prog_9_method_19_code 1 = .ok (.getfield 31, 3) := by decide +kernel
theorem d_Rd_expect_4 : decode prog_9_method_19_code 4 = .ok (.ifCond .eq 4, 3) := by decide +kernel
theorem d_Rd_expect_7 : decode prog_9_method_19_code 7 = .ok (.return_, 1) := by decide +kernel
theorem d_Rd_expect_8 : decode prog_9_method_19_code 8 = .ok (.aload_n 0, 1) := by decide +kernel
theorem d_Rd_expect_9 : decode prog_9_method_19_code 9 = .ok (.getfield 50, 3) := by decide +kernel
theorem d_Rd_expect_12 : decode prog_9_method_19_code 12 = .ok (.iload_n 1, 1) := by decide +kernel
theorem d_Rd_expect_13 : decode prog_9_method_19_code 13 = .ok (.if_icmp .ne 10, 3) := by decide +kernel
theorem d_Rd_expect_16 : decode prog_9_method_19_code 16 = .ok (.aload_n 0, 1) := by decide +kernel
theorem d_Rd_expect_17 : decode prog_9_method_19_code 17 = .ok (.invokevirtual 47, 3) := by decide +kernel
theorem d_Rd_expect_20 : decode prog_9_method_19_code 20 = .ok (.goto 8, 3) := by decide +kernel
theorem d_Rd_expect_23 : decode prog_9_method_19_code 23 = .ok (.aload_n 0, 1) := by decide +kernel
theorem d_Rd_expect_24 : decode prog_9_method_19_code 24 = .ok (.iconst 1, 1) := by decide +kernel
theorem d_Rd_expect_25 : decode prog_9_method_19_code 25 = .ok (.invokevirtual 68, 3) := by decide +kernel
theorem d_Rd_expect_28 : decode prog_9_method_19_code 28 = .ok (.return_, 1) := by decide +kernel
abbrev S_Rd_expect : Type := Nat × Nat × Int32 × AM
noncomputable def T_Rd_expect_0 (v0R : Nat) (v1I : Int32) (σ : AM) : S_Rd_expect ⊕ Option (Unit × AM) :=
  gdT (okO σ v0R 2) <| if (aI σ v0R 8) = 0 then (if (aI σ v0R 4) = v1I then (bndT (M_Rd_advance v0R σ) fun _ σ3 => .inl (1, 0, 0, σ3)) else (bndT (M_Rd_fail v0R (1 : Int32) σ) fun _ σ5 => .inl (1, 0, 0, σ5))) else (.inr (some ((), σ)))
noncomputable def T_Rd_expect_1  (σ : AM) : S_Rd_expect ⊕ Option (Unit × AM) :=
  .inr (some ((), σ))
noncomputable def F_Rd_expect : S_Rd_expect → S_Rd_expect ⊕ Option (Unit × AM) := fun s => match s.1 with
  | 0 => T_Rd_expect_0 (s.2.1) (s.2.2.1) (s.2.2.2)
  | _ => T_Rd_expect_1  (s.2.2.2)
noncomputable def L_Rd_expect_0 (v0R : Nat) (v1I : Int32) (σ : AM) : Option (Unit × AM) := lp F_Rd_expect (0, v0R, v1I, σ)
noncomputable def L_Rd_expect_1  (σ : AM) : Option (Unit × AM) := lp F_Rd_expect (1, 0, 0, σ)
set_option maxRecDepth 20000 in
theorem E_Rd_expect_0 (v0R : Nat) (v1I : Int32) (σ : AM) : L_Rd_expect_0 v0R v1I σ = (gd (okO σ v0R 2) <| if (aI σ v0R 8) = 0 then (if (aI σ v0R 4) = v1I then (bnd (M_Rd_advance v0R σ) fun _ σ3 => L_Rd_expect_1 σ3) else (bnd (M_Rd_fail v0R (1 : Int32) σ) fun _ σ5 => L_Rd_expect_1 σ5)) else ((some ((), σ)))) := by
  unfold L_Rd_expect_0
  rw [lp_eq]
  show lpK (lp F_Rd_expect) (T_Rd_expect_0 v0R v1I σ) = _
  unfold T_Rd_expect_0
  simp only [lpK_ite, lq_inl, lq_inr, lpK_bnd, lpK_gd, lq_let]
  try rfl
set_option maxRecDepth 20000 in
theorem E_Rd_expect_1  (σ : AM) : L_Rd_expect_1  σ = ((some ((), σ))) := by
  unfold L_Rd_expect_1
  rw [lp_eq]
  show lpK (lp F_Rd_expect) (T_Rd_expect_1  σ) = _
  unfold T_Rd_expect_1
  simp only [lpK_ite, lq_inl, lq_inr, lpK_bnd, lpK_gd, lq_let]
  try rfl
noncomputable def M_Rd_expect (v0R : Nat) (v1I : Int32) (σ : AM) : Option (Unit × AM) := mw σ (L_Rd_expect_0 v0R v1I σ)
def I_Rd_expect (G : GX) (p : Program) (l : Launch) (e : Env) (s : State) (m : MethodId) (args : Array Value) (below : List Frame) (meth : Method) (c : Code) (z0 u0 n : Nat) : Prop :=
  (∀ (v0R : Nat) (v1I : Int32) (σ : AM), VX (QM eV G args s below z0 u0) G p l e s m args below meth c 5 z0 u0 2 (lpn F_Rd_expect n (0, v0R, v1I, σ)) 0 [(0, .ref v0R), (1, .int v1I)] [] σ) ∧
  (∀ (σ : AM), VX (QM eV G args s below z0 u0) G p l e s m args below meth c 5 z0 u0 2 (lpn F_Rd_expect n (1, 0, 0, σ)) 28 [] [] σ)
set_option maxRecDepth 20000 in
theorem s_Rd_expect_0 {G : GX} {p : Program} {l : Launch} {e : Env} {s : State} {m : MethodId} {args : Array Value} {below : List Frame} {meth : Method} {c : Code} {z0 u0 n : Nat} (C : Cx G p s m args meth c prog_9_method_19_code 2 "BellPlate$Reader" ((none))) (IH : I_Rd_expect G p l e s m args below meth c z0 u0 n) (v0R : Nat) (v1I : Int32) (σ : AM) : VX (QM eV G args s below z0 u0) G p l e s m args below meth c 5 z0 u0 2 (lpK (lpn F_Rd_expect n) (T_Rd_expect_0 v0R v1I σ)) 0 [(0, .ref v0R), (1, .int v1I)] [] σ := by
  unfold T_Rd_expect_0
  refine x_aload_n C d_Rd_expect_0 0 rfl ?_
  refine x_gd (fun h1 => ?_)
  refine x_getI (k := 8) C (okO_iff.mp h1) rfl j1_ok (by decide) rfl w212 d_Rd_expect_1 ?_
  refine x_if_eq (tgt := 8) C d_Rd_expect_4 (by decide) (fun _ => ?_) (fun _ => ?_)
  · refine x_aload_n C d_Rd_expect_8 0 rfl ?_
    refine x_getI (k := 4) C (okO_iff.mp h1) rfl j1_ok (by decide) rfl w208 d_Rd_expect_9 ?_
    refine x_iload_n C d_Rd_expect_12 1 rfl ?_
    refine x_icmp_ne (tgt := 23) C d_Rd_expect_13 (by decide) (fun _ => ?_) (fun _ => ?_)
    · refine x_aload_n C d_Rd_expect_16 0 rfl ?_
      refine x_callVV (As := []) C (c_Rd_advance G l v0R  σ) (okO_iff.mp h1) rfl w754 w6 w752 w755 w121 k_Rd_advance rfl (by decide) (by decide) rfl (Nat.le_of_ble_eq_true rfl) d_Rd_expect_17 (fun r2 σ3 => ?_)
      refine x_goto (tgt := 28) C d_Rd_expect_20 (by decide) ?_
      refine x_lv [] rfl ?_
      exact IH.2  (σ3)
    · refine x_aload_n C d_Rd_expect_23 0 rfl ?_
      refine x_iconst (v := (1 : Int32)) C d_Rd_expect_24 (by decide) ?_
      refine x_callVV (As := [.int (1 : Int32)]) C (c_Rd_fail G l v0R (1 : Int32) σ) (okO_iff.mp h1) rfl w865 w10 w863 w866 w121 k_Rd_fail rfl (by decide) (by decide) rfl (Nat.le_of_ble_eq_true rfl) d_Rd_expect_25 (fun r4 σ5 => ?_)
      refine x_lv [] rfl ?_
      exact IH.2  (σ5)
  · exact x_vret C d_Rd_expect_7
set_option maxRecDepth 20000 in
theorem s_Rd_expect_1 {G : GX} {p : Program} {l : Launch} {e : Env} {s : State} {m : MethodId} {args : Array Value} {below : List Frame} {meth : Method} {c : Code} {z0 u0 n : Nat} (C : Cx G p s m args meth c prog_9_method_19_code 2 "BellPlate$Reader" ((none))) (IH : I_Rd_expect G p l e s m args below meth c z0 u0 n)  (σ : AM) : VX (QM eV G args s below z0 u0) G p l e s m args below meth c 5 z0 u0 2 (lpK (lpn F_Rd_expect n) (T_Rd_expect_1  σ)) 28 [] [] σ := by
  unfold T_Rd_expect_1
  exact x_vret C d_Rd_expect_28
theorem i_Rd_expect {G : GX} {p : Program} {l : Launch} {e : Env} {s : State} {m : MethodId} {args : Array Value} {below : List Frame} {meth : Method} {c : Code} {z0 u0 : Nat} (C : Cx G p s m args meth c prog_9_method_19_code 2 "BellPlate$Reader" ((none))) (n : Nat) : I_Rd_expect G p l e s m args below meth c z0 u0 n := by
  induction n with
  | zero => exact ⟨fun _ _ _ => x_none, fun _ => x_none⟩
  | succ n IH => exact ⟨fun v0R v1I σ => s_Rd_expect_0 C IH v0R v1I σ, fun σ => s_Rd_expect_1 C IH σ⟩
theorem c_Rd_expect (G : GX) (l : Launch) (v0R : Nat) (v1I : Int32) (σ : AM) : CT eV G l 5 y_Rd_expect prog_9_method_19_code 2 (none) [.ref v0R, .int v1I] σ (M_Rd_expect v0R v1I σ) := by
  refine ct_of (by decide +kernel) (Nat.le_of_ble_eq_true rfl) (fun p e s m args below meth c C hin => ?_)
  refine x_lve (lv' := [(0, .ref v0R), (1, .int v1I)]) rfl ?_
  intro r σ' h
  obtain ⟨n, hn⟩ := (lp_iff _ _ _).mp h
  exact (i_Rd_expect C n).1 v0R v1I σ r σ' hn
/-! BellPlate$Reader.thingLine()V -/
abbrev y_Rd_thingLine : MethodName := ⟨"BellPlate$Reader", "thingLine", "()V"⟩
theorem k_Rd_thingLine : y_Rd_thingLine.cls ≠ "java/lang/invoke/MethodHandle" ∧ y_Rd_thingLine.cls ≠ "java/lang/invoke/VarHandle" ∧ (parseMethodDescriptor y_Rd_thingLine.desc).map (fun d => d.parameters.length) = some 0 := by decide +kernel
theorem d_Rd_thingLine_0 : decode prog_9_method_13_code 0 = .ok (.aload_n 0, 1) := by decide +kernel
theorem d_Rd_thingLine_1 : decode prog_9_method_13_code 1 = .ok (.getfield 18, 3) := by decide +kernel
theorem d_Rd_thingLine_4 : decode prog_9_method_13_code 4 = .ok (.invokevirtual 114, 3) := by decide +kernel
theorem d_Rd_thingLine_7 : decode prog_9_method_13_code 7 = .ok (.bipush 6, 2) := by decide +kernel
theorem d_Rd_thingLine_9 : decode prog_9_method_13_code 9 = .ok (.if_icmp .lt 9, 3) := by decide +kernel
theorem d_Rd_thingLine_12 : decode prog_9_method_13_code 12 = .ok (.aload_n 0, 1) := by decide +kernel
theorem d_Rd_thingLine_13 : decode prog_9_method_13_code 13 = .ok (.iconst 5, 1) := by decide +kernel
theorem d_Rd_thingLine_14 : decode prog_9_method_13_code 14 = .ok (.invokevirtual 68, 3) := by decide +kernel
theorem d_Rd_thingLine_17 : decode prog_9_method_13_code 17 = .ok (.return_, 1) := by decide +kernel
theorem d_Rd_thingLine_18 : decode prog_9_method_13_code 18 = .ok (.aload_n 0, 1) := by decide +kernel
theorem d_Rd_thingLine_19 : decode prog_9_method_13_code 19 = .ok (.invokevirtual 47, 3) := by decide +kernel
theorem d_Rd_thingLine_22 : decode prog_9_method_13_code 22 = .ok (.aload_n 0, 1) := by decide +kernel
theorem d_Rd_thingLine_23 : decode prog_9_method_13_code 23 = .ok (.getfield 50, 3) := by decide +kernel
theorem d_Rd_thingLine_26 : decode prog_9_method_13_code 26 = .ok (.iconst 3, 1) := by decide +kernel
theorem d_Rd_thingLine_27 : decode prog_9_method_13_code 27 = .ok (.if_icmp .eq 11, 3) := by decide +kernel
theorem d_Rd_thingLine_30 : decode prog_9_method_13_code 30 = .ok (.aload_n 0, 1) := by decide +kernel
theorem d_Rd_thingLine_31 : decode prog_9_method_13_code 31 = .ok (.iconst 1, 1) := by decide +kernel
theorem d_Rd_thingLine_32 : decode prog_9_method_13_code 32 = .ok (.invokevirtual 68, 3) := by decide +kernel
theorem d_Rd_thingLine_35 : decode prog_9_method_13_code 35 = .ok (.goto 47, 3) := by decide +kernel
theorem d_Rd_thingLine_38 : decode prog_9_method_13_code 38 = .ok (.aload_n 0, 1) := by decide +kernel
theorem d_Rd_thingLine_39 : decode prog_9_method_13_code 39 = .ok (.getfield 18, 3) := by decide +kernel
theorem d_Rd_thingLine_42 : decode prog_9_method_13_code 42 = .ok (.aload_n 0, 1) := by decide +kernel
theorem d_Rd_thingLine_43 : decode prog_9_method_13_code 43 = .ok (.getfield 103, 3) := by decide +kernel
theorem d_Rd_thingLine_46 : decode prog_9_method_13_code 46 = .ok (.invokevirtual 117, 3) := by decide +kernel
theorem d_Rd_thingLine_49 : decode prog_9_method_13_code 49 = .ok (.iconst (-1), 1) := by decide +kernel
theorem d_Rd_thingLine_50 : decode prog_9_method_13_code 50 = .ok (.if_icmp .eq 11, 3) := by decide +kernel
theorem d_Rd_thingLine_53 : decode prog_9_method_13_code 53 = .ok (.aload_n 0, 1) := by decide +kernel
theorem d_Rd_thingLine_54 : decode prog_9_method_13_code 54 = .ok (.iconst 3, 1) := by decide +kernel
theorem d_Rd_thingLine_55 : decode prog_9_method_13_code 55 = .ok (.invokevirtual 68, 3) := by decide +kernel
theorem d_Rd_thingLine_58 : decode prog_9_method_13_code 58 = .ok (.goto 24, 3) := by decide +kernel
theorem d_Rd_thingLine_61 : decode prog_9_method_13_code 61 = .ok (.aload_n 0, 1) := by decide +kernel
theorem d_Rd_thingLine_62 : decode prog_9_method_13_code 62 = .ok (.getfield 18, 3) := by decide +kernel
theorem d_Rd_thingLine_65 : decode prog_9_method_13_code 65 = .ok (.aload_n 0, 1) := by decide +kernel
theorem d_Rd_thingLine_66 : decode prog_9_method_13_code 66 = .ok (.getfield 103, 3) := by decide +kernel
theorem d_Rd_thingLine_69 : decode prog_9_method_13_code 69 = .ok (.invokevirtual 121, 3) := by decide +kernel
theorem d_Rd_thingLine_72 : decode prog_9_method_13_code 72 = .ok (.aload_n 0, 1) := by decide +kernel
theorem d_Rd_thingLine_73 : decode prog_9_method_13_code 73 = .ok (.invokevirtual 47, 3) := by decide +kernel
theorem d_Rd_thingLine_76 : decode prog_9_method_13_code 76 = .ok (.aload_n 0, 1) := by decide +kernel
theorem d_Rd_thingLine_77 : decode prog_9_method_13_code 77 = .ok (.bipush 59, 2) := by decide +kernel
theorem d_Rd_thingLine_79 : decode prog_9_method_13_code 79 = .ok (.invokevirtual 125, 3) := by decide +kernel
theorem d_Rd_thingLine_82 : decode prog_9_method_13_code 82 = .ok (.return_, 1) := by decide +kernel
abbrev S_Rd_thingLine : Type := Nat × Nat × AM
noncomputable def T_Rd_thingLine_0 (v0R : Nat) (σ : AM) : S_Rd_thingLine ⊕ Option (Unit × AM) :=
  gdT (okO σ v0R 2) <| gdT (okO σ (aR σ v0R 1) 1) <| bndT (M_Tw_things (aR σ v0R 1) σ) fun r3 σ4 => if r3 < (6 : Int32) then (gdT (okO σ4 v0R 2) <| bndT (M_Rd_advance v0R σ4) fun _ σ6 => gdT (okO σ6 v0R 2) <| if (aI σ6 v0R 4) = (3 : Int32) then (gdT (okO σ6 (aR σ6 v0R 1) 1) <| bndT (M_Tw_thingNamed (aR σ6 v0R 1) (aL σ6 v0R 7) σ6) fun r10 σ11 => if r10 = ((-1) : Int32) then (gdT (okO σ11 v0R 2) <| gdT (okO σ11 (aR σ11 v0R 1) 1) <| bndT (M_Tw_addThing (aR σ11 v0R 1) (aL σ11 v0R 7) σ11) fun _ σ15 => gdT (okO σ15 v0R 2) <| bndT (M_Rd_advance v0R σ15) fun _ σ17 => gdT (okO σ17 v0R 2) <| bndT (M_Rd_expect v0R (59 : Int32) σ17) fun _ σ20 => .inl (1, 0, σ20)) else (gdT (okO σ11 v0R 2) <| bndT (M_Rd_fail v0R (3 : Int32) σ11) fun _ σ23 => .inl (1, 0, σ23))) else (bndT (M_Rd_fail v0R (1 : Int32) σ6) fun _ σ26 => .inl (1, 0, σ26))) else (gdT (okO σ4 v0R 2) <| bndT (M_Rd_fail v0R (5 : Int32) σ4) fun _ σ28 => .inr (some ((), σ28)))
noncomputable def T_Rd_thingLine_1  (σ : AM) : S_Rd_thingLine ⊕ Option (Unit × AM) :=
  .inr (some ((), σ))
noncomputable def F_Rd_thingLine : S_Rd_thingLine → S_Rd_thingLine ⊕ Option (Unit × AM) := fun s => match s.1 with
  | 0 => T_Rd_thingLine_0 (s.2.1) (s.2.2)
  | _ => T_Rd_thingLine_1  (s.2.2)
noncomputable def L_Rd_thingLine_0 (v0R : Nat) (σ : AM) : Option (Unit × AM) := lp F_Rd_thingLine (0, v0R, σ)
noncomputable def L_Rd_thingLine_1  (σ : AM) : Option (Unit × AM) := lp F_Rd_thingLine (1, 0, σ)
set_option maxRecDepth 20000 in
theorem E_Rd_thingLine_0 (v0R : Nat) (σ : AM) : L_Rd_thingLine_0 v0R σ = (gd (okO σ v0R 2) <| gd (okO σ (aR σ v0R 1) 1) <| bnd (M_Tw_things (aR σ v0R 1) σ) fun r3 σ4 => if r3 < (6 : Int32) then (gd (okO σ4 v0R 2) <| bnd (M_Rd_advance v0R σ4) fun _ σ6 => gd (okO σ6 v0R 2) <| if (aI σ6 v0R 4) = (3 : Int32) then (gd (okO σ6 (aR σ6 v0R 1) 1) <| bnd (M_Tw_thingNamed (aR σ6 v0R 1) (aL σ6 v0R 7) σ6) fun r10 σ11 => if r10 = ((-1) : Int32) then (gd (okO σ11 v0R 2) <| gd (okO σ11 (aR σ11 v0R 1) 1) <| bnd (M_Tw_addThing (aR σ11 v0R 1) (aL σ11 v0R 7) σ11) fun _ σ15 => gd (okO σ15 v0R 2) <| bnd (M_Rd_advance v0R σ15) fun _ σ17 => gd (okO σ17 v0R 2) <| bnd (M_Rd_expect v0R (59 : Int32) σ17) fun _ σ20 => L_Rd_thingLine_1 σ20) else (gd (okO σ11 v0R 2) <| bnd (M_Rd_fail v0R (3 : Int32) σ11) fun _ σ23 => L_Rd_thingLine_1 σ23)) else (bnd (M_Rd_fail v0R (1 : Int32) σ6) fun _ σ26 => L_Rd_thingLine_1 σ26)) else (gd (okO σ4 v0R 2) <| bnd (M_Rd_fail v0R (5 : Int32) σ4) fun _ σ28 => (some ((), σ28)))) := by
  unfold L_Rd_thingLine_0
  rw [lp_eq]
  show lpK (lp F_Rd_thingLine) (T_Rd_thingLine_0 v0R σ) = _
  unfold T_Rd_thingLine_0
  simp only [lpK_ite, lq_inl, lq_inr, lpK_bnd, lpK_gd, lq_let]
  try rfl
set_option maxRecDepth 20000 in
theorem E_Rd_thingLine_1  (σ : AM) : L_Rd_thingLine_1  σ = ((some ((), σ))) := by
  unfold L_Rd_thingLine_1
  rw [lp_eq]
  show lpK (lp F_Rd_thingLine) (T_Rd_thingLine_1  σ) = _
  unfold T_Rd_thingLine_1
  simp only [lpK_ite, lq_inl, lq_inr, lpK_bnd, lpK_gd, lq_let]
  try rfl
noncomputable def M_Rd_thingLine (v0R : Nat) (σ : AM) : Option (Unit × AM) := mw σ (L_Rd_thingLine_0 v0R σ)
def I_Rd_thingLine (G : GX) (p : Program) (l : Launch) (e : Env) (s : State) (m : MethodId) (args : Array Value) (below : List Frame) (meth : Method) (c : Code) (z0 u0 n : Nat) : Prop :=
  (∀ (v0R : Nat) (σ : AM), VX (QM eV G args s below z0 u0) G p l e s m args below meth c 6 z0 u0 1 (lpn F_Rd_thingLine n (0, v0R, σ)) 0 [(0, .ref v0R)] [] σ) ∧
  (∀ (σ : AM), VX (QM eV G args s below z0 u0) G p l e s m args below meth c 6 z0 u0 1 (lpn F_Rd_thingLine n (1, 0, σ)) 82 [] [] σ)
set_option maxRecDepth 20000 in
theorem s_Rd_thingLine_0 {G : GX} {p : Program} {l : Launch} {e : Env} {s : State} {m : MethodId} {args : Array Value} {below : List Frame} {meth : Method} {c : Code} {z0 u0 n : Nat} (C : Cx G p s m args meth c prog_9_method_13_code 1 "BellPlate$Reader" ((none))) (IH : I_Rd_thingLine G p l e s m args below meth c z0 u0 n) (v0R : Nat) (σ : AM) : VX (QM eV G args s below z0 u0) G p l e s m args below meth c 6 z0 u0 1 (lpK (lpn F_Rd_thingLine n) (T_Rd_thingLine_0 v0R σ)) 0 [(0, .ref v0R)] [] σ := by
  unfold T_Rd_thingLine_0
  refine x_aload_n C d_Rd_thingLine_0 0 rfl ?_
  refine x_gd (fun h1 => ?_)
  refine x_gd (fun h2 => ?_)
  refine x_getR (k := 1) (kv := 1) C (okO_iff.mp h1) rfl j1_ok (by decide) rfl (okO_iff.mp h2) (by decide) w205 d_Rd_thingLine_1 ?_
  refine x_callVI (As := []) C (c_Tw_things G l (aR σ v0R 1)  σ) (okO_iff.mp h2) rfl w643 w644 w862 w645 w122 k_Tw_things rfl (by decide) (by decide) rfl (Nat.le_of_ble_eq_true rfl) d_Rd_thingLine_4 (fun r3 σ4 => ?_)
  refine x_bipush (v := (6 : Int32)) C d_Rd_thingLine_7 (by decide) ?_
  refine x_icmp_lt (tgt := 18) C d_Rd_thingLine_9 (by decide) (fun _ => ?_) (fun _ => ?_)
  · refine x_aload_n C d_Rd_thingLine_18 0 rfl ?_
    refine x_gd (fun h7 => ?_)
    refine x_callVV (As := []) C (c_Rd_advance G l v0R  σ4) (okO_iff.mp h7) rfl w754 w6 w752 w755 w121 k_Rd_advance rfl (by decide) (by decide) rfl (Nat.le_of_ble_eq_true rfl) d_Rd_thingLine_19 (fun r5 σ6 => ?_)
    refine x_aload_n C d_Rd_thingLine_22 0 rfl ?_
    refine x_gd (fun h8 => ?_)
    refine x_getI (k := 4) C (okO_iff.mp h8) rfl j1_ok (by decide) rfl w208 d_Rd_thingLine_23 ?_
    refine x_iconst (v := (3 : Int32)) C d_Rd_thingLine_26 (by decide) ?_
    refine x_icmp_eq (tgt := 38) C d_Rd_thingLine_27 (by decide) (fun _ => ?_) (fun _ => ?_)
    · refine x_aload_n C d_Rd_thingLine_38 0 rfl ?_
      refine x_gd (fun h9 => ?_)
      refine x_getR (k := 1) (kv := 1) C (okO_iff.mp h8) rfl j1_ok (by decide) rfl (okO_iff.mp h9) (by decide) w205 d_Rd_thingLine_39 ?_
      refine x_aload_n C d_Rd_thingLine_42 0 rfl ?_
      refine x_getJ (k := 7) C (okO_iff.mp h8) rfl j1_ok (by decide) rfl w211 d_Rd_thingLine_43 ?_
      refine x_callVI (As := [.long (aL σ6 v0R 7)]) C (c_Tw_thingNamed G l (aR σ6 v0R 1) (aL σ6 v0R 7) σ6) (okO_iff.mp h9) rfl w868 w869 w867 w870 w122 k_Tw_thingNamed rfl (by decide) (by decide) rfl (Nat.le_of_ble_eq_true rfl) d_Rd_thingLine_46 (fun r10 σ11 => ?_)
      refine x_iconst (v := ((-1) : Int32)) C d_Rd_thingLine_49 (by decide) ?_
      refine x_icmp_eq (tgt := 61) C d_Rd_thingLine_50 (by decide) (fun _ => ?_) (fun _ => ?_)
      · refine x_aload_n C d_Rd_thingLine_61 0 rfl ?_
        refine x_gd (fun h12 => ?_)
        refine x_gd (fun h13 => ?_)
        refine x_getR (k := 1) (kv := 1) C (okO_iff.mp h12) rfl j1_ok (by decide) rfl (okO_iff.mp h13) (by decide) w205 d_Rd_thingLine_62 ?_
        refine x_aload_n C d_Rd_thingLine_65 0 rfl ?_
        refine x_getJ (k := 7) C (okO_iff.mp h12) rfl j1_ok (by decide) rfl w211 d_Rd_thingLine_66 ?_
        refine x_callVV (As := [.long (aL σ11 v0R 7)]) C (c_Tw_addThing G l (aR σ11 v0R 1) (aL σ11 v0R 7) σ11) (okO_iff.mp h13) rfl w872 w873 w871 w874 w122 k_Tw_addThing rfl (by decide) (by decide) rfl (Nat.le_of_ble_eq_true rfl) d_Rd_thingLine_69 (fun r14 σ15 => ?_)
        refine x_aload_n C d_Rd_thingLine_72 0 rfl ?_
        refine x_gd (fun h18 => ?_)
        refine x_callVV (As := []) C (c_Rd_advance G l v0R  σ15) (okO_iff.mp h18) rfl w754 w6 w752 w755 w121 k_Rd_advance rfl (by decide) (by decide) rfl (Nat.le_of_ble_eq_true rfl) d_Rd_thingLine_73 (fun r16 σ17 => ?_)
        refine x_aload_n C d_Rd_thingLine_76 0 rfl ?_
        refine x_bipush (v := (59 : Int32)) C d_Rd_thingLine_77 (by decide) ?_
        refine x_gd (fun h21 => ?_)
        refine x_callVV (As := [.int (59 : Int32)]) C (c_Rd_expect G l v0R (59 : Int32) σ17) (okO_iff.mp h21) rfl w877 w11 w875 w878 w121 k_Rd_expect rfl (by decide) (by decide) rfl (Nat.le_of_ble_eq_true rfl) d_Rd_thingLine_79 (fun r19 σ20 => ?_)
        refine x_lv [] rfl ?_
        exact IH.2  (σ20)
      · refine x_aload_n C d_Rd_thingLine_53 0 rfl ?_
        refine x_iconst (v := (3 : Int32)) C d_Rd_thingLine_54 (by decide) ?_
        refine x_gd (fun h24 => ?_)
        refine x_callVV (As := [.int (3 : Int32)]) C (c_Rd_fail G l v0R (3 : Int32) σ11) (okO_iff.mp h24) rfl w865 w10 w863 w866 w121 k_Rd_fail rfl (by decide) (by decide) rfl (Nat.le_of_ble_eq_true rfl) d_Rd_thingLine_55 (fun r22 σ23 => ?_)
        refine x_goto (tgt := 82) C d_Rd_thingLine_58 (by decide) ?_
        refine x_lv [] rfl ?_
        exact IH.2  (σ23)
    · refine x_aload_n C d_Rd_thingLine_30 0 rfl ?_
      refine x_iconst (v := (1 : Int32)) C d_Rd_thingLine_31 (by decide) ?_
      refine x_callVV (As := [.int (1 : Int32)]) C (c_Rd_fail G l v0R (1 : Int32) σ6) (okO_iff.mp h8) rfl w865 w10 w863 w866 w121 k_Rd_fail rfl (by decide) (by decide) rfl (Nat.le_of_ble_eq_true rfl) d_Rd_thingLine_32 (fun r25 σ26 => ?_)
      refine x_goto (tgt := 82) C d_Rd_thingLine_35 (by decide) ?_
      refine x_lv [] rfl ?_
      exact IH.2  (σ26)
  · refine x_aload_n C d_Rd_thingLine_12 0 rfl ?_
    refine x_iconst (v := (5 : Int32)) C d_Rd_thingLine_13 (by decide) ?_
    refine x_gd (fun h29 => ?_)
    refine x_callVV (As := [.int (5 : Int32)]) C (c_Rd_fail G l v0R (5 : Int32) σ4) (okO_iff.mp h29) rfl w865 w10 w863 w866 w121 k_Rd_fail rfl (by decide) (by decide) rfl (Nat.le_of_ble_eq_true rfl) d_Rd_thingLine_14 (fun r27 σ28 => ?_)
    exact x_vret C d_Rd_thingLine_17
set_option maxRecDepth 20000 in
theorem s_Rd_thingLine_1 {G : GX} {p : Program} {l : Launch} {e : Env} {s : State} {m : MethodId} {args : Array Value} {below : List Frame} {meth : Method} {c : Code} {z0 u0 n : Nat} (C : Cx G p s m args meth c prog_9_method_13_code 1 "BellPlate$Reader" ((none))) (IH : I_Rd_thingLine G p l e s m args below meth c z0 u0 n)  (σ : AM) : VX (QM eV G args s below z0 u0) G p l e s m args below meth c 6 z0 u0 1 (lpK (lpn F_Rd_thingLine n) (T_Rd_thingLine_1  σ)) 82 [] [] σ := by
  unfold T_Rd_thingLine_1
  exact x_vret C d_Rd_thingLine_82
theorem i_Rd_thingLine {G : GX} {p : Program} {l : Launch} {e : Env} {s : State} {m : MethodId} {args : Array Value} {below : List Frame} {meth : Method} {c : Code} {z0 u0 : Nat} (C : Cx G p s m args meth c prog_9_method_13_code 1 "BellPlate$Reader" ((none))) (n : Nat) : I_Rd_thingLine G p l e s m args below meth c z0 u0 n := by
  induction n with
  | zero => exact ⟨fun _ _ => x_none, fun _ => x_none⟩
  | succ n IH => exact ⟨fun v0R σ => s_Rd_thingLine_0 C IH v0R σ, fun σ => s_Rd_thingLine_1 C IH σ⟩
theorem c_Rd_thingLine (G : GX) (l : Launch) (v0R : Nat) (σ : AM) : CT eV G l 6 y_Rd_thingLine prog_9_method_13_code 1 (none) [.ref v0R] σ (M_Rd_thingLine v0R σ) := by
  refine ct_of (by decide +kernel) (Nat.le_of_ble_eq_true rfl) (fun p e s m args below meth c C hin => ?_)
  refine x_lve (lv' := [(0, .ref v0R)]) rfl ?_
  intro r σ' h
  obtain ⟨n, hn⟩ := (lp_iff _ _ _).mp h
  exact (i_Rd_thingLine C n).1 v0R σ r σ' hn
/-! BellPlate$Reader.numberUpTo(I)I -/
abbrev y_Rd_numberUpTo : MethodName := ⟨"BellPlate$Reader", "numberUpTo", "(I)I"⟩
theorem k_Rd_numberUpTo : y_Rd_numberUpTo.cls ≠ "java/lang/invoke/MethodHandle" ∧ y_Rd_numberUpTo.cls ≠ "java/lang/invoke/VarHandle" ∧ (parseMethodDescriptor y_Rd_numberUpTo.desc).map (fun d => d.parameters.length) = some 1 := by decide +kernel
theorem d_Rd_numberUpTo_0 : decode prog_9_method_16_code 0 = .ok (.aload_n 0, 1) := by decide +kernel
theorem d_Rd_numberUpTo_1 : decode prog_9_method_16_code 1 = .ok (.invokevirtual 47, 3) := by decide +kernel
theorem d_Rd_numberUpTo_4 : decode prog_9_method_16_code 4 = .ok (.aload_n 0, 1) := by decide +kernel
theorem d_Rd_numberUpTo_5 : decode prog_9_method_16_code 5 = .ok (.getfield 50, 3) := by decide +kernel
theorem d_Rd_numberUpTo_8 : decode prog_9_method_16_code 8 = .ok (.iconst 2, 1) := by decide +kernel
theorem d_Rd_numberUpTo_9 : decode prog_9_method_16_code 9 = .ok (.if_icmp .eq 10, 3) := by decide +kernel
theorem d_Rd_numberUpTo_12 : decode prog_9_method_16_code 12 = .ok (.aload_n 0, 1) := by decide +kernel
theorem d_Rd_numberUpTo_13 : decode prog_9_method_16_code 13 = .ok (.iconst 1, 1) := by decide +kernel
theorem d_Rd_numberUpTo_14 : decode prog_9_method_16_code 14 = .ok (.invokevirtual 68, 3) := by decide +kernel
theorem d_Rd_numberUpTo_17 : decode prog_9_method_16_code 17 = .ok (.iconst 1, 1) := by decide +kernel
theorem d_Rd_numberUpTo_18 : decode prog_9_method_16_code 18 = .ok (.ireturn, 1) := by decide +kernel
theorem d_Rd_numberUpTo_19 : decode prog_9_method_16_code 19 = .ok (.aload_n 0, 1) := by decide +kernel
theorem d_Rd_numberUpTo_20 : decode prog_9_method_16_code 20 = .ok (.getfield 111, 3) := by decide +kernel
theorem d_Rd_numberUpTo_23 : decode prog_9_method_16_code 23 = .ok (.iconst 1, 1) := by decide +kernel
theorem d_Rd_numberUpTo_24 : decode prog_9_method_16_code 24 = .ok (.if_icmp .lt 11, 3) := by decide +kernel
theorem d_Rd_numberUpTo_27 : decode prog_9_method_16_code 27 = .ok (.aload_n 0, 1) := by decide +kernel
theorem d_Rd_numberUpTo_28 : decode prog_9_method_16_code 28 = .ok (.getfield 111, 3) := by decide +kernel
theorem d_Rd_numberUpTo_31 : decode prog_9_method_16_code 31 = .ok (.iload_n 1, 1) := by decide +kernel
theorem d_Rd_numberUpTo_32 : decode prog_9_method_16_code 32 = .ok (.if_icmp .le 10, 3) := by decide +kernel
theorem d_Rd_numberUpTo_35 : decode prog_9_method_16_code 35 = .ok (.aload_n 0, 1) := by decide +kernel
theorem d_Rd_numberUpTo_36 : decode prog_9_method_16_code 36 = .ok (.iconst 4, 1) := by decide +kernel
theorem d_Rd_numberUpTo_37 : decode prog_9_method_16_code 37 = .ok (.invokevirtual 68, 3) := by decide +kernel
theorem d_Rd_numberUpTo_40 : decode prog_9_method_16_code 40 = .ok (.iconst 1, 1) := by decide +kernel
theorem d_Rd_numberUpTo_41 : decode prog_9_method_16_code 41 = .ok (.ireturn, 1) := by decide +kernel
theorem d_Rd_numberUpTo_42 : decode prog_9_method_16_code 42 = .ok (.aload_n 0, 1) := by decide +kernel
theorem d_Rd_numberUpTo_43 : decode prog_9_method_16_code 43 = .ok (.getfield 111, 3) := by decide +kernel
theorem d_Rd_numberUpTo_46 : decode prog_9_method_16_code 46 = .ok (.istore_n 2, 1) := by decide +kernel
theorem d_Rd_numberUpTo_47 : decode prog_9_method_16_code 47 = .ok (.aload_n 0, 1) := by decide +kernel
theorem d_Rd_numberUpTo_48 : decode prog_9_method_16_code 48 = .ok (.invokevirtual 47, 3) := by decide +kernel
theorem d_Rd_numberUpTo_51 : decode prog_9_method_16_code 51 = .ok (.aload_n 0, 1) := by decide +kernel
theorem d_Rd_numberUpTo_52 : decode prog_9_method_16_code 52 = .ok (.bipush 59, 2) := by decide +kernel
theorem d_Rd_numberUpTo_54 : decode prog_9_method_16_code 54 = .ok (.invokevirtual 125, 3) := by decide +kernel
theorem d_Rd_numberUpTo_57 : decode prog_9_method_16_code 57 = .ok (.iload_n 2, 1) := by decide +kernel
theorem d_Rd_numberUpTo_58 : decode prog_9_method_16_code 58 = .ok (.ireturn, 1) := by decide +kernel
abbrev S_Rd_numberUpTo : Type := Nat × Nat × Int32 × AM
noncomputable def T_Rd_numberUpTo_0 (v0R : Nat) (v1I : Int32) (σ : AM) : S_Rd_numberUpTo ⊕ Option (Int32 × AM) :=
  gdT (okO σ v0R 2) <| bndT (M_Rd_advance v0R σ) fun _ σ2 => gdT (okO σ2 v0R 2) <| if (aI σ2 v0R 4) = (2 : Int32) then (if (aI σ2 v0R 6) < (1 : Int32) then (.inl (1, v0R, 0, σ2)) else (if v1I < (aI σ2 v0R 6) then (.inl (1, v0R, 0, σ2)) else (letT (aI σ2 v0R 6) fun x5 => bndT (M_Rd_advance v0R σ2) fun _ σ7 => gdT (okO σ7 v0R 2) <| bndT (M_Rd_expect v0R (59 : Int32) σ7) fun _ σ9 => .inr (some (x5, σ9))))) else (bndT (M_Rd_fail v0R (1 : Int32) σ2) fun _ σ12 => .inr (some ((1 : Int32), σ12)))
noncomputable def T_Rd_numberUpTo_1 (v0R : Nat) (σ : AM) : S_Rd_numberUpTo ⊕ Option (Int32 × AM) :=
  gdT (okO σ v0R 2) <| bndT (M_Rd_fail v0R (4 : Int32) σ) fun _ σ2 => .inr (some ((1 : Int32), σ2))
noncomputable def F_Rd_numberUpTo : S_Rd_numberUpTo → S_Rd_numberUpTo ⊕ Option (Int32 × AM) := fun s => match s.1 with
  | 0 => T_Rd_numberUpTo_0 (s.2.1) (s.2.2.1) (s.2.2.2)
  | _ => T_Rd_numberUpTo_1 (s.2.1) (s.2.2.2)
noncomputable def L_Rd_numberUpTo_0 (v0R : Nat) (v1I : Int32) (σ : AM) : Option (Int32 × AM) := lp F_Rd_numberUpTo (0, v0R, v1I, σ)
noncomputable def L_Rd_numberUpTo_1 (v0R : Nat) (σ : AM) : Option (Int32 × AM) := lp F_Rd_numberUpTo (1, v0R, 0, σ)
set_option maxRecDepth 20000 in
theorem E_Rd_numberUpTo_0 (v0R : Nat) (v1I : Int32) (σ : AM) : L_Rd_numberUpTo_0 v0R v1I σ = (gd (okO σ v0R 2) <| bnd (M_Rd_advance v0R σ) fun _ σ2 => gd (okO σ2 v0R 2) <| if (aI σ2 v0R 4) = (2 : Int32) then (if (aI σ2 v0R 6) < (1 : Int32) then (L_Rd_numberUpTo_1 v0R σ2) else (if v1I < (aI σ2 v0R 6) then (L_Rd_numberUpTo_1 v0R σ2) else (letT (aI σ2 v0R 6) fun x5 => bnd (M_Rd_advance v0R σ2) fun _ σ7 => gd (okO σ7 v0R 2) <| bnd (M_Rd_expect v0R (59 : Int32) σ7) fun _ σ9 => (some (x5, σ9))))) else (bnd (M_Rd_fail v0R (1 : Int32) σ2) fun _ σ12 => (some ((1 : Int32), σ12)))) := by
  unfold L_Rd_numberUpTo_0
  rw [lp_eq]
  show lpK (lp F_Rd_numberUpTo) (T_Rd_numberUpTo_0 v0R v1I σ) = _
  unfold T_Rd_numberUpTo_0
  simp only [lpK_ite, lq_inl, lq_inr, lpK_bnd, lpK_gd, lq_let]
  try rfl
set_option maxRecDepth 20000 in
theorem E_Rd_numberUpTo_1 (v0R : Nat) (σ : AM) : L_Rd_numberUpTo_1 v0R σ = (gd (okO σ v0R 2) <| bnd (M_Rd_fail v0R (4 : Int32) σ) fun _ σ2 => (some ((1 : Int32), σ2))) := by
  unfold L_Rd_numberUpTo_1
  rw [lp_eq]
  show lpK (lp F_Rd_numberUpTo) (T_Rd_numberUpTo_1 v0R σ) = _
  unfold T_Rd_numberUpTo_1
  simp only [lpK_ite, lq_inl, lq_inr, lpK_bnd, lpK_gd, lq_let]
  try rfl
noncomputable def M_Rd_numberUpTo (v0R : Nat) (v1I : Int32) (σ : AM) : Option (Int32 × AM) := mw σ (L_Rd_numberUpTo_0 v0R v1I σ)
def I_Rd_numberUpTo (G : GX) (p : Program) (l : Launch) (e : Env) (s : State) (m : MethodId) (args : Array Value) (below : List Frame) (meth : Method) (c : Code) (z0 u0 n : Nat) : Prop :=
  (∀ (v0R : Nat) (v1I : Int32) (σ : AM), VX (QM eI G args s below z0 u0) G p l e s m args below meth c 6 z0 u0 3 (lpn F_Rd_numberUpTo n (0, v0R, v1I, σ)) 0 [(0, .ref v0R), (1, .int v1I)] [] σ) ∧
  (∀ (v0R : Nat) (σ : AM), VX (QM eI G args s below z0 u0) G p l e s m args below meth c 6 z0 u0 3 (lpn F_Rd_numberUpTo n (1, v0R, 0, σ)) 35 [(0, .ref v0R)] [] σ)
set_option maxRecDepth 20000 in
theorem s_Rd_numberUpTo_0 {G : GX} {p : Program} {l : Launch} {e : Env} {s : State} {m : MethodId} {args : Array Value} {below : List Frame} {meth : Method} {c : Code} {z0 u0 n : Nat} (C : Cx G p s m args meth c prog_9_method_16_code 3 "BellPlate$Reader" ((some FieldType.int))) (IH : I_Rd_numberUpTo G p l e s m args below meth c z0 u0 n) (v0R : Nat) (v1I : Int32) (σ : AM) : VX (QM eI G args s below z0 u0) G p l e s m args below meth c 6 z0 u0 3 (lpK (lpn F_Rd_numberUpTo n) (T_Rd_numberUpTo_0 v0R v1I σ)) 0 [(0, .ref v0R), (1, .int v1I)] [] σ := by
  unfold T_Rd_numberUpTo_0
  refine x_aload_n C d_Rd_numberUpTo_0 0 rfl ?_
  refine x_gd (fun h3 => ?_)
  refine x_callVV (As := []) C (c_Rd_advance G l v0R  σ) (okO_iff.mp h3) rfl w754 w6 w752 w755 w121 k_Rd_advance rfl (by decide) (by decide) rfl (Nat.le_of_ble_eq_true rfl) d_Rd_numberUpTo_1 (fun r1 σ2 => ?_)
  refine x_aload_n C d_Rd_numberUpTo_4 0 rfl ?_
  refine x_gd (fun h4 => ?_)
  refine x_getI (k := 4) C (okO_iff.mp h4) rfl j1_ok (by decide) rfl w208 d_Rd_numberUpTo_5 ?_
  refine x_iconst (v := (2 : Int32)) C d_Rd_numberUpTo_8 (by decide) ?_
  refine x_icmp_eq (tgt := 19) C d_Rd_numberUpTo_9 (by decide) (fun _ => ?_) (fun _ => ?_)
  · refine x_aload_n C d_Rd_numberUpTo_19 0 rfl ?_
    refine x_getI (k := 6) C (okO_iff.mp h4) rfl j1_ok (by decide) rfl w210 d_Rd_numberUpTo_20 ?_
    refine x_iconst (v := (1 : Int32)) C d_Rd_numberUpTo_23 (by decide) ?_
    refine x_icmp_lt (tgt := 35) C d_Rd_numberUpTo_24 (by decide) (fun _ => ?_) (fun _ => ?_)
    · refine x_lv [0] rfl ?_
      exact IH.2 v0R (σ2)
    · refine x_aload_n C d_Rd_numberUpTo_27 0 rfl ?_
      refine x_getI (k := 6) C (okO_iff.mp h4) rfl j1_ok (by decide) rfl w210 d_Rd_numberUpTo_28 ?_
      refine x_iload_n C d_Rd_numberUpTo_31 1 rfl ?_
      refine x_icmp_le (tgt := 42) C d_Rd_numberUpTo_32 (by decide) (fun _ => ?_) (fun _ => ?_)
      · refine x_lv [0] rfl ?_
        exact IH.2 v0R (σ2)
      · refine x_aload_n C d_Rd_numberUpTo_42 0 rfl ?_
        refine x_getI (k := 6) C (okO_iff.mp h4) rfl j1_ok (by decide) rfl w210 d_Rd_numberUpTo_43 ?_
        refine x_letI (fun x5 _ => ?_)
        refine x_istore_n (lv' := [(2, .int x5), (0, .ref v0R), (1, .int v1I)]) C d_Rd_numberUpTo_46 (by decide) rfl rfl ?_
        refine x_aload_n C d_Rd_numberUpTo_47 1 rfl ?_
        refine x_callVV (As := []) C (c_Rd_advance G l v0R  σ2) (okO_iff.mp h4) rfl w754 w6 w752 w755 w121 k_Rd_advance rfl (by decide) (by decide) rfl (Nat.le_of_ble_eq_true rfl) d_Rd_numberUpTo_48 (fun r6 σ7 => ?_)
        refine x_aload_n C d_Rd_numberUpTo_51 1 rfl ?_
        refine x_bipush (v := (59 : Int32)) C d_Rd_numberUpTo_52 (by decide) ?_
        refine x_gd (fun h10 => ?_)
        refine x_callVV (As := [.int (59 : Int32)]) C (c_Rd_expect G l v0R (59 : Int32) σ7) (okO_iff.mp h10) rfl w877 w11 w875 w878 w121 k_Rd_expect rfl (by decide) (by decide) rfl (Nat.le_of_ble_eq_true rfl) d_Rd_numberUpTo_54 (fun r8 σ9 => ?_)
        refine x_iload_n C d_Rd_numberUpTo_57 0 rfl ?_
        exact x_iret C d_Rd_numberUpTo_58
  · refine x_aload_n C d_Rd_numberUpTo_12 0 rfl ?_
    refine x_iconst (v := (1 : Int32)) C d_Rd_numberUpTo_13 (by decide) ?_
    refine x_callVV (As := [.int (1 : Int32)]) C (c_Rd_fail G l v0R (1 : Int32) σ2) (okO_iff.mp h4) rfl w865 w10 w863 w866 w121 k_Rd_fail rfl (by decide) (by decide) rfl (Nat.le_of_ble_eq_true rfl) d_Rd_numberUpTo_14 (fun r11 σ12 => ?_)
    refine x_iconst (v := (1 : Int32)) C d_Rd_numberUpTo_17 (by decide) ?_
    exact x_iret C d_Rd_numberUpTo_18
set_option maxRecDepth 20000 in
theorem s_Rd_numberUpTo_1 {G : GX} {p : Program} {l : Launch} {e : Env} {s : State} {m : MethodId} {args : Array Value} {below : List Frame} {meth : Method} {c : Code} {z0 u0 n : Nat} (C : Cx G p s m args meth c prog_9_method_16_code 3 "BellPlate$Reader" ((some FieldType.int))) (IH : I_Rd_numberUpTo G p l e s m args below meth c z0 u0 n) (v0R : Nat) (σ : AM) : VX (QM eI G args s below z0 u0) G p l e s m args below meth c 6 z0 u0 3 (lpK (lpn F_Rd_numberUpTo n) (T_Rd_numberUpTo_1 v0R σ)) 35 [(0, .ref v0R)] [] σ := by
  unfold T_Rd_numberUpTo_1
  refine x_aload_n C d_Rd_numberUpTo_35 0 rfl ?_
  refine x_iconst (v := (4 : Int32)) C d_Rd_numberUpTo_36 (by decide) ?_
  refine x_gd (fun h3 => ?_)
  refine x_callVV (As := [.int (4 : Int32)]) C (c_Rd_fail G l v0R (4 : Int32) σ) (okO_iff.mp h3) rfl w865 w10 w863 w866 w121 k_Rd_fail rfl (by decide) (by decide) rfl (Nat.le_of_ble_eq_true rfl) d_Rd_numberUpTo_37 (fun r1 σ2 => ?_)
  refine x_iconst (v := (1 : Int32)) C d_Rd_numberUpTo_40 (by decide) ?_
  exact x_iret C d_Rd_numberUpTo_41
theorem i_Rd_numberUpTo {G : GX} {p : Program} {l : Launch} {e : Env} {s : State} {m : MethodId} {args : Array Value} {below : List Frame} {meth : Method} {c : Code} {z0 u0 : Nat} (C : Cx G p s m args meth c prog_9_method_16_code 3 "BellPlate$Reader" ((some FieldType.int))) (n : Nat) : I_Rd_numberUpTo G p l e s m args below meth c z0 u0 n := by
  induction n with
  | zero => exact ⟨fun _ _ _ => x_none, fun _ _ => x_none⟩
  | succ n IH => exact ⟨fun v0R v1I σ => s_Rd_numberUpTo_0 C IH v0R v1I σ, fun v0R σ => s_Rd_numberUpTo_1 C IH v0R σ⟩
theorem c_Rd_numberUpTo (G : GX) (l : Launch) (v0R : Nat) (v1I : Int32) (σ : AM) : CT eI G l 6 y_Rd_numberUpTo prog_9_method_16_code 3 ((some FieldType.int)) [.ref v0R, .int v1I] σ (M_Rd_numberUpTo v0R v1I σ) := by
  refine ct_of (by decide +kernel) (Nat.le_of_ble_eq_true rfl) (fun p e s m args below meth c C hin => ?_)
  refine x_lve (lv' := [(0, .ref v0R), (1, .int v1I)]) rfl ?_
  intro r σ' h
  obtain ⟨n, hn⟩ := (lp_iff _ _ _).mp h
  exact (i_Rd_numberUpTo C n).1 v0R v1I σ r σ' hn
/-! BellPlate$Reader.mostLine()V -/
abbrev y_Rd_mostLine : MethodName := ⟨"BellPlate$Reader", "mostLine", "()V"⟩
theorem k_Rd_mostLine : y_Rd_mostLine.cls ≠ "java/lang/invoke/MethodHandle" ∧ y_Rd_mostLine.cls ≠ "java/lang/invoke/VarHandle" ∧ (parseMethodDescriptor y_Rd_mostLine.desc).map (fun d => d.parameters.length) = some 0 := by decide +kernel
theorem d_Rd_mostLine_0 : decode prog_9_method_14_code 0 = .ok (.aload_n 0, 1) := by decide +kernel
theorem d_Rd_mostLine_1 : decode prog_9_method_14_code 1 = .ok (.getfield 34, 3) := by decide +kernel
theorem d_Rd_mostLine_4 : decode prog_9_method_14_code 4 = .ok (.ifCond .eq 9, 3) := by decide +kernel
theorem d_Rd_mostLine_7 : decode prog_9_method_14_code 7 = .ok (.aload_n 0, 1) := by decide +kernel
theorem d_Rd_mostLine_8 : decode prog_9_method_14_code 8 = .ok (.iconst 3, 1) := by decide +kernel
theorem d_Rd_mostLine_9 : decode prog_9_method_14_code 9 = .ok (.invokevirtual 68, 3) := by decide +kernel
theorem d_Rd_mostLine_12 : decode prog_9_method_14_code 12 = .ok (.return_, 1) := by decide +kernel
theorem d_Rd_mostLine_13 : decode prog_9_method_14_code 13 = .ok (.aload_n 0, 1) := by decide +kernel
theorem d_Rd_mostLine_14 : decode prog_9_method_14_code 14 = .ok (.iconst 1, 1) := by decide +kernel
theorem d_Rd_mostLine_15 : decode prog_9_method_14_code 15 = .ok (.putfield 34, 3) := by decide +kernel
theorem d_Rd_mostLine_18 : decode prog_9_method_14_code 18 = .ok (.aload_n 0, 1) := by decide +kernel
theorem d_Rd_mostLine_19 : decode prog_9_method_14_code 19 = .ok (.getfield 18, 3) := by decide +kernel
theorem d_Rd_mostLine_22 : decode prog_9_method_14_code 22 = .ok (.aload_n 0, 1) := by decide +kernel
theorem d_Rd_mostLine_23 : decode prog_9_method_14_code 23 = .ok (.bipush 9, 2) := by decide +kernel
theorem d_Rd_mostLine_25 : decode prog_9_method_14_code 25 = .ok (.invokevirtual 128, 3) := by decide +kernel
theorem d_Rd_mostLine_28 : decode prog_9_method_14_code 28 = .ok (.invokevirtual 131, 3) := by decide +kernel
theorem d_Rd_mostLine_31 : decode prog_9_method_14_code 31 = .ok (.return_, 1) := by decide +kernel
abbrev S_Rd_mostLine : Type := Nat × Nat × AM
noncomputable def T_Rd_mostLine_0 (v0R : Nat) (σ : AM) : S_Rd_mostLine ⊕ Option (Unit × AM) :=
  gdT (okO σ v0R 2) <| if (aI σ v0R 9) = 0 then (letT (sI σ v0R 9 (1 : Int32)) fun σ2 => gdT (okO σ2 (aR σ2 v0R 1) 1) <| bndT (M_Rd_numberUpTo v0R (9 : Int32) σ2) fun r5 σ6 => gdT (okO σ6 (aR σ2 v0R 1) 1) <| bndT (M_Tw_setMost (aR σ2 v0R 1) r5 σ6) fun _ σ8 => .inr (some ((), σ8))) else (bndT (M_Rd_fail v0R (3 : Int32) σ) fun _ σ11 => .inr (some ((), σ11)))
noncomputable def F_Rd_mostLine : S_Rd_mostLine → S_Rd_mostLine ⊕ Option (Unit × AM) := fun s => match s.1 with
  | _ => T_Rd_mostLine_0 (s.2.1) (s.2.2)
noncomputable def L_Rd_mostLine_0 (v0R : Nat) (σ : AM) : Option (Unit × AM) := lp F_Rd_mostLine (0, v0R, σ)
set_option maxRecDepth 20000 in
theorem E_Rd_mostLine_0 (v0R : Nat) (σ : AM) : L_Rd_mostLine_0 v0R σ = (gd (okO σ v0R 2) <| if (aI σ v0R 9) = 0 then (letT (sI σ v0R 9 (1 : Int32)) fun σ2 => gd (okO σ2 (aR σ2 v0R 1) 1) <| bnd (M_Rd_numberUpTo v0R (9 : Int32) σ2) fun r5 σ6 => gd (okO σ6 (aR σ2 v0R 1) 1) <| bnd (M_Tw_setMost (aR σ2 v0R 1) r5 σ6) fun _ σ8 => (some ((), σ8))) else (bnd (M_Rd_fail v0R (3 : Int32) σ) fun _ σ11 => (some ((), σ11)))) := by
  unfold L_Rd_mostLine_0
  rw [lp_eq]
  show lpK (lp F_Rd_mostLine) (T_Rd_mostLine_0 v0R σ) = _
  unfold T_Rd_mostLine_0
  simp only [lpK_ite, lq_inl, lq_inr, lpK_bnd, lpK_gd, lq_let]
  try rfl
noncomputable def M_Rd_mostLine (v0R : Nat) (σ : AM) : Option (Unit × AM) := mw σ (L_Rd_mostLine_0 v0R σ)
def I_Rd_mostLine (G : GX) (p : Program) (l : Launch) (e : Env) (s : State) (m : MethodId) (args : Array Value) (below : List Frame) (meth : Method) (c : Code) (z0 u0 n : Nat) : Prop :=
  (∀ (v0R : Nat) (σ : AM), VX (QM eV G args s below z0 u0) G p l e s m args below meth c 7 z0 u0 1 (lpn F_Rd_mostLine n (0, v0R, σ)) 0 [(0, .ref v0R)] [] σ)
set_option maxRecDepth 20000 in
theorem s_Rd_mostLine_0 {G : GX} {p : Program} {l : Launch} {e : Env} {s : State} {m : MethodId} {args : Array Value} {below : List Frame} {meth : Method} {c : Code} {z0 u0 n : Nat} (C : Cx G p s m args meth c prog_9_method_14_code 1 "BellPlate$Reader" ((none))) (IH : I_Rd_mostLine G p l e s m args below meth c z0 u0 n) (v0R : Nat) (σ : AM) : VX (QM eV G args s below z0 u0) G p l e s m args below meth c 7 z0 u0 1 (lpK (lpn F_Rd_mostLine n) (T_Rd_mostLine_0 v0R σ)) 0 [(0, .ref v0R)] [] σ := by
  unfold T_Rd_mostLine_0
  refine x_aload_n C d_Rd_mostLine_0 0 rfl ?_
  refine x_gd (fun h1 => ?_)
  refine x_getI (k := 9) C (okO_iff.mp h1) rfl j1_ok (by decide) rfl w213 d_Rd_mostLine_1 ?_
  refine x_if_eq (tgt := 13) C d_Rd_mostLine_4 (by decide) (fun _ => ?_) (fun _ => ?_)
  · refine x_aload_n C d_Rd_mostLine_13 0 rfl ?_
    refine x_iconst (v := (1 : Int32)) C d_Rd_mostLine_14 (by decide) ?_
    refine x_putI (k := 9) C (okO_iff.mp h1) rfl j1_ok y1_ok n1_ok (by decide) rfl rfl (by decide) (by decide) w213 d_Rd_mostLine_15 ?_
    refine x_letS (fun σ2 e3 => ?_)
    refine x_aload_n C d_Rd_mostLine_18 0 rfl ?_
    refine x_gd (fun h4 => ?_)
    refine x_getR (k := 1) (kv := 1) C (by first | exact (okO_iff.mp h1) | (rw [e3]; exact (okO_iff.mp h1))) rfl j1_ok (by decide) rfl (okO_iff.mp h4) (by decide) w205 d_Rd_mostLine_19 ?_
    refine x_aload_n C d_Rd_mostLine_22 0 rfl ?_
    refine x_bipush (v := (9 : Int32)) C d_Rd_mostLine_23 (by decide) ?_
    refine x_callVI (As := [.int (9 : Int32)]) C (c_Rd_numberUpTo G l v0R (9 : Int32) σ2) (by first | exact (okO_iff.mp h1) | (rw [e3]; exact (okO_iff.mp h1))) rfl w885 w13 w883 w886 w121 k_Rd_numberUpTo rfl (by decide) (by decide) rfl (Nat.le_of_ble_eq_true rfl) d_Rd_mostLine_25 (fun r5 σ6 => ?_)
    refine x_gd (fun h9 => ?_)
    refine x_callVV (As := [.int r5]) C (c_Tw_setMost G l (aR σ2 v0R 1) r5 σ6) (okO_iff.mp h9) rfl w888 w889 w887 w890 w122 k_Tw_setMost rfl (by decide) (by decide) rfl (Nat.le_of_ble_eq_true rfl) d_Rd_mostLine_28 (fun r7 σ8 => ?_)
    exact x_vret C d_Rd_mostLine_31
  · refine x_aload_n C d_Rd_mostLine_7 0 rfl ?_
    refine x_iconst (v := (3 : Int32)) C d_Rd_mostLine_8 (by decide) ?_
    refine x_callVV (As := [.int (3 : Int32)]) C (c_Rd_fail G l v0R (3 : Int32) σ) (okO_iff.mp h1) rfl w865 w10 w863 w866 w121 k_Rd_fail rfl (by decide) (by decide) rfl (Nat.le_of_ble_eq_true rfl) d_Rd_mostLine_9 (fun r10 σ11 => ?_)
    exact x_vret C d_Rd_mostLine_12
theorem i_Rd_mostLine {G : GX} {p : Program} {l : Launch} {e : Env} {s : State} {m : MethodId} {args : Array Value} {below : List Frame} {meth : Method} {c : Code} {z0 u0 : Nat} (C : Cx G p s m args meth c prog_9_method_14_code 1 "BellPlate$Reader" ((none))) (n : Nat) : I_Rd_mostLine G p l e s m args below meth c z0 u0 n := by
  induction n with
  | zero => exact fun _ _ => x_none
  | succ n IH => exact fun v0R σ => s_Rd_mostLine_0 C IH v0R σ
theorem c_Rd_mostLine (G : GX) (l : Launch) (v0R : Nat) (σ : AM) : CT eV G l 7 y_Rd_mostLine prog_9_method_14_code 1 (none) [.ref v0R] σ (M_Rd_mostLine v0R σ) := by
  refine ct_of (by decide +kernel) (Nat.le_of_ble_eq_true rfl) (fun p e s m args below meth c C hin => ?_)
  refine x_lve (lv' := [(0, .ref v0R)]) rfl ?_
  intro r σ' h
  obtain ⟨n, hn⟩ := (lp_iff _ _ _).mp h
  exact (i_Rd_mostLine C n) v0R σ r σ' hn
/-! BellPlate$Reader.barLine()V -/
abbrev y_Rd_barLine : MethodName := ⟨"BellPlate$Reader", "barLine", "()V"⟩
theorem k_Rd_barLine : y_Rd_barLine.cls ≠ "java/lang/invoke/MethodHandle" ∧ y_Rd_barLine.cls ≠ "java/lang/invoke/VarHandle" ∧ (parseMethodDescriptor y_Rd_barLine.desc).map (fun d => d.parameters.length) = some 0 := by decide +kernel
theorem d_Rd_barLine_0 : decode prog_9_method_15_code 0 = .ok (.aload_n 0, 1) := by decide +kernel
theorem d_Rd_barLine_1 : decode prog_9_method_15_code 1 = .ok (.getfield 38, 3) := by decide +kernel
theorem d_Rd_barLine_4 : decode prog_9_method_15_code 4 = .ok (.ifCond .eq 9, 3) := by decide +kernel
theorem d_Rd_barLine_7 : decode prog_9_method_15_code 7 = .ok (.aload_n 0, 1) := by decide +kernel
theorem d_Rd_barLine_8 : decode prog_9_method_15_code 8 = .ok (.iconst 3, 1) := by decide +kernel
theorem d_Rd_barLine_9 : decode prog_9_method_15_code 9 = .ok (.invokevirtual 68, 3) := by decide +kernel
theorem d_Rd_barLine_12 : decode prog_9_method_15_code 12 = .ok (.return_, 1) := by decide +kernel
theorem d_Rd_barLine_13 : decode prog_9_method_15_code 13 = .ok (.aload_n 0, 1) := by decide +kernel
theorem d_Rd_barLine_14 : decode prog_9_method_15_code 14 = .ok (.iconst 1, 1) := by decide +kernel
theorem d_Rd_barLine_15 : decode prog_9_method_15_code 15 = .ok (.putfield 38, 3) := by decide +kernel
theorem d_Rd_barLine_18 : decode prog_9_method_15_code 18 = .ok (.aload_n 0, 1) := by decide +kernel
theorem d_Rd_barLine_19 : decode prog_9_method_15_code 19 = .ok (.getfield 18, 3) := by decide +kernel
theorem d_Rd_barLine_22 : decode prog_9_method_15_code 22 = .ok (.aload_n 0, 1) := by decide +kernel
theorem d_Rd_barLine_23 : decode prog_9_method_15_code 23 = .ok (.bipush 60, 2) := by decide +kernel
theorem d_Rd_barLine_25 : decode prog_9_method_15_code 25 = .ok (.invokevirtual 128, 3) := by decide +kernel
theorem d_Rd_barLine_28 : decode prog_9_method_15_code 28 = .ok (.invokevirtual 134, 3) := by decide +kernel
theorem d_Rd_barLine_31 : decode prog_9_method_15_code 31 = .ok (.return_, 1) := by decide +kernel
abbrev S_Rd_barLine : Type := Nat × Nat × AM
noncomputable def T_Rd_barLine_0 (v0R : Nat) (σ : AM) : S_Rd_barLine ⊕ Option (Unit × AM) :=
  gdT (okO σ v0R 2) <| if (aI σ v0R 10) = 0 then (letT (sI σ v0R 10 (1 : Int32)) fun σ2 => gdT (okO σ2 (aR σ2 v0R 1) 1) <| bndT (M_Rd_numberUpTo v0R (60 : Int32) σ2) fun r5 σ6 => gdT (okO σ6 (aR σ2 v0R 1) 1) <| bndT (M_Tw_setBar (aR σ2 v0R 1) r5 σ6) fun _ σ8 => .inr (some ((), σ8))) else (bndT (M_Rd_fail v0R (3 : Int32) σ) fun _ σ11 => .inr (some ((), σ11)))
noncomputable def F_Rd_barLine : S_Rd_barLine → S_Rd_barLine ⊕ Option (Unit × AM) := fun s => match s.1 with
  | _ => T_Rd_barLine_0 (s.2.1) (s.2.2)
noncomputable def L_Rd_barLine_0 (v0R : Nat) (σ : AM) : Option (Unit × AM) := lp F_Rd_barLine (0, v0R, σ)
set_option maxRecDepth 20000 in
theorem E_Rd_barLine_0 (v0R : Nat) (σ : AM) : L_Rd_barLine_0 v0R σ = (gd (okO σ v0R 2) <| if (aI σ v0R 10) = 0 then (letT (sI σ v0R 10 (1 : Int32)) fun σ2 => gd (okO σ2 (aR σ2 v0R 1) 1) <| bnd (M_Rd_numberUpTo v0R (60 : Int32) σ2) fun r5 σ6 => gd (okO σ6 (aR σ2 v0R 1) 1) <| bnd (M_Tw_setBar (aR σ2 v0R 1) r5 σ6) fun _ σ8 => (some ((), σ8))) else (bnd (M_Rd_fail v0R (3 : Int32) σ) fun _ σ11 => (some ((), σ11)))) := by
  unfold L_Rd_barLine_0
  rw [lp_eq]
  show lpK (lp F_Rd_barLine) (T_Rd_barLine_0 v0R σ) = _
  unfold T_Rd_barLine_0
  simp only [lpK_ite, lq_inl, lq_inr, lpK_bnd, lpK_gd, lq_let]
  try rfl
noncomputable def M_Rd_barLine (v0R : Nat) (σ : AM) : Option (Unit × AM) := mw σ (L_Rd_barLine_0 v0R σ)
def I_Rd_barLine (G : GX) (p : Program) (l : Launch) (e : Env) (s : State) (m : MethodId) (args : Array Value) (below : List Frame) (meth : Method) (c : Code) (z0 u0 n : Nat) : Prop :=
  (∀ (v0R : Nat) (σ : AM), VX (QM eV G args s below z0 u0) G p l e s m args below meth c 7 z0 u0 1 (lpn F_Rd_barLine n (0, v0R, σ)) 0 [(0, .ref v0R)] [] σ)
set_option maxRecDepth 20000 in
theorem s_Rd_barLine_0 {G : GX} {p : Program} {l : Launch} {e : Env} {s : State} {m : MethodId} {args : Array Value} {below : List Frame} {meth : Method} {c : Code} {z0 u0 n : Nat} (C : Cx G p s m args meth c prog_9_method_15_code 1 "BellPlate$Reader" ((none))) (IH : I_Rd_barLine G p l e s m args below meth c z0 u0 n) (v0R : Nat) (σ : AM) : VX (QM eV G args s below z0 u0) G p l e s m args below meth c 7 z0 u0 1 (lpK (lpn F_Rd_barLine n) (T_Rd_barLine_0 v0R σ)) 0 [(0, .ref v0R)] [] σ := by
  unfold T_Rd_barLine_0
  refine x_aload_n C d_Rd_barLine_0 0 rfl ?_
  refine x_gd (fun h1 => ?_)
  refine x_getI (k := 10) C (okO_iff.mp h1) rfl j1_ok (by decide) rfl w214 d_Rd_barLine_1 ?_
  refine x_if_eq (tgt := 13) C d_Rd_barLine_4 (by decide) (fun _ => ?_) (fun _ => ?_)
  · refine x_aload_n C d_Rd_barLine_13 0 rfl ?_
    refine x_iconst (v := (1 : Int32)) C d_Rd_barLine_14 (by decide) ?_
    refine x_putI (k := 10) C (okO_iff.mp h1) rfl j1_ok y1_ok n1_ok (by decide) rfl rfl (by decide) (by decide) w214 d_Rd_barLine_15 ?_
    refine x_letS (fun σ2 e3 => ?_)
    refine x_aload_n C d_Rd_barLine_18 0 rfl ?_
    refine x_gd (fun h4 => ?_)
    refine x_getR (k := 1) (kv := 1) C (by first | exact (okO_iff.mp h1) | (rw [e3]; exact (okO_iff.mp h1))) rfl j1_ok (by decide) rfl (okO_iff.mp h4) (by decide) w205 d_Rd_barLine_19 ?_
    refine x_aload_n C d_Rd_barLine_22 0 rfl ?_
    refine x_bipush (v := (60 : Int32)) C d_Rd_barLine_23 (by decide) ?_
    refine x_callVI (As := [.int (60 : Int32)]) C (c_Rd_numberUpTo G l v0R (60 : Int32) σ2) (by first | exact (okO_iff.mp h1) | (rw [e3]; exact (okO_iff.mp h1))) rfl w885 w13 w883 w886 w121 k_Rd_numberUpTo rfl (by decide) (by decide) rfl (Nat.le_of_ble_eq_true rfl) d_Rd_barLine_25 (fun r5 σ6 => ?_)
    refine x_gd (fun h9 => ?_)
    refine x_callVV (As := [.int r5]) C (c_Tw_setBar G l (aR σ2 v0R 1) r5 σ6) (okO_iff.mp h9) rfl w896 w897 w895 w898 w122 k_Tw_setBar rfl (by decide) (by decide) rfl (Nat.le_of_ble_eq_true rfl) d_Rd_barLine_28 (fun r7 σ8 => ?_)
    exact x_vret C d_Rd_barLine_31
  · refine x_aload_n C d_Rd_barLine_7 0 rfl ?_
    refine x_iconst (v := (3 : Int32)) C d_Rd_barLine_8 (by decide) ?_
    refine x_callVV (As := [.int (3 : Int32)]) C (c_Rd_fail G l v0R (3 : Int32) σ) (okO_iff.mp h1) rfl w865 w10 w863 w866 w121 k_Rd_fail rfl (by decide) (by decide) rfl (Nat.le_of_ble_eq_true rfl) d_Rd_barLine_9 (fun r10 σ11 => ?_)
    exact x_vret C d_Rd_barLine_12
theorem i_Rd_barLine {G : GX} {p : Program} {l : Launch} {e : Env} {s : State} {m : MethodId} {args : Array Value} {below : List Frame} {meth : Method} {c : Code} {z0 u0 : Nat} (C : Cx G p s m args meth c prog_9_method_15_code 1 "BellPlate$Reader" ((none))) (n : Nat) : I_Rd_barLine G p l e s m args below meth c z0 u0 n := by
  induction n with
  | zero => exact fun _ _ => x_none
  | succ n IH => exact fun v0R σ => s_Rd_barLine_0 C IH v0R σ
theorem c_Rd_barLine (G : GX) (l : Launch) (v0R : Nat) (σ : AM) : CT eV G l 7 y_Rd_barLine prog_9_method_15_code 1 (none) [.ref v0R] σ (M_Rd_barLine v0R σ) := by
  refine ct_of (by decide +kernel) (Nat.le_of_ble_eq_true rfl) (fun p e s m args below meth c C hin => ?_)
  refine x_lve (lv' := [(0, .ref v0R)]) rfl ?_
  intro r σ' h
  obtain ⟨n, hn⟩ := (lp_iff _ _ _).mp h
  exact (i_Rd_barLine C n) v0R σ r σ' hn
/-! BellPlate$Reader.faultOfPart(I)I -/
abbrev y_Rd_faultOfPart : MethodName := ⟨"BellPlate$Reader", "faultOfPart", "(I)I"⟩
theorem k_Rd_faultOfPart : y_Rd_faultOfPart.cls ≠ "java/lang/invoke/MethodHandle" ∧ y_Rd_faultOfPart.cls ≠ "java/lang/invoke/VarHandle" ∧ (parseMethodDescriptor y_Rd_faultOfPart.desc).map (fun d => d.parameters.length) = some 1 := by decide +kernel
theorem d_Rd_faultOfPart_0 : decode prog_9_method_24_code 0 = .ok (.aload_n 0, 1) := by decide +kernel
theorem d_Rd_faultOfPart_1 : decode prog_9_method_24_code 1 = .ok (.getfield 50, 3) := by decide +kernel
theorem d_Rd_faultOfPart_4 : decode prog_9_method_24_code 4 = .ok (.iconst 2, 1) := by decide +kernel
theorem d_Rd_faultOfPart_5 : decode prog_9_method_24_code 5 = .ok (.if_icmp .eq 50, 3) := by decide +kernel
theorem d_Rd_faultOfPart_8 : decode prog_9_method_24_code 8 = .ok (.aload_n 0, 1) := by decide +kernel
theorem d_Rd_faultOfPart_9 : decode prog_9_method_24_code 9 = .ok (.getfield 50, 3) := by decide +kernel
theorem d_Rd_faultOfPart_12 : decode prog_9_method_24_code 12 = .ok (.iconst 3, 1) := by decide +kernel
theorem d_Rd_faultOfPart_13 : decode prog_9_method_24_code 13 = .ok (.if_icmp .eq 42, 3) := by decide +kernel
theorem d_Rd_faultOfPart_16 : decode prog_9_method_24_code 16 = .ok (.aload_n 0, 1) := by decide +kernel
theorem d_Rd_faultOfPart_17 : decode prog_9_method_24_code 17 = .ok (.getfield 50, 3) := by decide +kernel
theorem d_Rd_faultOfPart_20 : decode prog_9_method_24_code 20 = .ok (.bipush 9, 2) := by decide +kernel
theorem d_Rd_faultOfPart_22 : decode prog_9_method_24_code 22 = .ok (.if_icmp .eq 33, 3) := by decide +kernel
theorem d_Rd_faultOfPart_25 : decode prog_9_method_24_code 25 = .ok (.aload_n 0, 1) := by decide +kernel
theorem d_Rd_faultOfPart_26 : decode prog_9_method_24_code 26 = .ok (.getfield 50, 3) := by decide +kernel
theorem d_Rd_faultOfPart_29 : decode prog_9_method_24_code 29 = .ok (.bipush 40, 2) := by decide +kernel
theorem d_Rd_faultOfPart_31 : decode prog_9_method_24_code 31 = .ok (.if_icmp .eq 24, 3) := by decide +kernel
theorem d_Rd_faultOfPart_34 : decode prog_9_method_24_code 34 = .ok (.aload_n 0, 1) := by decide +kernel
theorem d_Rd_faultOfPart_35 : decode prog_9_method_24_code 35 = .ok (.getfield 50, 3) := by decide +kernel
theorem d_Rd_faultOfPart_38 : decode prog_9_method_24_code 38 = .ok (.aload_n 0, 1) := by decide +kernel
theorem d_Rd_faultOfPart_39 : decode prog_9_method_24_code 39 = .ok (.getfield 140, 3) := by decide +kernel
theorem d_Rd_faultOfPart_42 : decode prog_9_method_24_code 42 = .ok (.ifCond .eq 8, 3) := by decide +kernel
theorem d_Rd_faultOfPart_45 : decode prog_9_method_24_code 45 = .ok (.bipush 13, 2) := by decide +kernel
theorem d_Rd_faultOfPart_47 : decode prog_9_method_24_code 47 = .ok (.goto 5, 3) := by decide +kernel
theorem d_Rd_faultOfPart_50 : decode prog_9_method_24_code 50 = .ok (.bipush 12, 2) := by decide +kernel
theorem d_Rd_faultOfPart_52 : decode prog_9_method_24_code 52 = .ok (.if_icmp .ne 7, 3) := by decide +kernel
theorem d_Rd_faultOfPart_55 : decode prog_9_method_24_code 55 = .ok (.iconst 1, 1) := by decide +kernel
theorem d_Rd_faultOfPart_56 : decode prog_9_method_24_code 56 = .ok (.goto 4, 3) := by decide +kernel
theorem d_Rd_faultOfPart_59 : decode prog_9_method_24_code 59 = .ok (.iconst 0, 1) := by decide +kernel
theorem d_Rd_faultOfPart_60 : decode prog_9_method_24_code 60 = .ok (.istore_n 2, 1) := by decide +kernel
theorem d_Rd_faultOfPart_61 : decode prog_9_method_24_code 61 = .ok (.iload_n 2, 1) := by decide +kernel
theorem d_Rd_faultOfPart_62 : decode prog_9_method_24_code 62 = .ok (.ifCond .ne 5, 3) := by decide +kernel
theorem d_Rd_faultOfPart_65 : decode prog_9_method_24_code 65 = .ok (.iconst 1, 1) := by decide +kernel
theorem d_Rd_faultOfPart_66 : decode prog_9_method_24_code 66 = .ok (.ireturn, 1) := by decide +kernel
theorem d_Rd_faultOfPart_67 : decode prog_9_method_24_code 67 = .ok (.aload_n 0, 1) := by decide +kernel
theorem d_Rd_faultOfPart_68 : decode prog_9_method_24_code 68 = .ok (.getfield 50, 3) := by decide +kernel
theorem d_Rd_faultOfPart_71 : decode prog_9_method_24_code 71 = .ok (.iconst 3, 1) := by decide +kernel
theorem d_Rd_faultOfPart_72 : decode prog_9_method_24_code 72 = .ok (.if_icmp .ne 20, 3) := by decide +kernel
theorem d_Rd_faultOfPart_75 : decode prog_9_method_24_code 75 = .ok (.aload_n 0, 1) := by decide +kernel
theorem d_Rd_faultOfPart_76 : decode prog_9_method_24_code 76 = .ok (.getfield 18, 3) := by decide +kernel
theorem d_Rd_faultOfPart_79 : decode prog_9_method_24_code 79 = .ok (.aload_n 0, 1) := by decide +kernel
theorem d_Rd_faultOfPart_80 : decode prog_9_method_24_code 80 = .ok (.getfield 103, 3) := by decide +kernel
theorem d_Rd_faultOfPart_83 : decode prog_9_method_24_code 83 = .ok (.invokevirtual 117, 3) := by decide +kernel
theorem d_Rd_faultOfPart_86 : decode prog_9_method_24_code 86 = .ok (.iconst (-1), 1) := by decide +kernel
theorem d_Rd_faultOfPart_87 : decode prog_9_method_24_code 87 = .ok (.if_icmp .ne 5, 3) := by decide +kernel
theorem d_Rd_faultOfPart_90 : decode prog_9_method_24_code 90 = .ok (.iconst 2, 1) := by decide +kernel
theorem d_Rd_faultOfPart_91 : decode prog_9_method_24_code 91 = .ok (.ireturn, 1) := by decide +kernel
theorem d_Rd_faultOfPart_92 : decode prog_9_method_24_code 92 = .ok (.iload_n 1, 1) := by decide +kernel
theorem d_Rd_faultOfPart_93 : decode prog_9_method_24_code 93 = .ok (.iconst 5, 1) := by decide +kernel
theorem d_Rd_faultOfPart_94 : decode prog_9_method_24_code 94 = .ok (.if_icmp .lt 7, 3) := by decide +kernel
theorem d_Rd_faultOfPart_97 : decode prog_9_method_24_code 97 = .ok (.iconst 5, 1) := by decide +kernel
theorem d_Rd_faultOfPart_98 : decode prog_9_method_24_code 98 = .ok (.goto 4, 3) := by decide +kernel
theorem d_Rd_faultOfPart_101 : decode prog_9_method_24_code 101 = .ok (.iconst 0, 1) := by decide +kernel
theorem d_Rd_faultOfPart_102 : decode prog_9_method_24_code 102 = .ok (.ireturn, 1) := by decide +kernel
abbrev S_Rd_faultOfPart : Type := Nat × Nat × Int32 × Int32 × Int32 × AM
noncomputable def T_Rd_faultOfPart_0 (v0R : Nat) (v1I : Int32) (σ : AM) : S_Rd_faultOfPart ⊕ Option (Int32 × AM) :=
  gdT (okO σ v0R 2) <| if (aI σ v0R 4) = (2 : Int32) then (.inl (2, v0R, v1I, 0, 0, σ)) else (if (aI σ v0R 4) = (3 : Int32) then (.inl (2, v0R, v1I, 0, 0, σ)) else (if (aI σ v0R 4) = (9 : Int32) then (.inl (2, v0R, v1I, 0, 0, σ)) else (if (aI σ v0R 4) = (40 : Int32) then (.inl (2, v0R, v1I, 0, 0, σ)) else (if (aI σ v0R 12) = 0 then (.inl (1, v0R, v1I, aI σ v0R 4, (12 : Int32), σ)) else (.inl (1, v0R, v1I, aI σ v0R 4, (13 : Int32), σ))))))
noncomputable def T_Rd_faultOfPart_1 (v0R : Nat) (v1I : Int32) (s0I : Int32) (s1I : Int32) (σ : AM) : S_Rd_faultOfPart ⊕ Option (Int32 × AM) :=
  if s0I = s1I then (.inl (2, v0R, v1I, 0, 0, σ)) else (.inl (3, v0R, v1I, (0 : Int32), 0, σ))
noncomputable def T_Rd_faultOfPart_2 (v0R : Nat) (v1I : Int32) (σ : AM) : S_Rd_faultOfPart ⊕ Option (Int32 × AM) :=
  .inl (3, v0R, v1I, (1 : Int32), 0, σ)
noncomputable def T_Rd_faultOfPart_3 (v0R : Nat) (v1I : Int32) (s0I : Int32) (σ : AM) : S_Rd_faultOfPart ⊕ Option (Int32 × AM) :=
  if s0I = 0 then (.inr (some ((1 : Int32), σ))) else (gdT (okO σ v0R 2) <| if (aI σ v0R 4) = (3 : Int32) then (gdT (okO σ (aR σ v0R 1) 1) <| bndT (M_Tw_thingNamed (aR σ v0R 1) (aL σ v0R 7) σ) fun r3 σ4 => if r3 = ((-1) : Int32) then (.inr (some ((2 : Int32), σ4))) else (.inl (4, 0, v1I, 0, 0, σ4))) else (.inl (4, 0, v1I, 0, 0, σ)))
noncomputable def T_Rd_faultOfPart_4 (v1I : Int32) (σ : AM) : S_Rd_faultOfPart ⊕ Option (Int32 × AM) :=
  if v1I < (5 : Int32) then (.inl (5, 0, 0, (0 : Int32), 0, σ)) else (.inl (5, 0, 0, (5 : Int32), 0, σ))
noncomputable def T_Rd_faultOfPart_5 (s0I : Int32) (σ : AM) : S_Rd_faultOfPart ⊕ Option (Int32 × AM) :=
  .inr (some (s0I, σ))
noncomputable def F_Rd_faultOfPart : S_Rd_faultOfPart → S_Rd_faultOfPart ⊕ Option (Int32 × AM) := fun s => match s.1 with
  | 0 => T_Rd_faultOfPart_0 (s.2.1) (s.2.2.1) (s.2.2.2.2.2)
  | 1 => T_Rd_faultOfPart_1 (s.2.1) (s.2.2.1) (s.2.2.2.1) (s.2.2.2.2.1) (s.2.2.2.2.2)
  | 2 => T_Rd_faultOfPart_2 (s.2.1) (s.2.2.1) (s.2.2.2.2.2)
  | 3 => T_Rd_faultOfPart_3 (s.2.1) (s.2.2.1) (s.2.2.2.1) (s.2.2.2.2.2)
  | 4 => T_Rd_faultOfPart_4 (s.2.2.1) (s.2.2.2.2.2)
  | _ => T_Rd_faultOfPart_5 (s.2.2.2.1) (s.2.2.2.2.2)
noncomputable def L_Rd_faultOfPart_0 (v0R : Nat) (v1I : Int32) (σ : AM) : Option (Int32 × AM) := lp F_Rd_faultOfPart (0, v0R, v1I, 0, 0, σ)
noncomputable def L_Rd_faultOfPart_1 (v0R : Nat) (v1I : Int32) (s0I : Int32) (s1I : Int32) (σ : AM) : Option (Int32 × AM) := lp F_Rd_faultOfPart (1, v0R, v1I, s0I, s1I, σ)
noncomputable def L_Rd_faultOfPart_2 (v0R : Nat) (v1I : Int32) (σ : AM) : Option (Int32 × AM) := lp F_Rd_faultOfPart (2, v0R, v1I, 0, 0, σ)
noncomputable def L_Rd_faultOfPart_3 (v0R : Nat) (v1I : Int32) (s0I : Int32) (σ : AM) : Option (Int32 × AM) := lp F_Rd_faultOfPart (3, v0R, v1I, s0I, 0, σ)
noncomputable def L_Rd_faultOfPart_4 (v1I : Int32) (σ : AM) : Option (Int32 × AM) := lp F_Rd_faultOfPart (4, 0, v1I, 0, 0, σ)
noncomputable def L_Rd_faultOfPart_5 (s0I : Int32) (σ : AM) : Option (Int32 × AM) := lp F_Rd_faultOfPart (5, 0, 0, s0I, 0, σ)
set_option maxRecDepth 20000 in
theorem E_Rd_faultOfPart_0 (v0R : Nat) (v1I : Int32) (σ : AM) : L_Rd_faultOfPart_0 v0R v1I σ = (gd (okO σ v0R 2) <| if (aI σ v0R 4) = (2 : Int32) then (L_Rd_faultOfPart_2 v0R v1I σ) else (if (aI σ v0R 4) = (3 : Int32) then (L_Rd_faultOfPart_2 v0R v1I σ) else (if (aI σ v0R 4) = (9 : Int32) then (L_Rd_faultOfPart_2 v0R v1I σ) else (if (aI σ v0R 4) = (40 : Int32) then (L_Rd_faultOfPart_2 v0R v1I σ) else (if (aI σ v0R 12) = 0 then (L_Rd_faultOfPart_1 v0R v1I (aI σ v0R 4) ((12 : Int32)) σ) else (L_Rd_faultOfPart_1 v0R v1I (aI σ v0R 4) ((13 : Int32)) σ)))))) := by
  unfold L_Rd_faultOfPart_0
  rw [lp_eq]
  show lpK (lp F_Rd_faultOfPart) (T_Rd_faultOfPart_0 v0R v1I σ) = _
  unfold T_Rd_faultOfPart_0
  simp only [lpK_ite, lq_inl, lq_inr, lpK_bnd, lpK_gd, lq_let]
  try rfl
set_option maxRecDepth 20000 in
theorem E_Rd_faultOfPart_1 (v0R : Nat) (v1I : Int32) (s0I : Int32) (s1I : Int32) (σ : AM) : L_Rd_faultOfPart_1 v0R v1I s0I s1I σ = (if s0I = s1I then (L_Rd_faultOfPart_2 v0R v1I σ) else (L_Rd_faultOfPart_3 v0R v1I ((0 : Int32)) σ)) := by
  unfold L_Rd_faultOfPart_1
  rw [lp_eq]
  show lpK (lp F_Rd_faultOfPart) (T_Rd_faultOfPart_1 v0R v1I s0I s1I σ) = _
  unfold T_Rd_faultOfPart_1
  simp only [lpK_ite, lq_inl, lq_inr, lpK_bnd, lpK_gd, lq_let]
  try rfl
set_option maxRecDepth 20000 in
theorem E_Rd_faultOfPart_2 (v0R : Nat) (v1I : Int32) (σ : AM) : L_Rd_faultOfPart_2 v0R v1I σ = (L_Rd_faultOfPart_3 v0R v1I ((1 : Int32)) σ) := by
  unfold L_Rd_faultOfPart_2
  rw [lp_eq]
  show lpK (lp F_Rd_faultOfPart) (T_Rd_faultOfPart_2 v0R v1I σ) = _
  unfold T_Rd_faultOfPart_2
  simp only [lpK_ite, lq_inl, lq_inr, lpK_bnd, lpK_gd, lq_let]
  try rfl
set_option maxRecDepth 20000 in
theorem E_Rd_faultOfPart_3 (v0R : Nat) (v1I : Int32) (s0I : Int32) (σ : AM) : L_Rd_faultOfPart_3 v0R v1I s0I σ = (if s0I = 0 then ((some ((1 : Int32), σ))) else (gd (okO σ v0R 2) <| if (aI σ v0R 4) = (3 : Int32) then (gd (okO σ (aR σ v0R 1) 1) <| bnd (M_Tw_thingNamed (aR σ v0R 1) (aL σ v0R 7) σ) fun r3 σ4 => if r3 = ((-1) : Int32) then ((some ((2 : Int32), σ4))) else (L_Rd_faultOfPart_4 v1I σ4)) else (L_Rd_faultOfPart_4 v1I σ))) := by
  unfold L_Rd_faultOfPart_3
  rw [lp_eq]
  show lpK (lp F_Rd_faultOfPart) (T_Rd_faultOfPart_3 v0R v1I s0I σ) = _
  unfold T_Rd_faultOfPart_3
  simp only [lpK_ite, lq_inl, lq_inr, lpK_bnd, lpK_gd, lq_let]
  try rfl
set_option maxRecDepth 20000 in
theorem E_Rd_faultOfPart_4 (v1I : Int32) (σ : AM) : L_Rd_faultOfPart_4 v1I σ = (if v1I < (5 : Int32) then (L_Rd_faultOfPart_5 ((0 : Int32)) σ) else (L_Rd_faultOfPart_5 ((5 : Int32)) σ)) := by
  unfold L_Rd_faultOfPart_4
  rw [lp_eq]
  show lpK (lp F_Rd_faultOfPart) (T_Rd_faultOfPart_4 v1I σ) = _
  unfold T_Rd_faultOfPart_4
  simp only [lpK_ite, lq_inl, lq_inr, lpK_bnd, lpK_gd, lq_let]
  try rfl
set_option maxRecDepth 20000 in
theorem E_Rd_faultOfPart_5 (s0I : Int32) (σ : AM) : L_Rd_faultOfPart_5 s0I σ = ((some (s0I, σ))) := by
  unfold L_Rd_faultOfPart_5
  rw [lp_eq]
  show lpK (lp F_Rd_faultOfPart) (T_Rd_faultOfPart_5 s0I σ) = _
  unfold T_Rd_faultOfPart_5
  simp only [lpK_ite, lq_inl, lq_inr, lpK_bnd, lpK_gd, lq_let]
  try rfl
noncomputable def M_Rd_faultOfPart (v0R : Nat) (v1I : Int32) (σ : AM) : Option (Int32 × AM) := mw σ (L_Rd_faultOfPart_0 v0R v1I σ)
def I_Rd_faultOfPart (G : GX) (p : Program) (l : Launch) (e : Env) (s : State) (m : MethodId) (args : Array Value) (below : List Frame) (meth : Method) (c : Code) (z0 u0 n : Nat) : Prop :=
  (∀ (v0R : Nat) (v1I : Int32) (σ : AM), VX (QM eI G args s below z0 u0) G p l e s m args below meth c 1 z0 u0 3 (lpn F_Rd_faultOfPart n (0, v0R, v1I, 0, 0, σ)) 0 [(0, .ref v0R), (1, .int v1I)] [] σ) ∧
  (∀ (v0R : Nat) (v1I : Int32) (s0I : Int32) (s1I : Int32) (σ : AM), VX (QM eI G args s below z0 u0) G p l e s m args below meth c 1 z0 u0 3 (lpn F_Rd_faultOfPart n (1, v0R, v1I, s0I, s1I, σ)) 52 [(0, .ref v0R), (1, .int v1I)] [.int s1I, .int s0I] σ) ∧
  (∀ (v0R : Nat) (v1I : Int32) (σ : AM), VX (QM eI G args s below z0 u0) G p l e s m args below meth c 1 z0 u0 3 (lpn F_Rd_faultOfPart n (2, v0R, v1I, 0, 0, σ)) 55 [(0, .ref v0R), (1, .int v1I)] [] σ) ∧
  (∀ (v0R : Nat) (v1I : Int32) (s0I : Int32) (σ : AM), VX (QM eI G args s below z0 u0) G p l e s m args below meth c 1 z0 u0 3 (lpn F_Rd_faultOfPart n (3, v0R, v1I, s0I, 0, σ)) 60 [(0, .ref v0R), (1, .int v1I)] [.int s0I] σ) ∧
  (∀ (v1I : Int32) (σ : AM), VX (QM eI G args s below z0 u0) G p l e s m args below meth c 1 z0 u0 3 (lpn F_Rd_faultOfPart n (4, 0, v1I, 0, 0, σ)) 92 [(1, .int v1I)] [] σ) ∧
  (∀ (s0I : Int32) (σ : AM), VX (QM eI G args s below z0 u0) G p l e s m args below meth c 1 z0 u0 3 (lpn F_Rd_faultOfPart n (5, 0, 0, s0I, 0, σ)) 102 [] [.int s0I] σ)
set_option maxRecDepth 20000 in
theorem s_Rd_faultOfPart_0 {G : GX} {p : Program} {l : Launch} {e : Env} {s : State} {m : MethodId} {args : Array Value} {below : List Frame} {meth : Method} {c : Code} {z0 u0 n : Nat} (C : Cx G p s m args meth c prog_9_method_24_code 3 "BellPlate$Reader" ((some FieldType.int))) (IH : I_Rd_faultOfPart G p l e s m args below meth c z0 u0 n) (v0R : Nat) (v1I : Int32) (σ : AM) : VX (QM eI G args s below z0 u0) G p l e s m args below meth c 1 z0 u0 3 (lpK (lpn F_Rd_faultOfPart n) (T_Rd_faultOfPart_0 v0R v1I σ)) 0 [(0, .ref v0R), (1, .int v1I)] [] σ := by
  unfold T_Rd_faultOfPart_0
  refine x_aload_n C d_Rd_faultOfPart_0 0 rfl ?_
  refine x_gd (fun h1 => ?_)
  refine x_getI (k := 4) C (okO_iff.mp h1) rfl j1_ok (by decide) rfl w208 d_Rd_faultOfPart_1 ?_
  refine x_iconst (v := (2 : Int32)) C d_Rd_faultOfPart_4 (by decide) ?_
  refine x_icmp_eq (tgt := 55) C d_Rd_faultOfPart_5 (by decide) (fun _ => ?_) (fun _ => ?_)
  · exact IH.2.2.1 v0R v1I (σ)
  · refine x_aload_n C d_Rd_faultOfPart_8 0 rfl ?_
    refine x_getI (k := 4) C (okO_iff.mp h1) rfl j1_ok (by decide) rfl w208 d_Rd_faultOfPart_9 ?_
    refine x_iconst (v := (3 : Int32)) C d_Rd_faultOfPart_12 (by decide) ?_
    refine x_icmp_eq (tgt := 55) C d_Rd_faultOfPart_13 (by decide) (fun _ => ?_) (fun _ => ?_)
    · exact IH.2.2.1 v0R v1I (σ)
    · refine x_aload_n C d_Rd_faultOfPart_16 0 rfl ?_
      refine x_getI (k := 4) C (okO_iff.mp h1) rfl j1_ok (by decide) rfl w208 d_Rd_faultOfPart_17 ?_
      refine x_bipush (v := (9 : Int32)) C d_Rd_faultOfPart_20 (by decide) ?_
      refine x_icmp_eq (tgt := 55) C d_Rd_faultOfPart_22 (by decide) (fun _ => ?_) (fun _ => ?_)
      · exact IH.2.2.1 v0R v1I (σ)
      · refine x_aload_n C d_Rd_faultOfPart_25 0 rfl ?_
        refine x_getI (k := 4) C (okO_iff.mp h1) rfl j1_ok (by decide) rfl w208 d_Rd_faultOfPart_26 ?_
        refine x_bipush (v := (40 : Int32)) C d_Rd_faultOfPart_29 (by decide) ?_
        refine x_icmp_eq (tgt := 55) C d_Rd_faultOfPart_31 (by decide) (fun _ => ?_) (fun _ => ?_)
        · exact IH.2.2.1 v0R v1I (σ)
        · refine x_aload_n C d_Rd_faultOfPart_34 0 rfl ?_
          refine x_getI (k := 4) C (okO_iff.mp h1) rfl j1_ok (by decide) rfl w208 d_Rd_faultOfPart_35 ?_
          refine x_aload_n C d_Rd_faultOfPart_38 0 rfl ?_
          refine x_getI (k := 12) C (okO_iff.mp h1) rfl j1_ok (by decide) rfl w216 d_Rd_faultOfPart_39 ?_
          refine x_if_eq (tgt := 50) C d_Rd_faultOfPart_42 (by decide) (fun _ => ?_) (fun _ => ?_)
          · refine x_bipush (v := (12 : Int32)) C d_Rd_faultOfPart_50 (by decide) ?_
            exact IH.2.1 v0R v1I (aI σ v0R 4) ((12 : Int32)) (σ)
          · refine x_bipush (v := (13 : Int32)) C d_Rd_faultOfPart_45 (by decide) ?_
            refine x_goto (tgt := 52) C d_Rd_faultOfPart_47 (by decide) ?_
            exact IH.2.1 v0R v1I (aI σ v0R 4) ((13 : Int32)) (σ)
set_option maxRecDepth 20000 in
theorem s_Rd_faultOfPart_1 {G : GX} {p : Program} {l : Launch} {e : Env} {s : State} {m : MethodId} {args : Array Value} {below : List Frame} {meth : Method} {c : Code} {z0 u0 n : Nat} (C : Cx G p s m args meth c prog_9_method_24_code 3 "BellPlate$Reader" ((some FieldType.int))) (IH : I_Rd_faultOfPart G p l e s m args below meth c z0 u0 n) (v0R : Nat) (v1I : Int32) (s0I : Int32) (s1I : Int32) (σ : AM) : VX (QM eI G args s below z0 u0) G p l e s m args below meth c 1 z0 u0 3 (lpK (lpn F_Rd_faultOfPart n) (T_Rd_faultOfPart_1 v0R v1I s0I s1I σ)) 52 [(0, .ref v0R), (1, .int v1I)] [.int s1I, .int s0I] σ := by
  unfold T_Rd_faultOfPart_1
  refine x_icmp_ne (tgt := 59) C d_Rd_faultOfPart_52 (by decide) (fun _ => ?_) (fun _ => ?_)
  · exact IH.2.2.1 v0R v1I (σ)
  · refine x_iconst (v := (0 : Int32)) C d_Rd_faultOfPart_59 (by decide) ?_
    exact IH.2.2.2.1 v0R v1I ((0 : Int32)) (σ)
set_option maxRecDepth 20000 in
theorem s_Rd_faultOfPart_2 {G : GX} {p : Program} {l : Launch} {e : Env} {s : State} {m : MethodId} {args : Array Value} {below : List Frame} {meth : Method} {c : Code} {z0 u0 n : Nat} (C : Cx G p s m args meth c prog_9_method_24_code 3 "BellPlate$Reader" ((some FieldType.int))) (IH : I_Rd_faultOfPart G p l e s m args below meth c z0 u0 n) (v0R : Nat) (v1I : Int32) (σ : AM) : VX (QM eI G args s below z0 u0) G p l e s m args below meth c 1 z0 u0 3 (lpK (lpn F_Rd_faultOfPart n) (T_Rd_faultOfPart_2 v0R v1I σ)) 55 [(0, .ref v0R), (1, .int v1I)] [] σ := by
  unfold T_Rd_faultOfPart_2
  refine x_iconst (v := (1 : Int32)) C d_Rd_faultOfPart_55 (by decide) ?_
  refine x_goto (tgt := 60) C d_Rd_faultOfPart_56 (by decide) ?_
  exact IH.2.2.2.1 v0R v1I ((1 : Int32)) (σ)
set_option maxRecDepth 20000 in
theorem s_Rd_faultOfPart_3 {G : GX} {p : Program} {l : Launch} {e : Env} {s : State} {m : MethodId} {args : Array Value} {below : List Frame} {meth : Method} {c : Code} {z0 u0 n : Nat} (C : Cx G p s m args meth c prog_9_method_24_code 3 "BellPlate$Reader" ((some FieldType.int))) (IH : I_Rd_faultOfPart G p l e s m args below meth c z0 u0 n) (v0R : Nat) (v1I : Int32) (s0I : Int32) (σ : AM) : VX (QM eI G args s below z0 u0) G p l e s m args below meth c 1 z0 u0 3 (lpK (lpn F_Rd_faultOfPart n) (T_Rd_faultOfPart_3 v0R v1I s0I σ)) 60 [(0, .ref v0R), (1, .int v1I)] [.int s0I] σ := by
  unfold T_Rd_faultOfPart_3
  refine x_istore_n (lv' := [(2, .int s0I), (0, .ref v0R), (1, .int v1I)]) C d_Rd_faultOfPart_60 (by decide) rfl rfl ?_
  refine x_iload_n C d_Rd_faultOfPart_61 0 rfl ?_
  refine x_if_ne (tgt := 67) C d_Rd_faultOfPart_62 (by decide) (fun _ => ?_) (fun _ => ?_)
  · refine x_iconst (v := (1 : Int32)) C d_Rd_faultOfPart_65 (by decide) ?_
    exact x_iret C d_Rd_faultOfPart_66
  · refine x_aload_n C d_Rd_faultOfPart_67 1 rfl ?_
    refine x_gd (fun h1 => ?_)
    refine x_getI (k := 4) C (okO_iff.mp h1) rfl j1_ok (by decide) rfl w208 d_Rd_faultOfPart_68 ?_
    refine x_iconst (v := (3 : Int32)) C d_Rd_faultOfPart_71 (by decide) ?_
    refine x_icmp_ne (tgt := 92) C d_Rd_faultOfPart_72 (by decide) (fun _ => ?_) (fun _ => ?_)
    · refine x_aload_n C d_Rd_faultOfPart_75 1 rfl ?_
      refine x_gd (fun h2 => ?_)
      refine x_getR (k := 1) (kv := 1) C (okO_iff.mp h1) rfl j1_ok (by decide) rfl (okO_iff.mp h2) (by decide) w205 d_Rd_faultOfPart_76 ?_
      refine x_aload_n C d_Rd_faultOfPart_79 1 rfl ?_
      refine x_getJ (k := 7) C (okO_iff.mp h1) rfl j1_ok (by decide) rfl w211 d_Rd_faultOfPart_80 ?_
      refine x_callVI (As := [.long (aL σ v0R 7)]) C (c_Tw_thingNamed G l (aR σ v0R 1) (aL σ v0R 7) σ) (okO_iff.mp h2) rfl w868 w869 w867 w870 w122 k_Tw_thingNamed rfl (by decide) (by decide) rfl (Nat.le_of_ble_eq_true rfl) d_Rd_faultOfPart_83 (fun r3 σ4 => ?_)
      refine x_iconst (v := ((-1) : Int32)) C d_Rd_faultOfPart_86 (by decide) ?_
      refine x_icmp_ne (tgt := 92) C d_Rd_faultOfPart_87 (by decide) (fun _ => ?_) (fun _ => ?_)
      · refine x_iconst (v := (2 : Int32)) C d_Rd_faultOfPart_90 (by decide) ?_
        exact x_iret C d_Rd_faultOfPart_91
      · refine x_lv [2] rfl ?_
        exact IH.2.2.2.2.1 v1I (σ4)
    · refine x_lv [2] rfl ?_
      exact IH.2.2.2.2.1 v1I (σ)
set_option maxRecDepth 20000 in
theorem s_Rd_faultOfPart_4 {G : GX} {p : Program} {l : Launch} {e : Env} {s : State} {m : MethodId} {args : Array Value} {below : List Frame} {meth : Method} {c : Code} {z0 u0 n : Nat} (C : Cx G p s m args meth c prog_9_method_24_code 3 "BellPlate$Reader" ((some FieldType.int))) (IH : I_Rd_faultOfPart G p l e s m args below meth c z0 u0 n) (v1I : Int32) (σ : AM) : VX (QM eI G args s below z0 u0) G p l e s m args below meth c 1 z0 u0 3 (lpK (lpn F_Rd_faultOfPart n) (T_Rd_faultOfPart_4 v1I σ)) 92 [(1, .int v1I)] [] σ := by
  unfold T_Rd_faultOfPart_4
  refine x_iload_n C d_Rd_faultOfPart_92 0 rfl ?_
  refine x_iconst (v := (5 : Int32)) C d_Rd_faultOfPart_93 (by decide) ?_
  refine x_icmp_lt (tgt := 101) C d_Rd_faultOfPart_94 (by decide) (fun _ => ?_) (fun _ => ?_)
  · refine x_iconst (v := (0 : Int32)) C d_Rd_faultOfPart_101 (by decide) ?_
    refine x_lv [] rfl ?_
    exact IH.2.2.2.2.2 ((0 : Int32)) (σ)
  · refine x_iconst (v := (5 : Int32)) C d_Rd_faultOfPart_97 (by decide) ?_
    refine x_goto (tgt := 102) C d_Rd_faultOfPart_98 (by decide) ?_
    refine x_lv [] rfl ?_
    exact IH.2.2.2.2.2 ((5 : Int32)) (σ)
set_option maxRecDepth 20000 in
theorem s_Rd_faultOfPart_5 {G : GX} {p : Program} {l : Launch} {e : Env} {s : State} {m : MethodId} {args : Array Value} {below : List Frame} {meth : Method} {c : Code} {z0 u0 n : Nat} (C : Cx G p s m args meth c prog_9_method_24_code 3 "BellPlate$Reader" ((some FieldType.int))) (IH : I_Rd_faultOfPart G p l e s m args below meth c z0 u0 n) (s0I : Int32) (σ : AM) : VX (QM eI G args s below z0 u0) G p l e s m args below meth c 1 z0 u0 3 (lpK (lpn F_Rd_faultOfPart n) (T_Rd_faultOfPart_5 s0I σ)) 102 [] [.int s0I] σ := by
  unfold T_Rd_faultOfPart_5
  exact x_iret C d_Rd_faultOfPart_102
theorem i_Rd_faultOfPart {G : GX} {p : Program} {l : Launch} {e : Env} {s : State} {m : MethodId} {args : Array Value} {below : List Frame} {meth : Method} {c : Code} {z0 u0 : Nat} (C : Cx G p s m args meth c prog_9_method_24_code 3 "BellPlate$Reader" ((some FieldType.int))) (n : Nat) : I_Rd_faultOfPart G p l e s m args below meth c z0 u0 n := by
  induction n with
  | zero => exact ⟨fun _ _ _ => x_none, fun _ _ _ _ _ => x_none, fun _ _ _ => x_none, fun _ _ _ _ => x_none, fun _ _ => x_none, fun _ _ => x_none⟩
  | succ n IH => exact ⟨fun v0R v1I σ => s_Rd_faultOfPart_0 C IH v0R v1I σ, fun v0R v1I s0I s1I σ => s_Rd_faultOfPart_1 C IH v0R v1I s0I s1I σ, fun v0R v1I σ => s_Rd_faultOfPart_2 C IH v0R v1I σ, fun v0R v1I s0I σ => s_Rd_faultOfPart_3 C IH v0R v1I s0I σ, fun v1I σ => s_Rd_faultOfPart_4 C IH v1I σ, fun s0I σ => s_Rd_faultOfPart_5 C IH s0I σ⟩
theorem c_Rd_faultOfPart (G : GX) (l : Launch) (v0R : Nat) (v1I : Int32) (σ : AM) : CT eI G l 1 y_Rd_faultOfPart prog_9_method_24_code 3 ((some FieldType.int)) [.ref v0R, .int v1I] σ (M_Rd_faultOfPart v0R v1I σ) := by
  refine ct_of (by decide +kernel) (Nat.le_of_ble_eq_true rfl) (fun p e s m args below meth c C hin => ?_)
  refine x_lve (lv' := [(0, .ref v0R), (1, .int v1I)]) rfl ?_
  intro r σ' h
  obtain ⟨n, hn⟩ := (lp_iff _ _ _).mp h
  exact (i_Rd_faultOfPart C n).1 v0R v1I σ r σ' hn
/-! BellPlate$Reader.codeOfPart()I -/
abbrev y_Rd_codeOfPart : MethodName := ⟨"BellPlate$Reader", "codeOfPart", "()I"⟩
theorem k_Rd_codeOfPart : y_Rd_codeOfPart.cls ≠ "java/lang/invoke/MethodHandle" ∧ y_Rd_codeOfPart.cls ≠ "java/lang/invoke/VarHandle" ∧ (parseMethodDescriptor y_Rd_codeOfPart.desc).map (fun d => d.parameters.length) = some 0 := by decide +kernel
theorem d_Rd_codeOfPart_0 : decode prog_9_method_25_code 0 = .ok (.aload_n 0, 1) := by decide +kernel
theorem d_Rd_codeOfPart_1 : decode prog_9_method_25_code 1 = .ok (.getfield 50, 3) := by decide +kernel
theorem d_Rd_codeOfPart_4 : decode prog_9_method_25_code 4 = .ok (.iconst 2, 1) := by decide +kernel
theorem d_Rd_codeOfPart_5 : decode prog_9_method_25_code 5 = .ok (.if_icmp .ne 11, 3) := by decide +kernel
theorem d_Rd_codeOfPart_8 : decode prog_9_method_25_code 8 = .ok (.bipush 32, 2) := by decide +kernel
theorem d_Rd_codeOfPart_10 : decode prog_9_method_25_code 10 = .ok (.aload_n 0, 1) := by decide +kernel
theorem d_Rd_codeOfPart_11 : decode prog_9_method_25_code 11 = .ok (.getfield 111, 3) := by decide +kernel
theorem d_Rd_codeOfPart_14 : decode prog_9_method_25_code 14 = .ok (.iadd, 1) := by decide +kernel
theorem d_Rd_codeOfPart_15 : decode prog_9_method_25_code 15 = .ok (.ireturn, 1) := by decide +kernel
theorem d_Rd_codeOfPart_16 : decode prog_9_method_25_code 16 = .ok (.aload_n 0, 1) := by decide +kernel
theorem d_Rd_codeOfPart_17 : decode prog_9_method_25_code 17 = .ok (.getfield 50, 3) := by decide +kernel
theorem d_Rd_codeOfPart_20 : decode prog_9_method_25_code 20 = .ok (.iconst 3, 1) := by decide +kernel
theorem d_Rd_codeOfPart_21 : decode prog_9_method_25_code 21 = .ok (.if_icmp .ne 18, 3) := by decide +kernel
theorem d_Rd_codeOfPart_24 : decode prog_9_method_25_code 24 = .ok (.bipush 16, 2) := by decide +kernel
theorem d_Rd_codeOfPart_26 : decode prog_9_method_25_code 26 = .ok (.aload_n 0, 1) := by decide +kernel
theorem d_Rd_codeOfPart_27 : decode prog_9_method_25_code 27 = .ok (.getfield 18, 3) := by decide +kernel
theorem d_Rd_codeOfPart_30 : decode prog_9_method_25_code 30 = .ok (.aload_n 0, 1) := by decide +kernel
theorem d_Rd_codeOfPart_31 : decode prog_9_method_25_code 31 = .ok (.getfield 103, 3) := by decide +kernel
theorem d_Rd_codeOfPart_34 : decode prog_9_method_25_code 34 = .ok (.invokevirtual 117, 3) := by decide +kernel
theorem d_Rd_codeOfPart_37 : decode prog_9_method_25_code 37 = .ok (.iadd, 1) := by decide +kernel
theorem d_Rd_codeOfPart_38 : decode prog_9_method_25_code 38 = .ok (.ireturn, 1) := by decide +kernel
theorem d_Rd_codeOfPart_39 : decode prog_9_method_25_code 39 = .ok (.bipush 8, 2) := by decide +kernel
theorem d_Rd_codeOfPart_41 : decode prog_9_method_25_code 41 = .ok (.ireturn, 1) := by decide +kernel
abbrev S_Rd_codeOfPart : Type := Nat × Nat × AM
noncomputable def T_Rd_codeOfPart_0 (v0R : Nat) (σ : AM) : S_Rd_codeOfPart ⊕ Option (Int32 × AM) :=
  gdT (okO σ v0R 2) <| if (aI σ v0R 4) = (2 : Int32) then (.inr (some (((32 : Int32) + (aI σ v0R 6)), σ))) else (if (aI σ v0R 4) = (3 : Int32) then (gdT (okO σ (aR σ v0R 1) 1) <| bndT (M_Tw_thingNamed (aR σ v0R 1) (aL σ v0R 7) σ) fun r3 σ4 => .inr (some (((16 : Int32) + r3), σ4))) else (.inr (some ((8 : Int32), σ))))
noncomputable def F_Rd_codeOfPart : S_Rd_codeOfPart → S_Rd_codeOfPart ⊕ Option (Int32 × AM) := fun s => match s.1 with
  | _ => T_Rd_codeOfPart_0 (s.2.1) (s.2.2)
noncomputable def L_Rd_codeOfPart_0 (v0R : Nat) (σ : AM) : Option (Int32 × AM) := lp F_Rd_codeOfPart (0, v0R, σ)
set_option maxRecDepth 20000 in
theorem E_Rd_codeOfPart_0 (v0R : Nat) (σ : AM) : L_Rd_codeOfPart_0 v0R σ = (gd (okO σ v0R 2) <| if (aI σ v0R 4) = (2 : Int32) then ((some (((32 : Int32) + (aI σ v0R 6)), σ))) else (if (aI σ v0R 4) = (3 : Int32) then (gd (okO σ (aR σ v0R 1) 1) <| bnd (M_Tw_thingNamed (aR σ v0R 1) (aL σ v0R 7) σ) fun r3 σ4 => (some (((16 : Int32) + r3), σ4))) else ((some ((8 : Int32), σ))))) := by
  unfold L_Rd_codeOfPart_0
  rw [lp_eq]
  show lpK (lp F_Rd_codeOfPart) (T_Rd_codeOfPart_0 v0R σ) = _
  unfold T_Rd_codeOfPart_0
  simp only [lpK_ite, lq_inl, lq_inr, lpK_bnd, lpK_gd, lq_let]
  try rfl
noncomputable def M_Rd_codeOfPart (v0R : Nat) (σ : AM) : Option (Int32 × AM) := mw σ (L_Rd_codeOfPart_0 v0R σ)
def I_Rd_codeOfPart (G : GX) (p : Program) (l : Launch) (e : Env) (s : State) (m : MethodId) (args : Array Value) (below : List Frame) (meth : Method) (c : Code) (z0 u0 n : Nat) : Prop :=
  (∀ (v0R : Nat) (σ : AM), VX (QM eI G args s below z0 u0) G p l e s m args below meth c 1 z0 u0 1 (lpn F_Rd_codeOfPart n (0, v0R, σ)) 0 [(0, .ref v0R)] [] σ)
set_option maxRecDepth 20000 in
theorem s_Rd_codeOfPart_0 {G : GX} {p : Program} {l : Launch} {e : Env} {s : State} {m : MethodId} {args : Array Value} {below : List Frame} {meth : Method} {c : Code} {z0 u0 n : Nat} (C : Cx G p s m args meth c prog_9_method_25_code 1 "BellPlate$Reader" ((some FieldType.int))) (IH : I_Rd_codeOfPart G p l e s m args below meth c z0 u0 n) (v0R : Nat) (σ : AM) : VX (QM eI G args s below z0 u0) G p l e s m args below meth c 1 z0 u0 1 (lpK (lpn F_Rd_codeOfPart n) (T_Rd_codeOfPart_0 v0R σ)) 0 [(0, .ref v0R)] [] σ := by
  unfold T_Rd_codeOfPart_0
  refine x_aload_n C d_Rd_codeOfPart_0 0 rfl ?_
  refine x_gd (fun h1 => ?_)
  refine x_getI (k := 4) C (okO_iff.mp h1) rfl j1_ok (by decide) rfl w208 d_Rd_codeOfPart_1 ?_
  refine x_iconst (v := (2 : Int32)) C d_Rd_codeOfPart_4 (by decide) ?_
  refine x_icmp_ne (tgt := 16) C d_Rd_codeOfPart_5 (by decide) (fun _ => ?_) (fun _ => ?_)
  · refine x_bipush (v := (32 : Int32)) C d_Rd_codeOfPart_8 (by decide) ?_
    refine x_aload_n C d_Rd_codeOfPart_10 0 rfl ?_
    refine x_getI (k := 6) C (okO_iff.mp h1) rfl j1_ok (by decide) rfl w210 d_Rd_codeOfPart_11 ?_
    refine x_iadd C d_Rd_codeOfPart_14 ?_
    exact x_iret C d_Rd_codeOfPart_15
  · refine x_aload_n C d_Rd_codeOfPart_16 0 rfl ?_
    refine x_getI (k := 4) C (okO_iff.mp h1) rfl j1_ok (by decide) rfl w208 d_Rd_codeOfPart_17 ?_
    refine x_iconst (v := (3 : Int32)) C d_Rd_codeOfPart_20 (by decide) ?_
    refine x_icmp_ne (tgt := 39) C d_Rd_codeOfPart_21 (by decide) (fun _ => ?_) (fun _ => ?_)
    · refine x_bipush (v := (16 : Int32)) C d_Rd_codeOfPart_24 (by decide) ?_
      refine x_aload_n C d_Rd_codeOfPart_26 0 rfl ?_
      refine x_gd (fun h2 => ?_)
      refine x_getR (k := 1) (kv := 1) C (okO_iff.mp h1) rfl j1_ok (by decide) rfl (okO_iff.mp h2) (by decide) w205 d_Rd_codeOfPart_27 ?_
      refine x_aload_n C d_Rd_codeOfPart_30 0 rfl ?_
      refine x_getJ (k := 7) C (okO_iff.mp h1) rfl j1_ok (by decide) rfl w211 d_Rd_codeOfPart_31 ?_
      refine x_callVI (As := [.long (aL σ v0R 7)]) C (c_Tw_thingNamed G l (aR σ v0R 1) (aL σ v0R 7) σ) (okO_iff.mp h2) rfl w868 w869 w867 w870 w122 k_Tw_thingNamed rfl (by decide) (by decide) rfl (Nat.le_of_ble_eq_true rfl) d_Rd_codeOfPart_34 (fun r3 σ4 => ?_)
      refine x_iadd C d_Rd_codeOfPart_37 ?_
      exact x_iret C d_Rd_codeOfPart_38
    · refine x_bipush (v := (8 : Int32)) C d_Rd_codeOfPart_39 (by decide) ?_
      exact x_iret C d_Rd_codeOfPart_41
theorem i_Rd_codeOfPart {G : GX} {p : Program} {l : Launch} {e : Env} {s : State} {m : MethodId} {args : Array Value} {below : List Frame} {meth : Method} {c : Code} {z0 u0 : Nat} (C : Cx G p s m args meth c prog_9_method_25_code 1 "BellPlate$Reader" ((some FieldType.int))) (n : Nat) : I_Rd_codeOfPart G p l e s m args below meth c z0 u0 n := by
  induction n with
  | zero => exact fun _ _ => x_none
  | succ n IH => exact fun v0R σ => s_Rd_codeOfPart_0 C IH v0R σ
theorem c_Rd_codeOfPart (G : GX) (l : Launch) (v0R : Nat) (σ : AM) : CT eI G l 1 y_Rd_codeOfPart prog_9_method_25_code 1 ((some FieldType.int)) [.ref v0R] σ (M_Rd_codeOfPart v0R σ) := by
  refine ct_of (by decide +kernel) (Nat.le_of_ble_eq_true rfl) (fun p e s m args below meth c C hin => ?_)
  refine x_lve (lv' := [(0, .ref v0R)]) rfl ?_
  intro r σ' h
  obtain ⟨n, hn⟩ := (lp_iff _ _ _).mp h
  exact (i_Rd_codeOfPart C n) v0R σ r σ' hn
/-! BellPlate$Reader.levelOfToken()I -/
abbrev y_Rd_levelOfToken : MethodName := ⟨"BellPlate$Reader", "levelOfToken", "()I"⟩
theorem k_Rd_levelOfToken : y_Rd_levelOfToken.cls ≠ "java/lang/invoke/MethodHandle" ∧ y_Rd_levelOfToken.cls ≠ "java/lang/invoke/VarHandle" ∧ (parseMethodDescriptor y_Rd_levelOfToken.desc).map (fun d => d.parameters.length) = some 0 := by decide +kernel
theorem d_Rd_levelOfToken_0 : decode prog_9_method_21_code 0 = .ok (.aload_n 0, 1) := by decide +kernel
theorem d_Rd_levelOfToken_1 : decode prog_9_method_21_code 1 = .ok (.getfield 50, 3) := by decide +kernel
theorem d_Rd_levelOfToken_4 : decode prog_9_method_21_code 4 = .ok (.lookupswitch 76 #[(10, 68), (11, 68), (42, 74), (43, 72), (45, 72), (60, 70), (61, 70)], 68) := by decide +kernel
theorem d_Rd_levelOfToken_72 : decode prog_9_method_21_code 72 = .ok (.iconst 0, 1) := by decide +kernel
theorem d_Rd_levelOfToken_73 : decode prog_9_method_21_code 73 = .ok (.ireturn, 1) := by decide +kernel
theorem d_Rd_levelOfToken_74 : decode prog_9_method_21_code 74 = .ok (.iconst 1, 1) := by decide +kernel
theorem d_Rd_levelOfToken_75 : decode prog_9_method_21_code 75 = .ok (.ireturn, 1) := by decide +kernel
theorem d_Rd_levelOfToken_76 : decode prog_9_method_21_code 76 = .ok (.iconst 2, 1) := by decide +kernel
theorem d_Rd_levelOfToken_77 : decode prog_9_method_21_code 77 = .ok (.ireturn, 1) := by decide +kernel
theorem d_Rd_levelOfToken_78 : decode prog_9_method_21_code 78 = .ok (.iconst 3, 1) := by decide +kernel
theorem d_Rd_levelOfToken_79 : decode prog_9_method_21_code 79 = .ok (.ireturn, 1) := by decide +kernel
theorem d_Rd_levelOfToken_80 : decode prog_9_method_21_code 80 = .ok (.iconst 4, 1) := by decide +kernel
theorem d_Rd_levelOfToken_81 : decode prog_9_method_21_code 81 = .ok (.ireturn, 1) := by decide +kernel
abbrev S_Rd_levelOfToken : Type := Nat × Nat × AM
noncomputable def T_Rd_levelOfToken_0 (v0R : Nat) (σ : AM) : S_Rd_levelOfToken ⊕ Option (Int32 × AM) :=
  gdT (okO σ v0R 2) <| letT (aI σ v0R 4) fun x2 => if x2 = (10 : Int32) then (.inr (some ((0 : Int32), σ))) else (if x2 = (11 : Int32) then (.inr (some ((0 : Int32), σ))) else (if x2 = (42 : Int32) then (.inr (some ((3 : Int32), σ))) else (if x2 = (43 : Int32) then (.inr (some ((2 : Int32), σ))) else (if x2 = (45 : Int32) then (.inr (some ((2 : Int32), σ))) else (if x2 = (60 : Int32) then (.inr (some ((1 : Int32), σ))) else (if x2 = (61 : Int32) then (.inr (some ((1 : Int32), σ))) else (.inr (some ((4 : Int32), σ)))))))))
noncomputable def F_Rd_levelOfToken : S_Rd_levelOfToken → S_Rd_levelOfToken ⊕ Option (Int32 × AM) := fun s => match s.1 with
  | _ => T_Rd_levelOfToken_0 (s.2.1) (s.2.2)
noncomputable def L_Rd_levelOfToken_0 (v0R : Nat) (σ : AM) : Option (Int32 × AM) := lp F_Rd_levelOfToken (0, v0R, σ)
set_option maxRecDepth 20000 in
theorem E_Rd_levelOfToken_0 (v0R : Nat) (σ : AM) : L_Rd_levelOfToken_0 v0R σ = (gd (okO σ v0R 2) <| letT (aI σ v0R 4) fun x2 => if x2 = (10 : Int32) then ((some ((0 : Int32), σ))) else (if x2 = (11 : Int32) then ((some ((0 : Int32), σ))) else (if x2 = (42 : Int32) then ((some ((3 : Int32), σ))) else (if x2 = (43 : Int32) then ((some ((2 : Int32), σ))) else (if x2 = (45 : Int32) then ((some ((2 : Int32), σ))) else (if x2 = (60 : Int32) then ((some ((1 : Int32), σ))) else (if x2 = (61 : Int32) then ((some ((1 : Int32), σ))) else ((some ((4 : Int32), σ)))))))))) := by
  unfold L_Rd_levelOfToken_0
  rw [lp_eq]
  show lpK (lp F_Rd_levelOfToken) (T_Rd_levelOfToken_0 v0R σ) = _
  unfold T_Rd_levelOfToken_0
  simp only [lpK_ite, lq_inl, lq_inr, lpK_bnd, lpK_gd, lq_let]
  try rfl
noncomputable def M_Rd_levelOfToken (v0R : Nat) (σ : AM) : Option (Int32 × AM) := mw σ (L_Rd_levelOfToken_0 v0R σ)
def I_Rd_levelOfToken (G : GX) (p : Program) (l : Launch) (e : Env) (s : State) (m : MethodId) (args : Array Value) (below : List Frame) (meth : Method) (c : Code) (z0 u0 n : Nat) : Prop :=
  (∀ (v0R : Nat) (σ : AM), VX (QM eI G args s below z0 u0) G p l e s m args below meth c 0 z0 u0 1 (lpn F_Rd_levelOfToken n (0, v0R, σ)) 0 [(0, .ref v0R)] [] σ)
set_option maxRecDepth 20000 in
theorem s_Rd_levelOfToken_0 {G : GX} {p : Program} {l : Launch} {e : Env} {s : State} {m : MethodId} {args : Array Value} {below : List Frame} {meth : Method} {c : Code} {z0 u0 n : Nat} (C : Cx G p s m args meth c prog_9_method_21_code 1 "BellPlate$Reader" ((some FieldType.int))) (IH : I_Rd_levelOfToken G p l e s m args below meth c z0 u0 n) (v0R : Nat) (σ : AM) : VX (QM eI G args s below z0 u0) G p l e s m args below meth c 0 z0 u0 1 (lpK (lpn F_Rd_levelOfToken n) (T_Rd_levelOfToken_0 v0R σ)) 0 [(0, .ref v0R)] [] σ := by
  unfold T_Rd_levelOfToken_0
  refine x_aload_n C d_Rd_levelOfToken_0 0 rfl ?_
  refine x_gd (fun h1 => ?_)
  refine x_getI (k := 4) C (okO_iff.mp h1) rfl j1_ok (by decide) rfl w208 d_Rd_levelOfToken_1 ?_
  refine x_letI (fun x2 _ => ?_)
  refine x_split (fun h3 => ?_) (fun h3 => ?_)
  · refine x_look (off := 68) (tgt := 72) C d_Rd_levelOfToken_4 (by decide) (by rw [h3]; rfl) (by decide) ?_
    refine x_iconst (v := (0 : Int32)) C d_Rd_levelOfToken_72 (by decide) ?_
    exact x_iret C d_Rd_levelOfToken_73
  · refine x_split (fun h4 => ?_) (fun h4 => ?_)
    · refine x_look (off := 68) (tgt := 72) C d_Rd_levelOfToken_4 (by decide) (by rw [h4]; rfl) (by decide) ?_
      refine x_iconst (v := (0 : Int32)) C d_Rd_levelOfToken_72 (by decide) ?_
      exact x_iret C d_Rd_levelOfToken_73
    · refine x_split (fun h5 => ?_) (fun h5 => ?_)
      · refine x_look (off := 74) (tgt := 78) C d_Rd_levelOfToken_4 (by decide) (by rw [h5]; rfl) (by decide) ?_
        refine x_iconst (v := (3 : Int32)) C d_Rd_levelOfToken_78 (by decide) ?_
        exact x_iret C d_Rd_levelOfToken_79
      · refine x_split (fun h6 => ?_) (fun h6 => ?_)
        · refine x_look (off := 72) (tgt := 76) C d_Rd_levelOfToken_4 (by decide) (by rw [h6]; rfl) (by decide) ?_
          refine x_iconst (v := (2 : Int32)) C d_Rd_levelOfToken_76 (by decide) ?_
          exact x_iret C d_Rd_levelOfToken_77
        · refine x_split (fun h7 => ?_) (fun h7 => ?_)
          · refine x_look (off := 72) (tgt := 76) C d_Rd_levelOfToken_4 (by decide) (by rw [h7]; rfl) (by decide) ?_
            refine x_iconst (v := (2 : Int32)) C d_Rd_levelOfToken_76 (by decide) ?_
            exact x_iret C d_Rd_levelOfToken_77
          · refine x_split (fun h8 => ?_) (fun h8 => ?_)
            · refine x_look (off := 70) (tgt := 74) C d_Rd_levelOfToken_4 (by decide) (by rw [h8]; rfl) (by decide) ?_
              refine x_iconst (v := (1 : Int32)) C d_Rd_levelOfToken_74 (by decide) ?_
              exact x_iret C d_Rd_levelOfToken_75
            · refine x_split (fun h9 => ?_) (fun h9 => ?_)
              · refine x_look (off := 70) (tgt := 74) C d_Rd_levelOfToken_4 (by decide) (by rw [h9]; rfl) (by decide) ?_
                refine x_iconst (v := (1 : Int32)) C d_Rd_levelOfToken_74 (by decide) ?_
                exact x_iret C d_Rd_levelOfToken_75
              · refine x_look (off := 76) (tgt := 80) C d_Rd_levelOfToken_4 (by decide) ((lv_osw h3 (by decide)).trans ((lv_osw h4 (by decide)).trans ((lv_osw h5 (by decide)).trans ((lv_osw h6 (by decide)).trans ((lv_osw h7 (by decide)).trans ((lv_osw h8 (by decide)).trans ((lv_osw h9 (by decide)).trans (rfl)))))))) (by decide) ?_
                refine x_iconst (v := (4 : Int32)) C d_Rd_levelOfToken_80 (by decide) ?_
                exact x_iret C d_Rd_levelOfToken_81
theorem i_Rd_levelOfToken {G : GX} {p : Program} {l : Launch} {e : Env} {s : State} {m : MethodId} {args : Array Value} {below : List Frame} {meth : Method} {c : Code} {z0 u0 : Nat} (C : Cx G p s m args meth c prog_9_method_21_code 1 "BellPlate$Reader" ((some FieldType.int))) (n : Nat) : I_Rd_levelOfToken G p l e s m args below meth c z0 u0 n := by
  induction n with
  | zero => exact fun _ _ => x_none
  | succ n IH => exact fun v0R σ => s_Rd_levelOfToken_0 C IH v0R σ
theorem c_Rd_levelOfToken (G : GX) (l : Launch) (v0R : Nat) (σ : AM) : CT eI G l 0 y_Rd_levelOfToken prog_9_method_21_code 1 ((some FieldType.int)) [.ref v0R] σ (M_Rd_levelOfToken v0R σ) := by
  refine ct_of (by decide +kernel) (Nat.le_of_ble_eq_true rfl) (fun p e s m args below meth c C hin => ?_)
  refine x_lve (lv' := [(0, .ref v0R)]) rfl ?_
  intro r σ' h
  obtain ⟨n, hn⟩ := (lp_iff _ _ _).mp h
  exact (i_Rd_levelOfToken C n) v0R σ r σ' hn
/-! BellPlate$Reader.codeOfSign()I -/
abbrev y_Rd_codeOfSign : MethodName := ⟨"BellPlate$Reader", "codeOfSign", "()I"⟩
theorem k_Rd_codeOfSign : y_Rd_codeOfSign.cls ≠ "java/lang/invoke/MethodHandle" ∧ y_Rd_codeOfSign.cls ≠ "java/lang/invoke/VarHandle" ∧ (parseMethodDescriptor y_Rd_codeOfSign.desc).map (fun d => d.parameters.length) = some 0 := by decide +kernel
theorem d_Rd_codeOfSign_0 : decode prog_9_method_22_code 0 = .ok (.aload_n 0, 1) := by decide +kernel
theorem d_Rd_codeOfSign_1 : decode prog_9_method_22_code 1 = .ok (.getfield 50, 3) := by decide +kernel
theorem d_Rd_codeOfSign_4 : decode prog_9_method_22_code 4 = .ok (.lookupswitch 73 #[(10, 60), (11, 62), (43, 68), (45, 70), (60, 64), (61, 66)], 60) := by decide +kernel
theorem d_Rd_codeOfSign_64 : decode prog_9_method_22_code 64 = .ok (.iconst 1, 1) := by decide +kernel
theorem d_Rd_codeOfSign_65 : decode prog_9_method_22_code 65 = .ok (.ireturn, 1) := by decide +kernel
theorem d_Rd_codeOfSign_66 : decode prog_9_method_22_code 66 = .ok (.iconst 2, 1) := by decide +kernel
theorem d_Rd_codeOfSign_67 : decode prog_9_method_22_code 67 = .ok (.ireturn, 1) := by decide +kernel
theorem d_Rd_codeOfSign_68 : decode prog_9_method_22_code 68 = .ok (.iconst 3, 1) := by decide +kernel
theorem d_Rd_codeOfSign_69 : decode prog_9_method_22_code 69 = .ok (.ireturn, 1) := by decide +kernel
theorem d_Rd_codeOfSign_70 : decode prog_9_method_22_code 70 = .ok (.iconst 4, 1) := by decide +kernel
theorem d_Rd_codeOfSign_71 : decode prog_9_method_22_code 71 = .ok (.ireturn, 1) := by decide +kernel
theorem d_Rd_codeOfSign_72 : decode prog_9_method_22_code 72 = .ok (.iconst 5, 1) := by decide +kernel
theorem d_Rd_codeOfSign_73 : decode prog_9_method_22_code 73 = .ok (.ireturn, 1) := by decide +kernel
theorem d_Rd_codeOfSign_74 : decode prog_9_method_22_code 74 = .ok (.bipush 6, 2) := by decide +kernel
theorem d_Rd_codeOfSign_76 : decode prog_9_method_22_code 76 = .ok (.ireturn, 1) := by decide +kernel
theorem d_Rd_codeOfSign_77 : decode prog_9_method_22_code 77 = .ok (.bipush 7, 2) := by decide +kernel
theorem d_Rd_codeOfSign_79 : decode prog_9_method_22_code 79 = .ok (.ireturn, 1) := by decide +kernel
abbrev S_Rd_codeOfSign : Type := Nat × Nat × AM
noncomputable def T_Rd_codeOfSign_0 (v0R : Nat) (σ : AM) : S_Rd_codeOfSign ⊕ Option (Int32 × AM) :=
  gdT (okO σ v0R 2) <| letT (aI σ v0R 4) fun x2 => if x2 = (10 : Int32) then (.inr (some ((1 : Int32), σ))) else (if x2 = (11 : Int32) then (.inr (some ((2 : Int32), σ))) else (if x2 = (43 : Int32) then (.inr (some ((5 : Int32), σ))) else (if x2 = (45 : Int32) then (.inr (some ((6 : Int32), σ))) else (if x2 = (60 : Int32) then (.inr (some ((3 : Int32), σ))) else (if x2 = (61 : Int32) then (.inr (some ((4 : Int32), σ))) else (.inr (some ((7 : Int32), σ))))))))
noncomputable def F_Rd_codeOfSign : S_Rd_codeOfSign → S_Rd_codeOfSign ⊕ Option (Int32 × AM) := fun s => match s.1 with
  | _ => T_Rd_codeOfSign_0 (s.2.1) (s.2.2)
noncomputable def L_Rd_codeOfSign_0 (v0R : Nat) (σ : AM) : Option (Int32 × AM) := lp F_Rd_codeOfSign (0, v0R, σ)
set_option maxRecDepth 20000 in
theorem E_Rd_codeOfSign_0 (v0R : Nat) (σ : AM) : L_Rd_codeOfSign_0 v0R σ = (gd (okO σ v0R 2) <| letT (aI σ v0R 4) fun x2 => if x2 = (10 : Int32) then ((some ((1 : Int32), σ))) else (if x2 = (11 : Int32) then ((some ((2 : Int32), σ))) else (if x2 = (43 : Int32) then ((some ((5 : Int32), σ))) else (if x2 = (45 : Int32) then ((some ((6 : Int32), σ))) else (if x2 = (60 : Int32) then ((some ((3 : Int32), σ))) else (if x2 = (61 : Int32) then ((some ((4 : Int32), σ))) else ((some ((7 : Int32), σ))))))))) := by
  unfold L_Rd_codeOfSign_0
  rw [lp_eq]
  show lpK (lp F_Rd_codeOfSign) (T_Rd_codeOfSign_0 v0R σ) = _
  unfold T_Rd_codeOfSign_0
  simp only [lpK_ite, lq_inl, lq_inr, lpK_bnd, lpK_gd, lq_let]
  try rfl
noncomputable def M_Rd_codeOfSign (v0R : Nat) (σ : AM) : Option (Int32 × AM) := mw σ (L_Rd_codeOfSign_0 v0R σ)
def I_Rd_codeOfSign (G : GX) (p : Program) (l : Launch) (e : Env) (s : State) (m : MethodId) (args : Array Value) (below : List Frame) (meth : Method) (c : Code) (z0 u0 n : Nat) : Prop :=
  (∀ (v0R : Nat) (σ : AM), VX (QM eI G args s below z0 u0) G p l e s m args below meth c 0 z0 u0 1 (lpn F_Rd_codeOfSign n (0, v0R, σ)) 0 [(0, .ref v0R)] [] σ)
set_option maxRecDepth 20000 in
theorem s_Rd_codeOfSign_0 {G : GX} {p : Program} {l : Launch} {e : Env} {s : State} {m : MethodId} {args : Array Value} {below : List Frame} {meth : Method} {c : Code} {z0 u0 n : Nat} (C : Cx G p s m args meth c prog_9_method_22_code 1 "BellPlate$Reader" ((some FieldType.int))) (IH : I_Rd_codeOfSign G p l e s m args below meth c z0 u0 n) (v0R : Nat) (σ : AM) : VX (QM eI G args s below z0 u0) G p l e s m args below meth c 0 z0 u0 1 (lpK (lpn F_Rd_codeOfSign n) (T_Rd_codeOfSign_0 v0R σ)) 0 [(0, .ref v0R)] [] σ := by
  unfold T_Rd_codeOfSign_0
  refine x_aload_n C d_Rd_codeOfSign_0 0 rfl ?_
  refine x_gd (fun h1 => ?_)
  refine x_getI (k := 4) C (okO_iff.mp h1) rfl j1_ok (by decide) rfl w208 d_Rd_codeOfSign_1 ?_
  refine x_letI (fun x2 _ => ?_)
  refine x_split (fun h3 => ?_) (fun h3 => ?_)
  · refine x_look (off := 60) (tgt := 64) C d_Rd_codeOfSign_4 (by decide) (by rw [h3]; rfl) (by decide) ?_
    refine x_iconst (v := (1 : Int32)) C d_Rd_codeOfSign_64 (by decide) ?_
    exact x_iret C d_Rd_codeOfSign_65
  · refine x_split (fun h4 => ?_) (fun h4 => ?_)
    · refine x_look (off := 62) (tgt := 66) C d_Rd_codeOfSign_4 (by decide) (by rw [h4]; rfl) (by decide) ?_
      refine x_iconst (v := (2 : Int32)) C d_Rd_codeOfSign_66 (by decide) ?_
      exact x_iret C d_Rd_codeOfSign_67
    · refine x_split (fun h5 => ?_) (fun h5 => ?_)
      · refine x_look (off := 68) (tgt := 72) C d_Rd_codeOfSign_4 (by decide) (by rw [h5]; rfl) (by decide) ?_
        refine x_iconst (v := (5 : Int32)) C d_Rd_codeOfSign_72 (by decide) ?_
        exact x_iret C d_Rd_codeOfSign_73
      · refine x_split (fun h6 => ?_) (fun h6 => ?_)
        · refine x_look (off := 70) (tgt := 74) C d_Rd_codeOfSign_4 (by decide) (by rw [h6]; rfl) (by decide) ?_
          refine x_bipush (v := (6 : Int32)) C d_Rd_codeOfSign_74 (by decide) ?_
          exact x_iret C d_Rd_codeOfSign_76
        · refine x_split (fun h7 => ?_) (fun h7 => ?_)
          · refine x_look (off := 64) (tgt := 68) C d_Rd_codeOfSign_4 (by decide) (by rw [h7]; rfl) (by decide) ?_
            refine x_iconst (v := (3 : Int32)) C d_Rd_codeOfSign_68 (by decide) ?_
            exact x_iret C d_Rd_codeOfSign_69
          · refine x_split (fun h8 => ?_) (fun h8 => ?_)
            · refine x_look (off := 66) (tgt := 70) C d_Rd_codeOfSign_4 (by decide) (by rw [h8]; rfl) (by decide) ?_
              refine x_iconst (v := (4 : Int32)) C d_Rd_codeOfSign_70 (by decide) ?_
              exact x_iret C d_Rd_codeOfSign_71
            · refine x_look (off := 73) (tgt := 77) C d_Rd_codeOfSign_4 (by decide) ((lv_osw h3 (by decide)).trans ((lv_osw h4 (by decide)).trans ((lv_osw h5 (by decide)).trans ((lv_osw h6 (by decide)).trans ((lv_osw h7 (by decide)).trans ((lv_osw h8 (by decide)).trans (rfl))))))) (by decide) ?_
              refine x_bipush (v := (7 : Int32)) C d_Rd_codeOfSign_77 (by decide) ?_
              exact x_iret C d_Rd_codeOfSign_79
theorem i_Rd_codeOfSign {G : GX} {p : Program} {l : Launch} {e : Env} {s : State} {m : MethodId} {args : Array Value} {below : List Frame} {meth : Method} {c : Code} {z0 u0 : Nat} (C : Cx G p s m args meth c prog_9_method_22_code 1 "BellPlate$Reader" ((some FieldType.int))) (n : Nat) : I_Rd_codeOfSign G p l e s m args below meth c z0 u0 n := by
  induction n with
  | zero => exact fun _ _ => x_none
  | succ n IH => exact fun v0R σ => s_Rd_codeOfSign_0 C IH v0R σ
theorem c_Rd_codeOfSign (G : GX) (l : Launch) (v0R : Nat) (σ : AM) : CT eI G l 0 y_Rd_codeOfSign prog_9_method_22_code 1 ((some FieldType.int)) [.ref v0R] σ (M_Rd_codeOfSign v0R σ) := by
  refine ct_of (by decide +kernel) (Nat.le_of_ble_eq_true rfl) (fun p e s m args below meth c C hin => ?_)
  refine x_lve (lv' := [(0, .ref v0R)]) rfl ?_
  intro r σ' h
  obtain ⟨n, hn⟩ := (lp_iff _ _ _).mp h
  exact (i_Rd_codeOfSign C n) v0R σ r σ' hn
abbrev GT_Rd_expression_Rd_part : Type := (Nat → Int32 → Int32 → AM → Option (Unit × AM)) × (Nat → Int32 → AM → Option (Unit × AM))
/-! BellPlate$Reader.expression(II)V -/
abbrev y_Rd_expression : MethodName := ⟨"BellPlate$Reader", "expression", "(II)V"⟩
theorem k_Rd_expression : y_Rd_expression.cls ≠ "java/lang/invoke/MethodHandle" ∧ y_Rd_expression.cls ≠ "java/lang/invoke/VarHandle" ∧ (parseMethodDescriptor y_Rd_expression.desc).map (fun d => d.parameters.length) = some 2 := by decide +kernel
theorem d_Rd_expression_0 : decode prog_9_method_20_code 0 = .ok (.iload_n 1, 1) := by decide +kernel
theorem d_Rd_expression_1 : decode prog_9_method_20_code 1 = .ok (.iconst 4, 1) := by decide +kernel
theorem d_Rd_expression_2 : decode prog_9_method_20_code 2 = .ok (.if_icmp .lt 9, 3) := by decide +kernel
theorem d_Rd_expression_5 : decode prog_9_method_20_code 5 = .ok (.aload_n 0, 1) := by decide +kernel
theorem d_Rd_expression_6 : decode prog_9_method_20_code 6 = .ok (.iload_n 2, 1) := by decide +kernel
theorem d_Rd_expression_7 : decode prog_9_method_20_code 7 = .ok (.invokevirtual 159, 3) := by decide +kernel
theorem d_Rd_expression_10 : decode prog_9_method_20_code 10 = .ok (.return_, 1) := by decide +kernel
theorem d_Rd_expression_11 : decode prog_9_method_20_code 11 = .ok (.aload_n 0, 1) := by decide +kernel
theorem d_Rd_expression_12 : decode prog_9_method_20_code 12 = .ok (.iload_n 1, 1) := by decide +kernel
theorem d_Rd_expression_13 : decode prog_9_method_20_code 13 = .ok (.iconst 1, 1) := by decide +kernel
theorem d_Rd_expression_14 : decode prog_9_method_20_code 14 = .ok (.iadd, 1) := by decide +kernel
theorem d_Rd_expression_15 : decode prog_9_method_20_code 15 = .ok (.iload_n 2, 1) := by decide +kernel
theorem d_Rd_expression_16 : decode prog_9_method_20_code 16 = .ok (.invokevirtual 146, 3) := by decide +kernel
theorem d_Rd_expression_19 : decode prog_9_method_20_code 19 = .ok (.iload_n 1, 1) := by decide +kernel
theorem d_Rd_expression_20 : decode prog_9_method_20_code 20 = .ok (.iconst 1, 1) := by decide +kernel
theorem d_Rd_expression_21 : decode prog_9_method_20_code 21 = .ok (.if_icmp .ne 7, 3) := by decide +kernel
theorem d_Rd_expression_24 : decode prog_9_method_20_code 24 = .ok (.iconst 1, 1) := by decide +kernel
theorem d_Rd_expression_25 : decode prog_9_method_20_code 25 = .ok (.goto 6, 3) := by decide +kernel
theorem d_Rd_expression_28 : decode prog_9_method_20_code 28 = .ok (.sipush 1000, 3) := by decide +kernel
theorem d_Rd_expression_31 : decode prog_9_method_20_code 31 = .ok (.istore_n 3, 1) := by decide +kernel
theorem d_Rd_expression_32 : decode prog_9_method_20_code 32 = .ok (.iconst 0, 1) := by decide +kernel
theorem d_Rd_expression_33 : decode prog_9_method_20_code 33 = .ok (.istore 4, 2) := by decide +kernel
theorem d_Rd_expression_35 : decode prog_9_method_20_code 35 = .ok (.iload 4, 2) := by decide +kernel
theorem d_Rd_expression_37 : decode prog_9_method_20_code 37 = .ok (.iload_n 3, 1) := by decide +kernel
theorem d_Rd_expression_38 : decode prog_9_method_20_code 38 = .ok (.if_icmp .ge 51, 3) := by decide +kernel
theorem d_Rd_expression_41 : decode prog_9_method_20_code 41 = .ok (.aload_n 0, 1) := by decide +kernel
theorem d_Rd_expression_42 : decode prog_9_method_20_code 42 = .ok (.getfield 31, 3) := by decide +kernel
theorem d_Rd_expression_45 : decode prog_9_method_20_code 45 = .ok (.ifCond .ne 44, 3) := by decide +kernel
theorem d_Rd_expression_48 : decode prog_9_method_20_code 48 = .ok (.aload_n 0, 1) := by decide +kernel
theorem d_Rd_expression_49 : decode prog_9_method_20_code 49 = .ok (.invokevirtual 162, 3) := by decide +kernel
theorem d_Rd_expression_52 : decode prog_9_method_20_code 52 = .ok (.iload_n 1, 1) := by decide +kernel
theorem d_Rd_expression_53 : decode prog_9_method_20_code 53 = .ok (.if_icmp .ne 36, 3) := by decide +kernel
theorem d_Rd_expression_56 : decode prog_9_method_20_code 56 = .ok (.aload_n 0, 1) := by decide +kernel
theorem d_Rd_expression_57 : decode prog_9_method_20_code 57 = .ok (.invokevirtual 165, 3) := by decide +kernel
theorem d_Rd_expression_60 : decode prog_9_method_20_code 60 = .ok (.istore 5, 2) := by decide +kernel
theorem d_Rd_expression_62 : decode prog_9_method_20_code 62 = .ok (.aload_n 0, 1) := by decide +kernel
theorem d_Rd_expression_63 : decode prog_9_method_20_code 63 = .ok (.invokevirtual 47, 3) := by decide +kernel
theorem d_Rd_expression_66 : decode prog_9_method_20_code 66 = .ok (.aload_n 0, 1) := by decide +kernel
theorem d_Rd_expression_67 : decode prog_9_method_20_code 67 = .ok (.iload_n 1, 1) := by decide +kernel
theorem d_Rd_expression_68 : decode prog_9_method_20_code 68 = .ok (.iconst 1, 1) := by decide +kernel
theorem d_Rd_expression_69 : decode prog_9_method_20_code 69 = .ok (.iadd, 1) := by decide +kernel
theorem d_Rd_expression_70 : decode prog_9_method_20_code 70 = .ok (.iload_n 2, 1) := by decide +kernel
theorem d_Rd_expression_71 : decode prog_9_method_20_code 71 = .ok (.invokevirtual 146, 3) := by decide +kernel
theorem d_Rd_expression_74 : decode prog_9_method_20_code 74 = .ok (.aload_n 0, 1) := by decide +kernel
theorem d_Rd_expression_75 : decode prog_9_method_20_code 75 = .ok (.getfield 18, 3) := by decide +kernel
theorem d_Rd_expression_78 : decode prog_9_method_20_code 78 = .ok (.iload 5, 2) := by decide +kernel
theorem d_Rd_expression_80 : decode prog_9_method_20_code 80 = .ok (.invokevirtual 168, 3) := by decide +kernel
theorem d_Rd_expression_83 : decode prog_9_method_20_code 83 = .ok (.iinc 4 1, 3) := by decide +kernel
theorem d_Rd_expression_86 : decode prog_9_method_20_code 86 = .ok (.goto (-51), 3) := by decide +kernel
theorem d_Rd_expression_89 : decode prog_9_method_20_code 89 = .ok (.return_, 1) := by decide +kernel
/-! BellPlate$Reader.part(I)V -/
abbrev y_Rd_part : MethodName := ⟨"BellPlate$Reader", "part", "(I)V"⟩
theorem k_Rd_part : y_Rd_part.cls ≠ "java/lang/invoke/MethodHandle" ∧ y_Rd_part.cls ≠ "java/lang/invoke/VarHandle" ∧ (parseMethodDescriptor y_Rd_part.desc).map (fun d => d.parameters.length) = some 1 := by decide +kernel
theorem d_Rd_part_0 : decode prog_9_method_23_code 0 = .ok (.aload_n 0, 1) := by decide +kernel
theorem d_Rd_part_1 : decode prog_9_method_23_code 1 = .ok (.iload_n 1, 1) := by decide +kernel
theorem d_Rd_part_2 : decode prog_9_method_23_code 2 = .ok (.invokevirtual 171, 3) := by decide +kernel
theorem d_Rd_part_5 : decode prog_9_method_23_code 5 = .ok (.istore_n 2, 1) := by decide +kernel
theorem d_Rd_part_6 : decode prog_9_method_23_code 6 = .ok (.iload_n 2, 1) := by decide +kernel
theorem d_Rd_part_7 : decode prog_9_method_23_code 7 = .ok (.ifCond .eq 8, 3) := by decide +kernel
theorem d_Rd_part_10 : decode prog_9_method_23_code 10 = .ok (.aload_n 0, 1) := by decide +kernel
theorem d_Rd_part_11 : decode prog_9_method_23_code 11 = .ok (.iload_n 2, 1) := by decide +kernel
theorem d_Rd_part_12 : decode prog_9_method_23_code 12 = .ok (.invokevirtual 68, 3) := by decide +kernel
theorem d_Rd_part_15 : decode prog_9_method_23_code 15 = .ok (.aload_n 0, 1) := by decide +kernel
theorem d_Rd_part_16 : decode prog_9_method_23_code 16 = .ok (.getfield 31, 3) := by decide +kernel
theorem d_Rd_part_19 : decode prog_9_method_23_code 19 = .ok (.ifCond .eq 4, 3) := by decide +kernel
theorem d_Rd_part_22 : decode prog_9_method_23_code 22 = .ok (.return_, 1) := by decide +kernel
theorem d_Rd_part_23 : decode prog_9_method_23_code 23 = .ok (.aload_n 0, 1) := by decide +kernel
theorem d_Rd_part_24 : decode prog_9_method_23_code 24 = .ok (.getfield 50, 3) := by decide +kernel
theorem d_Rd_part_27 : decode prog_9_method_23_code 27 = .ok (.bipush 9, 2) := by decide +kernel
theorem d_Rd_part_29 : decode prog_9_method_23_code 29 = .ok (.if_icmp .ne 25, 3) := by decide +kernel
theorem d_Rd_part_32 : decode prog_9_method_23_code 32 = .ok (.aload_n 0, 1) := by decide +kernel
theorem d_Rd_part_33 : decode prog_9_method_23_code 33 = .ok (.invokevirtual 47, 3) := by decide +kernel
theorem d_Rd_part_36 : decode prog_9_method_23_code 36 = .ok (.aload_n 0, 1) := by decide +kernel
theorem d_Rd_part_37 : decode prog_9_method_23_code 37 = .ok (.iload_n 1, 1) := by decide +kernel
theorem d_Rd_part_38 : decode prog_9_method_23_code 38 = .ok (.iconst 1, 1) := by decide +kernel
theorem d_Rd_part_39 : decode prog_9_method_23_code 39 = .ok (.iadd, 1) := by decide +kernel
theorem d_Rd_part_40 : decode prog_9_method_23_code 40 = .ok (.invokevirtual 159, 3) := by decide +kernel
theorem d_Rd_part_43 : decode prog_9_method_23_code 43 = .ok (.aload_n 0, 1) := by decide +kernel
theorem d_Rd_part_44 : decode prog_9_method_23_code 44 = .ok (.getfield 18, 3) := by decide +kernel
theorem d_Rd_part_47 : decode prog_9_method_23_code 47 = .ok (.iconst 0, 1) := by decide +kernel
theorem d_Rd_part_48 : decode prog_9_method_23_code 48 = .ok (.invokevirtual 168, 3) := by decide +kernel
theorem d_Rd_part_51 : decode prog_9_method_23_code 51 = .ok (.goto 48, 3) := by decide +kernel
theorem d_Rd_part_54 : decode prog_9_method_23_code 54 = .ok (.aload_n 0, 1) := by decide +kernel
theorem d_Rd_part_55 : decode prog_9_method_23_code 55 = .ok (.getfield 50, 3) := by decide +kernel
theorem d_Rd_part_58 : decode prog_9_method_23_code 58 = .ok (.bipush 40, 2) := by decide +kernel
theorem d_Rd_part_60 : decode prog_9_method_23_code 60 = .ok (.if_icmp .ne 24, 3) := by decide +kernel
theorem d_Rd_part_63 : decode prog_9_method_23_code 63 = .ok (.aload_n 0, 1) := by decide +kernel
theorem d_Rd_part_64 : decode prog_9_method_23_code 64 = .ok (.invokevirtual 47, 3) := by decide +kernel
theorem d_Rd_part_67 : decode prog_9_method_23_code 67 = .ok (.aload_n 0, 1) := by decide +kernel
theorem d_Rd_part_68 : decode prog_9_method_23_code 68 = .ok (.iconst 0, 1) := by decide +kernel
theorem d_Rd_part_69 : decode prog_9_method_23_code 69 = .ok (.iload_n 1, 1) := by decide +kernel
theorem d_Rd_part_70 : decode prog_9_method_23_code 70 = .ok (.iconst 1, 1) := by decide +kernel
theorem d_Rd_part_71 : decode prog_9_method_23_code 71 = .ok (.iadd, 1) := by decide +kernel
theorem d_Rd_part_72 : decode prog_9_method_23_code 72 = .ok (.invokevirtual 146, 3) := by decide +kernel
theorem d_Rd_part_75 : decode prog_9_method_23_code 75 = .ok (.aload_n 0, 1) := by decide +kernel
theorem d_Rd_part_76 : decode prog_9_method_23_code 76 = .ok (.bipush 41, 2) := by decide +kernel
theorem d_Rd_part_78 : decode prog_9_method_23_code 78 = .ok (.invokevirtual 125, 3) := by decide +kernel
theorem d_Rd_part_81 : decode prog_9_method_23_code 81 = .ok (.goto 18, 3) := by decide +kernel
theorem d_Rd_part_84 : decode prog_9_method_23_code 84 = .ok (.aload_n 0, 1) := by decide +kernel
theorem d_Rd_part_85 : decode prog_9_method_23_code 85 = .ok (.getfield 18, 3) := by decide +kernel
theorem d_Rd_part_88 : decode prog_9_method_23_code 88 = .ok (.aload_n 0, 1) := by decide +kernel
theorem d_Rd_part_89 : decode prog_9_method_23_code 89 = .ok (.invokevirtual 174, 3) := by decide +kernel
theorem d_Rd_part_92 : decode prog_9_method_23_code 92 = .ok (.invokevirtual 168, 3) := by decide +kernel
theorem d_Rd_part_95 : decode prog_9_method_23_code 95 = .ok (.aload_n 0, 1) := by decide +kernel
theorem d_Rd_part_96 : decode prog_9_method_23_code 96 = .ok (.invokevirtual 47, 3) := by decide +kernel
theorem d_Rd_part_99 : decode prog_9_method_23_code 99 = .ok (.return_, 1) := by decide +kernel
def H_Rd_expression_Rd_part (G : GX) (l : Launch) (n0 : Nat) (rec : GT_Rd_expression_Rd_part) : Prop := (∀ (v0R : Nat) (v1I : Int32) (v2I : Int32) (σ : AM), CT eV G l (6 + n0) y_Rd_expression prog_9_method_20_code 6 (none) [.ref v0R, .int v1I, .int v2I] σ (rec.1 v0R v1I v2I σ)) ∧ (∀ (v0R : Nat) (v1I : Int32) (σ : AM), CT eV G l (6 + n0) y_Rd_part prog_9_method_23_code 3 (none) [.ref v0R, .int v1I] σ (rec.2 v0R v1I σ))
abbrev S_Rd_expression : Type := Nat × Nat × Int32 × Int32 × Int32 × Int32 × Int32 × AM
noncomputable def T_Rd_expression_0 (rec : GT_Rd_expression_Rd_part) (v0R : Nat) (v1I : Int32) (v2I : Int32) (σ : AM) : S_Rd_expression ⊕ Option (Unit × AM) :=
  if v1I < (4 : Int32) then (gdT (okO σ v0R 2) <| bndT (rec.1 v0R (v1I + (1 : Int32)) v2I σ) fun _ σ2 => if v1I = (1 : Int32) then (.inl (1, v0R, v1I, v2I, 0, 0, (1 : Int32), σ2)) else (.inl (1, v0R, v1I, v2I, 0, 0, (1000 : Int32), σ2))) else (gdT (okO σ v0R 2) <| bndT (rec.2 v0R v2I σ) fun _ σ5 => .inr (some ((), σ5)))
noncomputable def T_Rd_expression_1 (rec : GT_Rd_expression_Rd_part) (v0R : Nat) (v1I : Int32) (v2I : Int32) (s0I : Int32) (σ : AM) : S_Rd_expression ⊕ Option (Unit × AM) :=
  .inl (2, v0R, v1I, v2I, s0I, (0 : Int32), 0, σ)
noncomputable def T_Rd_expression_2 (rec : GT_Rd_expression_Rd_part) (v0R : Nat) (v1I : Int32) (v2I : Int32) (v3I : Int32) (v4I : Int32) (σ : AM) : S_Rd_expression ⊕ Option (Unit × AM) :=
  if v4I < v3I then (gdT (okO σ v0R 2) <| if (aI σ v0R 8) = 0 then (bndT (M_Rd_levelOfToken v0R σ) fun r2 σ3 => if r2 = v1I then (gdT (okO σ3 v0R 2) <| bndT (M_Rd_codeOfSign v0R σ3) fun r4 σ5 => gdT (okO σ5 v0R 2) <| bndT (M_Rd_advance v0R σ5) fun _ σ8 => gdT (okO σ8 v0R 2) <| bndT (rec.1 v0R (v1I + (1 : Int32)) v2I σ8) fun _ σ11 => gdT (okO σ11 v0R 2) <| gdT (okO σ11 (aR σ11 v0R 1) 1) <| bndT (M_Tw_add (aR σ11 v0R 1) r4 σ11) fun _ σ16 => .inl (2, v0R, v1I, v2I, v3I, v4I + (1 : Int32), 0, σ16)) else (.inl (3, 0, 0, 0, 0, 0, 0, σ3))) else (.inl (3, 0, 0, 0, 0, 0, 0, σ))) else (.inl (3, 0, 0, 0, 0, 0, 0, σ))
noncomputable def T_Rd_expression_3 (rec : GT_Rd_expression_Rd_part)  (σ : AM) : S_Rd_expression ⊕ Option (Unit × AM) :=
  .inr (some ((), σ))
noncomputable def F_Rd_expression (rec : GT_Rd_expression_Rd_part) : S_Rd_expression → S_Rd_expression ⊕ Option (Unit × AM) := fun s => match s.1 with
  | 0 => T_Rd_expression_0 rec (s.2.1) (s.2.2.1) (s.2.2.2.1) (s.2.2.2.2.2.2.2)
  | 1 => T_Rd_expression_1 rec (s.2.1) (s.2.2.1) (s.2.2.2.1) (s.2.2.2.2.2.2.1) (s.2.2.2.2.2.2.2)
  | 2 => T_Rd_expression_2 rec (s.2.1) (s.2.2.1) (s.2.2.2.1) (s.2.2.2.2.1) (s.2.2.2.2.2.1) (s.2.2.2.2.2.2.2)
  | _ => T_Rd_expression_3 rec  (s.2.2.2.2.2.2.2)
noncomputable def L_Rd_expression_0 (rec : GT_Rd_expression_Rd_part) (v0R : Nat) (v1I : Int32) (v2I : Int32) (σ : AM) : Option (Unit × AM) := lp (F_Rd_expression rec) (0, v0R, v1I, v2I, 0, 0, 0, σ)
noncomputable def L_Rd_expression_1 (rec : GT_Rd_expression_Rd_part) (v0R : Nat) (v1I : Int32) (v2I : Int32) (s0I : Int32) (σ : AM) : Option (Unit × AM) := lp (F_Rd_expression rec) (1, v0R, v1I, v2I, 0, 0, s0I, σ)
noncomputable def L_Rd_expression_2 (rec : GT_Rd_expression_Rd_part) (v0R : Nat) (v1I : Int32) (v2I : Int32) (v3I : Int32) (v4I : Int32) (σ : AM) : Option (Unit × AM) := lp (F_Rd_expression rec) (2, v0R, v1I, v2I, v3I, v4I, 0, σ)
noncomputable def L_Rd_expression_3 (rec : GT_Rd_expression_Rd_part)  (σ : AM) : Option (Unit × AM) := lp (F_Rd_expression rec) (3, 0, 0, 0, 0, 0, 0, σ)
set_option maxRecDepth 20000 in
theorem E_Rd_expression_0 (rec : GT_Rd_expression_Rd_part) (v0R : Nat) (v1I : Int32) (v2I : Int32) (σ : AM) : L_Rd_expression_0 rec v0R v1I v2I σ = (if v1I < (4 : Int32) then (gd (okO σ v0R 2) <| bnd (rec.1 v0R (v1I + (1 : Int32)) v2I σ) fun _ σ2 => if v1I = (1 : Int32) then (L_Rd_expression_1 rec v0R v1I v2I ((1 : Int32)) σ2) else (L_Rd_expression_1 rec v0R v1I v2I ((1000 : Int32)) σ2)) else (gd (okO σ v0R 2) <| bnd (rec.2 v0R v2I σ) fun _ σ5 => (some ((), σ5)))) := by
  unfold L_Rd_expression_0
  rw [lp_eq]
  show lpK (lp (F_Rd_expression rec)) (T_Rd_expression_0 rec v0R v1I v2I σ) = _
  unfold T_Rd_expression_0
  simp only [lpK_ite, lq_inl, lq_inr, lpK_bnd, lpK_gd, lq_let]
  try rfl
set_option maxRecDepth 20000 in
theorem E_Rd_expression_1 (rec : GT_Rd_expression_Rd_part) (v0R : Nat) (v1I : Int32) (v2I : Int32) (s0I : Int32) (σ : AM) : L_Rd_expression_1 rec v0R v1I v2I s0I σ = (L_Rd_expression_2 rec v0R v1I v2I s0I ((0 : Int32)) σ) := by
  unfold L_Rd_expression_1
  rw [lp_eq]
  show lpK (lp (F_Rd_expression rec)) (T_Rd_expression_1 rec v0R v1I v2I s0I σ) = _
  unfold T_Rd_expression_1
  simp only [lpK_ite, lq_inl, lq_inr, lpK_bnd, lpK_gd, lq_let]
  try rfl
set_option maxRecDepth 20000 in
theorem E_Rd_expression_2 (rec : GT_Rd_expression_Rd_part) (v0R : Nat) (v1I : Int32) (v2I : Int32) (v3I : Int32) (v4I : Int32) (σ : AM) : L_Rd_expression_2 rec v0R v1I v2I v3I v4I σ = (if v4I < v3I then (gd (okO σ v0R 2) <| if (aI σ v0R 8) = 0 then (bnd (M_Rd_levelOfToken v0R σ) fun r2 σ3 => if r2 = v1I then (gd (okO σ3 v0R 2) <| bnd (M_Rd_codeOfSign v0R σ3) fun r4 σ5 => gd (okO σ5 v0R 2) <| bnd (M_Rd_advance v0R σ5) fun _ σ8 => gd (okO σ8 v0R 2) <| bnd (rec.1 v0R (v1I + (1 : Int32)) v2I σ8) fun _ σ11 => gd (okO σ11 v0R 2) <| gd (okO σ11 (aR σ11 v0R 1) 1) <| bnd (M_Tw_add (aR σ11 v0R 1) r4 σ11) fun _ σ16 => L_Rd_expression_2 rec v0R v1I v2I v3I (v4I + (1 : Int32)) σ16) else (L_Rd_expression_3 rec σ3)) else (L_Rd_expression_3 rec σ)) else (L_Rd_expression_3 rec σ)) := by
  unfold L_Rd_expression_2
  rw [lp_eq]
  show lpK (lp (F_Rd_expression rec)) (T_Rd_expression_2 rec v0R v1I v2I v3I v4I σ) = _
  unfold T_Rd_expression_2
  simp only [lpK_ite, lq_inl, lq_inr, lpK_bnd, lpK_gd, lq_let]
  try rfl
set_option maxRecDepth 20000 in
theorem E_Rd_expression_3 (rec : GT_Rd_expression_Rd_part)  (σ : AM) : L_Rd_expression_3 rec  σ = ((some ((), σ))) := by
  unfold L_Rd_expression_3
  rw [lp_eq]
  show lpK (lp (F_Rd_expression rec)) (T_Rd_expression_3 rec  σ) = _
  unfold T_Rd_expression_3
  simp only [lpK_ite, lq_inl, lq_inr, lpK_bnd, lpK_gd, lq_let]
  try rfl
noncomputable def N_Rd_expression (rec : GT_Rd_expression_Rd_part) (v0R : Nat) (v1I : Int32) (v2I : Int32) (σ : AM) : Option (Unit × AM) := mw σ (L_Rd_expression_0 rec v0R v1I v2I σ)
def I_Rd_expression (G : GX) (p : Program) (l : Launch) (e : Env) (s : State) (m : MethodId) (args : Array Value) (below : List Frame) (meth : Method) (c : Code) (n0 : Nat) (rec : GT_Rd_expression_Rd_part) (z0 u0 n : Nat) : Prop :=
  (∀ (v0R : Nat) (v1I : Int32) (v2I : Int32) (σ : AM), VX (QM eV G args s below z0 u0) G p l e s m args below meth c (6 + n0 + 1) z0 u0 6 (lpn (F_Rd_expression rec) n (0, v0R, v1I, v2I, 0, 0, 0, σ)) 0 [(0, .ref v0R), (1, .int v1I), (2, .int v2I)] [] σ) ∧
  (∀ (v0R : Nat) (v1I : Int32) (v2I : Int32) (s0I : Int32) (σ : AM), VX (QM eV G args s below z0 u0) G p l e s m args below meth c (6 + n0 + 1) z0 u0 6 (lpn (F_Rd_expression rec) n (1, v0R, v1I, v2I, 0, 0, s0I, σ)) 31 [(0, .ref v0R), (1, .int v1I), (2, .int v2I)] [.int s0I] σ) ∧
  (∀ (v0R : Nat) (v1I : Int32) (v2I : Int32) (v3I : Int32) (v4I : Int32) (σ : AM), VX (QM eV G args s below z0 u0) G p l e s m args below meth c (6 + n0 + 1) z0 u0 6 (lpn (F_Rd_expression rec) n (2, v0R, v1I, v2I, v3I, v4I, 0, σ)) 35 [(0, .ref v0R), (1, .int v1I), (2, .int v2I), (3, .int v3I), (4, .int v4I)] [] σ) ∧
  (∀ (σ : AM), VX (QM eV G args s below z0 u0) G p l e s m args below meth c (6 + n0 + 1) z0 u0 6 (lpn (F_Rd_expression rec) n (3, 0, 0, 0, 0, 0, 0, σ)) 89 [] [] σ)
set_option maxRecDepth 20000 in
theorem s_Rd_expression_0 {G : GX} {p : Program} {l : Launch} {e : Env} {s : State} {m : MethodId} {args : Array Value} {below : List Frame} {meth : Method} {c : Code} {z0 u0 n : Nat} (C : Cx G p s m args meth c prog_9_method_20_code 6 "BellPlate$Reader" ((none))) {n0 : Nat} {rec : GT_Rd_expression_Rd_part} (HR : H_Rd_expression_Rd_part G l n0 rec) (IH : I_Rd_expression G p l e s m args below meth c n0 rec z0 u0 n) (v0R : Nat) (v1I : Int32) (v2I : Int32) (σ : AM) : VX (QM eV G args s below z0 u0) G p l e s m args below meth c (6 + n0 + 1) z0 u0 6 (lpK (lpn (F_Rd_expression rec) n) (T_Rd_expression_0 rec v0R v1I v2I σ)) 0 [(0, .ref v0R), (1, .int v1I), (2, .int v2I)] [] σ := by
  unfold T_Rd_expression_0
  refine x_iload_n C d_Rd_expression_0 1 rfl ?_
  refine x_iconst (v := (4 : Int32)) C d_Rd_expression_1 (by decide) ?_
  refine x_icmp_lt (tgt := 11) C d_Rd_expression_2 (by decide) (fun _ => ?_) (fun _ => ?_)
  · refine x_aload_n C d_Rd_expression_11 0 rfl ?_
    refine x_iload_n C d_Rd_expression_12 1 rfl ?_
    refine x_iconst (v := (1 : Int32)) C d_Rd_expression_13 (by decide) ?_
    refine x_iadd C d_Rd_expression_14 ?_
    refine x_iload_n C d_Rd_expression_15 2 rfl ?_
    refine x_gd (fun h3 => ?_)
    refine x_callVV (As := [.int (v1I + (1 : Int32)), .int v2I]) C (HR.1 v0R (v1I + (1 : Int32)) v2I σ) (okO_iff.mp h3) rfl w913 w16 w911 w914 w121 k_Rd_expression rfl (by omega) (by decide) rfl (Nat.le_of_ble_eq_true rfl) d_Rd_expression_16 (fun r1 σ2 => ?_)
    refine x_iload_n C d_Rd_expression_19 1 rfl ?_
    refine x_iconst (v := (1 : Int32)) C d_Rd_expression_20 (by decide) ?_
    refine x_icmp_ne (tgt := 28) C d_Rd_expression_21 (by decide) (fun _ => ?_) (fun _ => ?_)
    · refine x_iconst (v := (1 : Int32)) C d_Rd_expression_24 (by decide) ?_
      refine x_goto (tgt := 31) C d_Rd_expression_25 (by decide) ?_
      exact IH.2.1 v0R v1I v2I ((1 : Int32)) (σ2)
    · refine x_sipush (v := (1000 : Int32)) C d_Rd_expression_28 (by decide) ?_
      exact IH.2.1 v0R v1I v2I ((1000 : Int32)) (σ2)
  · refine x_aload_n C d_Rd_expression_5 0 rfl ?_
    refine x_iload_n C d_Rd_expression_6 2 rfl ?_
    refine x_gd (fun h6 => ?_)
    refine x_callVV (As := [.int v2I]) C (HR.2 v0R v2I σ) (okO_iff.mp h6) rfl w917 w17 w915 w918 w121 k_Rd_part rfl (by omega) (by decide) rfl (Nat.le_of_ble_eq_true rfl) d_Rd_expression_7 (fun r4 σ5 => ?_)
    exact x_vret C d_Rd_expression_10
set_option maxRecDepth 20000 in
theorem s_Rd_expression_1 {G : GX} {p : Program} {l : Launch} {e : Env} {s : State} {m : MethodId} {args : Array Value} {below : List Frame} {meth : Method} {c : Code} {z0 u0 n : Nat} (C : Cx G p s m args meth c prog_9_method_20_code 6 "BellPlate$Reader" ((none))) {n0 : Nat} {rec : GT_Rd_expression_Rd_part} (HR : H_Rd_expression_Rd_part G l n0 rec) (IH : I_Rd_expression G p l e s m args below meth c n0 rec z0 u0 n) (v0R : Nat) (v1I : Int32) (v2I : Int32) (s0I : Int32) (σ : AM) : VX (QM eV G args s below z0 u0) G p l e s m args below meth c (6 + n0 + 1) z0 u0 6 (lpK (lpn (F_Rd_expression rec) n) (T_Rd_expression_1 rec v0R v1I v2I s0I σ)) 31 [(0, .ref v0R), (1, .int v1I), (2, .int v2I)] [.int s0I] σ := by
  unfold T_Rd_expression_1
  refine x_istore_n (lv' := [(3, .int s0I), (0, .ref v0R), (1, .int v1I), (2, .int v2I)]) C d_Rd_expression_31 (by decide) rfl rfl ?_
  refine x_iconst (v := (0 : Int32)) C d_Rd_expression_32 (by decide) ?_
  refine x_istore (lv' := [(4, .int (0 : Int32)), (3, .int s0I), (0, .ref v0R), (1, .int v1I), (2, .int v2I)]) C d_Rd_expression_33 (by decide) rfl ?_
  refine x_lv [2, 3, 4, 1, 0] rfl ?_
  exact IH.2.2.1 v0R v1I v2I s0I ((0 : Int32)) (σ)
set_option maxRecDepth 20000 in
theorem s_Rd_expression_2 {G : GX} {p : Program} {l : Launch} {e : Env} {s : State} {m : MethodId} {args : Array Value} {below : List Frame} {meth : Method} {c : Code} {z0 u0 n : Nat} (C : Cx G p s m args meth c prog_9_method_20_code 6 "BellPlate$Reader" ((none))) {n0 : Nat} {rec : GT_Rd_expression_Rd_part} (HR : H_Rd_expression_Rd_part G l n0 rec) (IH : I_Rd_expression G p l e s m args below meth c n0 rec z0 u0 n) (v0R : Nat) (v1I : Int32) (v2I : Int32) (v3I : Int32) (v4I : Int32) (σ : AM) : VX (QM eV G args s below z0 u0) G p l e s m args below meth c (6 + n0 + 1) z0 u0 6 (lpK (lpn (F_Rd_expression rec) n) (T_Rd_expression_2 rec v0R v1I v2I v3I v4I σ)) 35 [(0, .ref v0R), (1, .int v1I), (2, .int v2I), (3, .int v3I), (4, .int v4I)] [] σ := by
  unfold T_Rd_expression_2
  refine x_iload C d_Rd_expression_35 4 rfl ?_
  refine x_iload_n C d_Rd_expression_37 3 rfl ?_
  refine x_icmp_ge (tgt := 89) C d_Rd_expression_38 (by decide) (fun _ => ?_) (fun _ => ?_)
  · refine x_aload_n C d_Rd_expression_41 0 rfl ?_
    refine x_gd (fun h1 => ?_)
    refine x_getI (k := 8) C (okO_iff.mp h1) rfl j1_ok (by decide) rfl w212 d_Rd_expression_42 ?_
    refine x_if_ne (tgt := 89) C d_Rd_expression_45 (by decide) (fun _ => ?_) (fun _ => ?_)
    · refine x_aload_n C d_Rd_expression_48 0 rfl ?_
      refine x_callVI (As := []) C (c_Rd_levelOfToken G l v0R  σ) (okO_iff.mp h1) rfl w933 w20 w931 w934 w121 k_Rd_levelOfToken rfl (by omega) (by decide) rfl (Nat.le_of_ble_eq_true rfl) d_Rd_expression_49 (fun r2 σ3 => ?_)
      refine x_iload_n C d_Rd_expression_52 1 rfl ?_
      refine x_icmp_ne (tgt := 89) C d_Rd_expression_53 (by decide) (fun _ => ?_) (fun _ => ?_)
      · refine x_aload_n C d_Rd_expression_56 0 rfl ?_
        refine x_gd (fun h6 => ?_)
        refine x_callVI (As := []) C (c_Rd_codeOfSign G l v0R  σ3) (okO_iff.mp h6) rfl w937 w21 w935 w938 w121 k_Rd_codeOfSign rfl (by omega) (by decide) rfl (Nat.le_of_ble_eq_true rfl) d_Rd_expression_57 (fun r4 σ5 => ?_)
        refine x_istore (lv' := [(5, .int r4), (0, .ref v0R), (1, .int v1I), (2, .int v2I), (3, .int v3I), (4, .int v4I)]) C d_Rd_expression_60 (by decide) rfl ?_
        refine x_aload_n C d_Rd_expression_62 1 rfl ?_
        refine x_gd (fun h9 => ?_)
        refine x_callVV (As := []) C (c_Rd_advance G l v0R  σ5) (okO_iff.mp h9) rfl w754 w6 w752 w755 w121 k_Rd_advance rfl (by omega) (by decide) rfl (Nat.le_of_ble_eq_true rfl) d_Rd_expression_63 (fun r7 σ8 => ?_)
        refine x_aload_n C d_Rd_expression_66 1 rfl ?_
        refine x_iload_n C d_Rd_expression_67 2 rfl ?_
        refine x_iconst (v := (1 : Int32)) C d_Rd_expression_68 (by decide) ?_
        refine x_iadd C d_Rd_expression_69 ?_
        refine x_iload_n C d_Rd_expression_70 3 rfl ?_
        refine x_gd (fun h12 => ?_)
        refine x_callVV (As := [.int (v1I + (1 : Int32)), .int v2I]) C (HR.1 v0R (v1I + (1 : Int32)) v2I σ8) (okO_iff.mp h12) rfl w913 w16 w911 w914 w121 k_Rd_expression rfl (by omega) (by decide) rfl (Nat.le_of_ble_eq_true rfl) d_Rd_expression_71 (fun r10 σ11 => ?_)
        refine x_aload_n C d_Rd_expression_74 1 rfl ?_
        refine x_gd (fun h13 => ?_)
        refine x_gd (fun h14 => ?_)
        refine x_getR (k := 1) (kv := 1) C (okO_iff.mp h13) rfl j1_ok (by decide) rfl (okO_iff.mp h14) (by decide) w205 d_Rd_expression_75 ?_
        refine x_iload C d_Rd_expression_78 0 rfl ?_
        refine x_callVV (As := [.int r4]) C (c_Tw_add G l (aR σ11 v0R 1) r4 σ11) (okO_iff.mp h14) rfl w924 w925 w923 w926 w122 k_Tw_add rfl (by omega) (by decide) rfl (Nat.le_of_ble_eq_true rfl) d_Rd_expression_80 (fun r15 σ16 => ?_)
        refine x_iinc (v := v4I + (1 : Int32)) (lv' := [(4, .int (v4I + (1 : Int32))), (5, .int r4), (0, .ref v0R), (1, .int v1I), (2, .int v2I), (3, .int v3I)]) C d_Rd_expression_83 5 rfl rfl (by decide) rfl ?_
        refine x_goto (tgt := 35) C d_Rd_expression_86 (by decide) ?_
        refine x_lv [2, 3, 4, 5, 0] rfl ?_
        exact IH.2.2.1 v0R v1I v2I v3I (v4I + (1 : Int32)) (σ16)
      · refine x_lv [] rfl ?_
        exact IH.2.2.2  (σ3)
    · refine x_lv [] rfl ?_
      exact IH.2.2.2  (σ)
  · refine x_lv [] rfl ?_
    exact IH.2.2.2  (σ)
set_option maxRecDepth 20000 in
theorem s_Rd_expression_3 {G : GX} {p : Program} {l : Launch} {e : Env} {s : State} {m : MethodId} {args : Array Value} {below : List Frame} {meth : Method} {c : Code} {z0 u0 n : Nat} (C : Cx G p s m args meth c prog_9_method_20_code 6 "BellPlate$Reader" ((none))) {n0 : Nat} {rec : GT_Rd_expression_Rd_part} (HR : H_Rd_expression_Rd_part G l n0 rec) (IH : I_Rd_expression G p l e s m args below meth c n0 rec z0 u0 n)  (σ : AM) : VX (QM eV G args s below z0 u0) G p l e s m args below meth c (6 + n0 + 1) z0 u0 6 (lpK (lpn (F_Rd_expression rec) n) (T_Rd_expression_3 rec  σ)) 89 [] [] σ := by
  unfold T_Rd_expression_3
  exact x_vret C d_Rd_expression_89
theorem i_Rd_expression {G : GX} {p : Program} {l : Launch} {e : Env} {s : State} {m : MethodId} {args : Array Value} {below : List Frame} {meth : Method} {c : Code} {z0 u0 : Nat} (C : Cx G p s m args meth c prog_9_method_20_code 6 "BellPlate$Reader" ((none))) {n0 : Nat} {rec : GT_Rd_expression_Rd_part} (HR : H_Rd_expression_Rd_part G l n0 rec) (n : Nat) : I_Rd_expression G p l e s m args below meth c n0 rec z0 u0 n := by
  induction n with
  | zero => exact ⟨fun _ _ _ _ => x_none, fun _ _ _ _ _ => x_none, fun _ _ _ _ _ _ => x_none, fun _ => x_none⟩
  | succ n IH => exact ⟨fun v0R v1I v2I σ => s_Rd_expression_0 C HR IH v0R v1I v2I σ, fun v0R v1I v2I s0I σ => s_Rd_expression_1 C HR IH v0R v1I v2I s0I σ, fun v0R v1I v2I v3I v4I σ => s_Rd_expression_2 C HR IH v0R v1I v2I v3I v4I σ, fun σ => s_Rd_expression_3 C HR IH σ⟩
theorem n_Rd_expression (G : GX) (l : Launch) (n0 : Nat) (rec : GT_Rd_expression_Rd_part) (HR : H_Rd_expression_Rd_part G l n0 rec) (v0R : Nat) (v1I : Int32) (v2I : Int32) (σ : AM) : CT eV G l (6 + (n0 + 1)) y_Rd_expression prog_9_method_20_code 6 (none) [.ref v0R, .int v1I, .int v2I] σ (N_Rd_expression rec v0R v1I v2I σ) := by
  refine ct_of (by decide +kernel) (Nat.le_of_ble_eq_true rfl) (fun p e s m args below meth c C hin => ?_)
  refine x_lve (lv' := [(0, .ref v0R), (1, .int v1I), (2, .int v2I)]) rfl ?_
  intro r σ' h
  obtain ⟨n, hn⟩ := (lp_iff _ _ _).mp h
  exact (i_Rd_expression C HR n).1 v0R v1I v2I σ r σ' hn
abbrev S_Rd_part : Type := Nat × Nat × Int32 × AM
noncomputable def T_Rd_part_0 (rec : GT_Rd_expression_Rd_part) (v0R : Nat) (v1I : Int32) (σ : AM) : S_Rd_part ⊕ Option (Unit × AM) :=
  gdT (okO σ v0R 2) <| bndT (M_Rd_faultOfPart v0R v1I σ) fun r1 σ2 => if r1 = 0 then (.inl (1, v0R, v1I, σ2)) else (gdT (okO σ2 v0R 2) <| bndT (M_Rd_fail v0R r1 σ2) fun _ σ5 => .inl (1, v0R, v1I, σ5))
noncomputable def T_Rd_part_1 (rec : GT_Rd_expression_Rd_part) (v0R : Nat) (v1I : Int32) (σ : AM) : S_Rd_part ⊕ Option (Unit × AM) :=
  gdT (okO σ v0R 2) <| if (aI σ v0R 8) = 0 then (if (aI σ v0R 4) = (9 : Int32) then (bndT (M_Rd_advance v0R σ) fun _ σ3 => gdT (okO σ3 v0R 2) <| bndT (rec.2 v0R (v1I + (1 : Int32)) σ3) fun _ σ5 => gdT (okO σ5 v0R 2) <| gdT (okO σ5 (aR σ5 v0R 1) 1) <| bndT (M_Tw_add (aR σ5 v0R 1) (0 : Int32) σ5) fun _ σ10 => .inl (2, 0, 0, σ10)) else (if (aI σ v0R 4) = (40 : Int32) then (bndT (M_Rd_advance v0R σ) fun _ σ12 => gdT (okO σ12 v0R 2) <| bndT (rec.1 v0R (0 : Int32) (v1I + (1 : Int32)) σ12) fun _ σ14 => gdT (okO σ14 v0R 2) <| bndT (M_Rd_expect v0R (41 : Int32) σ14) fun _ σ17 => .inl (2, 0, 0, σ17)) else (gdT (okO σ (aR σ v0R 1) 1) <| bndT (M_Rd_codeOfPart v0R σ) fun r20 σ21 => gdT (okO σ21 (aR σ v0R 1) 1) <| bndT (M_Tw_add (aR σ v0R 1) r20 σ21) fun _ σ23 => gdT (okO σ23 v0R 2) <| bndT (M_Rd_advance v0R σ23) fun _ σ26 => .inl (2, 0, 0, σ26)))) else (.inr (some ((), σ)))
noncomputable def T_Rd_part_2 (rec : GT_Rd_expression_Rd_part)  (σ : AM) : S_Rd_part ⊕ Option (Unit × AM) :=
  .inr (some ((), σ))
noncomputable def F_Rd_part (rec : GT_Rd_expression_Rd_part) : S_Rd_part → S_Rd_part ⊕ Option (Unit × AM) := fun s => match s.1 with
  | 0 => T_Rd_part_0 rec (s.2.1) (s.2.2.1) (s.2.2.2)
  | 1 => T_Rd_part_1 rec (s.2.1) (s.2.2.1) (s.2.2.2)
  | _ => T_Rd_part_2 rec  (s.2.2.2)
noncomputable def L_Rd_part_0 (rec : GT_Rd_expression_Rd_part) (v0R : Nat) (v1I : Int32) (σ : AM) : Option (Unit × AM) := lp (F_Rd_part rec) (0, v0R, v1I, σ)
noncomputable def L_Rd_part_1 (rec : GT_Rd_expression_Rd_part) (v0R : Nat) (v1I : Int32) (σ : AM) : Option (Unit × AM) := lp (F_Rd_part rec) (1, v0R, v1I, σ)
noncomputable def L_Rd_part_2 (rec : GT_Rd_expression_Rd_part)  (σ : AM) : Option (Unit × AM) := lp (F_Rd_part rec) (2, 0, 0, σ)
set_option maxRecDepth 20000 in
theorem E_Rd_part_0 (rec : GT_Rd_expression_Rd_part) (v0R : Nat) (v1I : Int32) (σ : AM) : L_Rd_part_0 rec v0R v1I σ = (gd (okO σ v0R 2) <| bnd (M_Rd_faultOfPart v0R v1I σ) fun r1 σ2 => if r1 = 0 then (L_Rd_part_1 rec v0R v1I σ2) else (gd (okO σ2 v0R 2) <| bnd (M_Rd_fail v0R r1 σ2) fun _ σ5 => L_Rd_part_1 rec v0R v1I σ5)) := by
  unfold L_Rd_part_0
  rw [lp_eq]
  show lpK (lp (F_Rd_part rec)) (T_Rd_part_0 rec v0R v1I σ) = _
  unfold T_Rd_part_0
  simp only [lpK_ite, lq_inl, lq_inr, lpK_bnd, lpK_gd, lq_let]
  try rfl
set_option maxRecDepth 20000 in
theorem E_Rd_part_1 (rec : GT_Rd_expression_Rd_part) (v0R : Nat) (v1I : Int32) (σ : AM) : L_Rd_part_1 rec v0R v1I σ = (gd (okO σ v0R 2) <| if (aI σ v0R 8) = 0 then (if (aI σ v0R 4) = (9 : Int32) then (bnd (M_Rd_advance v0R σ) fun _ σ3 => gd (okO σ3 v0R 2) <| bnd (rec.2 v0R (v1I + (1 : Int32)) σ3) fun _ σ5 => gd (okO σ5 v0R 2) <| gd (okO σ5 (aR σ5 v0R 1) 1) <| bnd (M_Tw_add (aR σ5 v0R 1) (0 : Int32) σ5) fun _ σ10 => L_Rd_part_2 rec σ10) else (if (aI σ v0R 4) = (40 : Int32) then (bnd (M_Rd_advance v0R σ) fun _ σ12 => gd (okO σ12 v0R 2) <| bnd (rec.1 v0R (0 : Int32) (v1I + (1 : Int32)) σ12) fun _ σ14 => gd (okO σ14 v0R 2) <| bnd (M_Rd_expect v0R (41 : Int32) σ14) fun _ σ17 => L_Rd_part_2 rec σ17) else (gd (okO σ (aR σ v0R 1) 1) <| bnd (M_Rd_codeOfPart v0R σ) fun r20 σ21 => gd (okO σ21 (aR σ v0R 1) 1) <| bnd (M_Tw_add (aR σ v0R 1) r20 σ21) fun _ σ23 => gd (okO σ23 v0R 2) <| bnd (M_Rd_advance v0R σ23) fun _ σ26 => L_Rd_part_2 rec σ26))) else ((some ((), σ)))) := by
  unfold L_Rd_part_1
  rw [lp_eq]
  show lpK (lp (F_Rd_part rec)) (T_Rd_part_1 rec v0R v1I σ) = _
  unfold T_Rd_part_1
  simp only [lpK_ite, lq_inl, lq_inr, lpK_bnd, lpK_gd, lq_let]
  try rfl
set_option maxRecDepth 20000 in
theorem E_Rd_part_2 (rec : GT_Rd_expression_Rd_part)  (σ : AM) : L_Rd_part_2 rec  σ = ((some ((), σ))) := by
  unfold L_Rd_part_2
  rw [lp_eq]
  show lpK (lp (F_Rd_part rec)) (T_Rd_part_2 rec  σ) = _
  unfold T_Rd_part_2
  simp only [lpK_ite, lq_inl, lq_inr, lpK_bnd, lpK_gd, lq_let]
  try rfl
noncomputable def N_Rd_part (rec : GT_Rd_expression_Rd_part) (v0R : Nat) (v1I : Int32) (σ : AM) : Option (Unit × AM) := mw σ (L_Rd_part_0 rec v0R v1I σ)
def I_Rd_part (G : GX) (p : Program) (l : Launch) (e : Env) (s : State) (m : MethodId) (args : Array Value) (below : List Frame) (meth : Method) (c : Code) (n0 : Nat) (rec : GT_Rd_expression_Rd_part) (z0 u0 n : Nat) : Prop :=
  (∀ (v0R : Nat) (v1I : Int32) (σ : AM), VX (QM eV G args s below z0 u0) G p l e s m args below meth c (6 + n0 + 1) z0 u0 3 (lpn (F_Rd_part rec) n (0, v0R, v1I, σ)) 0 [(0, .ref v0R), (1, .int v1I)] [] σ) ∧
  (∀ (v0R : Nat) (v1I : Int32) (σ : AM), VX (QM eV G args s below z0 u0) G p l e s m args below meth c (6 + n0 + 1) z0 u0 3 (lpn (F_Rd_part rec) n (1, v0R, v1I, σ)) 15 [(0, .ref v0R), (1, .int v1I)] [] σ) ∧
  (∀ (σ : AM), VX (QM eV G args s below z0 u0) G p l e s m args below meth c (6 + n0 + 1) z0 u0 3 (lpn (F_Rd_part rec) n (2, 0, 0, σ)) 99 [] [] σ)
set_option maxRecDepth 20000 in
theorem s_Rd_part_0 {G : GX} {p : Program} {l : Launch} {e : Env} {s : State} {m : MethodId} {args : Array Value} {below : List Frame} {meth : Method} {c : Code} {z0 u0 n : Nat} (C : Cx G p s m args meth c prog_9_method_23_code 3 "BellPlate$Reader" ((none))) {n0 : Nat} {rec : GT_Rd_expression_Rd_part} (HR : H_Rd_expression_Rd_part G l n0 rec) (IH : I_Rd_part G p l e s m args below meth c n0 rec z0 u0 n) (v0R : Nat) (v1I : Int32) (σ : AM) : VX (QM eV G args s below z0 u0) G p l e s m args below meth c (6 + n0 + 1) z0 u0 3 (lpK (lpn (F_Rd_part rec) n) (T_Rd_part_0 rec v0R v1I σ)) 0 [(0, .ref v0R), (1, .int v1I)] [] σ := by
  unfold T_Rd_part_0
  refine x_aload_n C d_Rd_part_0 0 rfl ?_
  refine x_iload_n C d_Rd_part_1 1 rfl ?_
  refine x_gd (fun h3 => ?_)
  refine x_callVI (As := [.int v1I]) C (c_Rd_faultOfPart G l v0R v1I σ) (okO_iff.mp h3) rfl w921 w18 w919 w922 w121 k_Rd_faultOfPart rfl (by omega) (by decide) rfl (Nat.le_of_ble_eq_true rfl) d_Rd_part_2 (fun r1 σ2 => ?_)
  refine x_istore_n (lv' := [(2, .int r1), (0, .ref v0R), (1, .int v1I)]) C d_Rd_part_5 (by decide) rfl rfl ?_
  refine x_iload_n C d_Rd_part_6 0 rfl ?_
  refine x_if_eq (tgt := 15) C d_Rd_part_7 (by decide) (fun _ => ?_) (fun _ => ?_)
  · refine x_lv [1, 2] rfl ?_
    exact IH.2.1 v0R v1I (σ2)
  · refine x_aload_n C d_Rd_part_10 1 rfl ?_
    refine x_iload_n C d_Rd_part_11 0 rfl ?_
    refine x_gd (fun h6 => ?_)
    refine x_callVV (As := [.int r1]) C (c_Rd_fail G l v0R r1 σ2) (okO_iff.mp h6) rfl w865 w10 w863 w866 w121 k_Rd_fail rfl (by omega) (by decide) rfl (Nat.le_of_ble_eq_true rfl) d_Rd_part_12 (fun r4 σ5 => ?_)
    refine x_lv [1, 2] rfl ?_
    exact IH.2.1 v0R v1I (σ5)
set_option maxRecDepth 20000 in
theorem s_Rd_part_1 {G : GX} {p : Program} {l : Launch} {e : Env} {s : State} {m : MethodId} {args : Array Value} {below : List Frame} {meth : Method} {c : Code} {z0 u0 n : Nat} (C : Cx G p s m args meth c prog_9_method_23_code 3 "BellPlate$Reader" ((none))) {n0 : Nat} {rec : GT_Rd_expression_Rd_part} (HR : H_Rd_expression_Rd_part G l n0 rec) (IH : I_Rd_part G p l e s m args below meth c n0 rec z0 u0 n) (v0R : Nat) (v1I : Int32) (σ : AM) : VX (QM eV G args s below z0 u0) G p l e s m args below meth c (6 + n0 + 1) z0 u0 3 (lpK (lpn (F_Rd_part rec) n) (T_Rd_part_1 rec v0R v1I σ)) 15 [(0, .ref v0R), (1, .int v1I)] [] σ := by
  unfold T_Rd_part_1
  refine x_aload_n C d_Rd_part_15 0 rfl ?_
  refine x_gd (fun h1 => ?_)
  refine x_getI (k := 8) C (okO_iff.mp h1) rfl j1_ok (by decide) rfl w212 d_Rd_part_16 ?_
  refine x_if_eq (tgt := 23) C d_Rd_part_19 (by decide) (fun _ => ?_) (fun _ => ?_)
  · refine x_aload_n C d_Rd_part_23 0 rfl ?_
    refine x_getI (k := 4) C (okO_iff.mp h1) rfl j1_ok (by decide) rfl w208 d_Rd_part_24 ?_
    refine x_bipush (v := (9 : Int32)) C d_Rd_part_27 (by decide) ?_
    refine x_icmp_ne (tgt := 54) C d_Rd_part_29 (by decide) (fun _ => ?_) (fun _ => ?_)
    · refine x_aload_n C d_Rd_part_32 0 rfl ?_
      refine x_callVV (As := []) C (c_Rd_advance G l v0R  σ) (okO_iff.mp h1) rfl w754 w6 w752 w755 w121 k_Rd_advance rfl (by omega) (by decide) rfl (Nat.le_of_ble_eq_true rfl) d_Rd_part_33 (fun r2 σ3 => ?_)
      refine x_aload_n C d_Rd_part_36 0 rfl ?_
      refine x_iload_n C d_Rd_part_37 1 rfl ?_
      refine x_iconst (v := (1 : Int32)) C d_Rd_part_38 (by decide) ?_
      refine x_iadd C d_Rd_part_39 ?_
      refine x_gd (fun h6 => ?_)
      refine x_callVV (As := [.int (v1I + (1 : Int32))]) C (HR.2 v0R (v1I + (1 : Int32)) σ3) (okO_iff.mp h6) rfl w917 w17 w915 w918 w121 k_Rd_part rfl (by omega) (by decide) rfl (Nat.le_of_ble_eq_true rfl) d_Rd_part_40 (fun r4 σ5 => ?_)
      refine x_aload_n C d_Rd_part_43 0 rfl ?_
      refine x_gd (fun h7 => ?_)
      refine x_gd (fun h8 => ?_)
      refine x_getR (k := 1) (kv := 1) C (okO_iff.mp h7) rfl j1_ok (by decide) rfl (okO_iff.mp h8) (by decide) w205 d_Rd_part_44 ?_
      refine x_iconst (v := (0 : Int32)) C d_Rd_part_47 (by decide) ?_
      refine x_callVV (As := [.int (0 : Int32)]) C (c_Tw_add G l (aR σ5 v0R 1) (0 : Int32) σ5) (okO_iff.mp h8) rfl w924 w925 w923 w926 w122 k_Tw_add rfl (by omega) (by decide) rfl (Nat.le_of_ble_eq_true rfl) d_Rd_part_48 (fun r9 σ10 => ?_)
      refine x_goto (tgt := 99) C d_Rd_part_51 (by decide) ?_
      refine x_lv [] rfl ?_
      exact IH.2.2  (σ10)
    · refine x_aload_n C d_Rd_part_54 0 rfl ?_
      refine x_getI (k := 4) C (okO_iff.mp h1) rfl j1_ok (by decide) rfl w208 d_Rd_part_55 ?_
      refine x_bipush (v := (40 : Int32)) C d_Rd_part_58 (by decide) ?_
      refine x_icmp_ne (tgt := 84) C d_Rd_part_60 (by decide) (fun _ => ?_) (fun _ => ?_)
      · refine x_aload_n C d_Rd_part_63 0 rfl ?_
        refine x_callVV (As := []) C (c_Rd_advance G l v0R  σ) (okO_iff.mp h1) rfl w754 w6 w752 w755 w121 k_Rd_advance rfl (by omega) (by decide) rfl (Nat.le_of_ble_eq_true rfl) d_Rd_part_64 (fun r11 σ12 => ?_)
        refine x_aload_n C d_Rd_part_67 0 rfl ?_
        refine x_iconst (v := (0 : Int32)) C d_Rd_part_68 (by decide) ?_
        refine x_iload_n C d_Rd_part_69 1 rfl ?_
        refine x_iconst (v := (1 : Int32)) C d_Rd_part_70 (by decide) ?_
        refine x_iadd C d_Rd_part_71 ?_
        refine x_gd (fun h15 => ?_)
        refine x_callVV (As := [.int (0 : Int32), .int (v1I + (1 : Int32))]) C (HR.1 v0R (0 : Int32) (v1I + (1 : Int32)) σ12) (okO_iff.mp h15) rfl w913 w16 w911 w914 w121 k_Rd_expression rfl (by omega) (by decide) rfl (Nat.le_of_ble_eq_true rfl) d_Rd_part_72 (fun r13 σ14 => ?_)
        refine x_aload_n C d_Rd_part_75 0 rfl ?_
        refine x_bipush (v := (41 : Int32)) C d_Rd_part_76 (by decide) ?_
        refine x_gd (fun h18 => ?_)
        refine x_callVV (As := [.int (41 : Int32)]) C (c_Rd_expect G l v0R (41 : Int32) σ14) (okO_iff.mp h18) rfl w877 w11 w875 w878 w121 k_Rd_expect rfl (by omega) (by decide) rfl (Nat.le_of_ble_eq_true rfl) d_Rd_part_78 (fun r16 σ17 => ?_)
        refine x_goto (tgt := 99) C d_Rd_part_81 (by decide) ?_
        refine x_lv [] rfl ?_
        exact IH.2.2  (σ17)
      · refine x_aload_n C d_Rd_part_84 0 rfl ?_
        refine x_gd (fun h19 => ?_)
        refine x_getR (k := 1) (kv := 1) C (okO_iff.mp h1) rfl j1_ok (by decide) rfl (okO_iff.mp h19) (by decide) w205 d_Rd_part_85 ?_
        refine x_aload_n C d_Rd_part_88 0 rfl ?_
        refine x_callVI (As := []) C (c_Rd_codeOfPart G l v0R  σ) (okO_iff.mp h1) rfl w929 w19 w927 w930 w121 k_Rd_codeOfPart rfl (by omega) (by decide) rfl (Nat.le_of_ble_eq_true rfl) d_Rd_part_89 (fun r20 σ21 => ?_)
        refine x_gd (fun h24 => ?_)
        refine x_callVV (As := [.int r20]) C (c_Tw_add G l (aR σ v0R 1) r20 σ21) (okO_iff.mp h24) rfl w924 w925 w923 w926 w122 k_Tw_add rfl (by omega) (by decide) rfl (Nat.le_of_ble_eq_true rfl) d_Rd_part_92 (fun r22 σ23 => ?_)
        refine x_aload_n C d_Rd_part_95 0 rfl ?_
        refine x_gd (fun h27 => ?_)
        refine x_callVV (As := []) C (c_Rd_advance G l v0R  σ23) (okO_iff.mp h27) rfl w754 w6 w752 w755 w121 k_Rd_advance rfl (by omega) (by decide) rfl (Nat.le_of_ble_eq_true rfl) d_Rd_part_96 (fun r25 σ26 => ?_)
        refine x_lv [] rfl ?_
        exact IH.2.2  (σ26)
  · exact x_vret C d_Rd_part_22
set_option maxRecDepth 20000 in
theorem s_Rd_part_2 {G : GX} {p : Program} {l : Launch} {e : Env} {s : State} {m : MethodId} {args : Array Value} {below : List Frame} {meth : Method} {c : Code} {z0 u0 n : Nat} (C : Cx G p s m args meth c prog_9_method_23_code 3 "BellPlate$Reader" ((none))) {n0 : Nat} {rec : GT_Rd_expression_Rd_part} (HR : H_Rd_expression_Rd_part G l n0 rec) (IH : I_Rd_part G p l e s m args below meth c n0 rec z0 u0 n)  (σ : AM) : VX (QM eV G args s below z0 u0) G p l e s m args below meth c (6 + n0 + 1) z0 u0 3 (lpK (lpn (F_Rd_part rec) n) (T_Rd_part_2 rec  σ)) 99 [] [] σ := by
  unfold T_Rd_part_2
  exact x_vret C d_Rd_part_99
theorem i_Rd_part {G : GX} {p : Program} {l : Launch} {e : Env} {s : State} {m : MethodId} {args : Array Value} {below : List Frame} {meth : Method} {c : Code} {z0 u0 : Nat} (C : Cx G p s m args meth c prog_9_method_23_code 3 "BellPlate$Reader" ((none))) {n0 : Nat} {rec : GT_Rd_expression_Rd_part} (HR : H_Rd_expression_Rd_part G l n0 rec) (n : Nat) : I_Rd_part G p l e s m args below meth c n0 rec z0 u0 n := by
  induction n with
  | zero => exact ⟨fun _ _ _ => x_none, fun _ _ _ => x_none, fun _ => x_none⟩
  | succ n IH => exact ⟨fun v0R v1I σ => s_Rd_part_0 C HR IH v0R v1I σ, fun v0R v1I σ => s_Rd_part_1 C HR IH v0R v1I σ, fun σ => s_Rd_part_2 C HR IH σ⟩
theorem n_Rd_part (G : GX) (l : Launch) (n0 : Nat) (rec : GT_Rd_expression_Rd_part) (HR : H_Rd_expression_Rd_part G l n0 rec) (v0R : Nat) (v1I : Int32) (σ : AM) : CT eV G l (6 + (n0 + 1)) y_Rd_part prog_9_method_23_code 3 (none) [.ref v0R, .int v1I] σ (N_Rd_part rec v0R v1I σ) := by
  refine ct_of (by decide +kernel) (Nat.le_of_ble_eq_true rfl) (fun p e s m args below meth c C hin => ?_)
  refine x_lve (lv' := [(0, .ref v0R), (1, .int v1I)]) rfl ?_
  intro r σ' h
  obtain ⟨n, hn⟩ := (lp_iff _ _ _).mp h
  exact (i_Rd_part C HR n).1 v0R v1I σ r σ' hn
noncomputable def Q_Rd_expression_Rd_part : Nat → GT_Rd_expression_Rd_part
  | 0 => (fun _ _ _ _ => none, fun _ _ _ => none)
  | n + 1 => (fun v0R v1I v2I σ => N_Rd_expression (Q_Rd_expression_Rd_part n) v0R v1I v2I σ, fun v0R v1I σ => N_Rd_part (Q_Rd_expression_Rd_part n) v0R v1I σ)
theorem q_Rd_expression_Rd_part (G : GX) (l : Launch) (n : Nat) : H_Rd_expression_Rd_part G l n (Q_Rd_expression_Rd_part n) := by
  induction n with
  | zero => exact ⟨fun _ _ _ _ r σ' h => absurd (show none = some (r, σ') from h) (fun q => by cases q), fun _ _ _ r σ' h => absurd (show none = some (r, σ') from h) (fun q => by cases q)⟩
  | succ n ih => exact ⟨fun v0R v1I v2I σ => n_Rd_expression G l n (Q_Rd_expression_Rd_part n) ih v0R v1I v2I σ, fun v0R v1I σ => n_Rd_part G l n (Q_Rd_expression_Rd_part n) ih v0R v1I σ⟩
noncomputable def M_Rd_expression (v0R : Nat) (v1I : Int32) (v2I : Int32) (σ : AM) : Option (Unit × AM) := (Q_Rd_expression_Rd_part 80).1 v0R v1I v2I σ
theorem c_Rd_expression (G : GX) (l : Launch) (v0R : Nat) (v1I : Int32) (v2I : Int32) (σ : AM) : CT eV G l 86 y_Rd_expression prog_9_method_20_code 6 (none) [.ref v0R, .int v1I, .int v2I] σ (M_Rd_expression v0R v1I v2I σ) := (q_Rd_expression_Rd_part G l 80).1 v0R v1I v2I σ
noncomputable def M_Rd_part (v0R : Nat) (v1I : Int32) (σ : AM) : Option (Unit × AM) := (Q_Rd_expression_Rd_part 80).2 v0R v1I σ
theorem c_Rd_part (G : GX) (l : Launch) (v0R : Nat) (v1I : Int32) (σ : AM) : CT eV G l 86 y_Rd_part prog_9_method_23_code 3 (none) [.ref v0R, .int v1I] σ (M_Rd_part v0R v1I σ) := (q_Rd_expression_Rd_part G l 80).2 v0R v1I σ

/-! BellPlate$Reader.allowLine()V -/
abbrev y_Rd_allowLine : MethodName := ⟨"BellPlate$Reader", "allowLine", "()V"⟩
theorem k_Rd_allowLine : y_Rd_allowLine.cls ≠ "java/lang/invoke/MethodHandle" ∧ y_Rd_allowLine.cls ≠ "java/lang/invoke/VarHandle" ∧ (parseMethodDescriptor y_Rd_allowLine.desc).map (fun d => d.parameters.length) = some 0 := by decide +kernel
theorem d_Rd_allowLine_0 : decode prog_9_method_17_code 0 = .ok (.aload_n 0, 1) := by decide +kernel
theorem d_Rd_allowLine_1 : decode prog_9_method_17_code 1 = .ok (.getfield 18, 3) := by decide +kernel
theorem d_Rd_allowLine_4 : decode prog_9_method_17_code 4 = .ok (.invokevirtual 137, 3) := by decide +kernel
theorem d_Rd_allowLine_7 : decode prog_9_method_17_code 7 = .ok (.iconst 4, 1) := by decide +kernel
theorem d_Rd_allowLine_8 : decode prog_9_method_17_code 8 = .ok (.if_icmp .lt 9, 3) := by decide +kernel
theorem d_Rd_allowLine_11 : decode prog_9_method_17_code 11 = .ok (.aload_n 0, 1) := by decide +kernel
theorem d_Rd_allowLine_12 : decode prog_9_method_17_code 12 = .ok (.iconst 5, 1) := by decide +kernel
theorem d_Rd_allowLine_13 : decode prog_9_method_17_code 13 = .ok (.invokevirtual 68, 3) := by decide +kernel
theorem d_Rd_allowLine_16 : decode prog_9_method_17_code 16 = .ok (.return_, 1) := by decide +kernel
theorem d_Rd_allowLine_17 : decode prog_9_method_17_code 17 = .ok (.aload_n 0, 1) := by decide +kernel
theorem d_Rd_allowLine_18 : decode prog_9_method_17_code 18 = .ok (.iconst 0, 1) := by decide +kernel
theorem d_Rd_allowLine_19 : decode prog_9_method_17_code 19 = .ok (.putfield 140, 3) := by decide +kernel
theorem d_Rd_allowLine_22 : decode prog_9_method_17_code 22 = .ok (.aload_n 0, 1) := by decide +kernel
theorem d_Rd_allowLine_23 : decode prog_9_method_17_code 23 = .ok (.getfield 18, 3) := by decide +kernel
theorem d_Rd_allowLine_26 : decode prog_9_method_17_code 26 = .ok (.invokevirtual 143, 3) := by decide +kernel
theorem d_Rd_allowLine_29 : decode prog_9_method_17_code 29 = .ok (.aload_n 0, 1) := by decide +kernel
theorem d_Rd_allowLine_30 : decode prog_9_method_17_code 30 = .ok (.invokevirtual 47, 3) := by decide +kernel
theorem d_Rd_allowLine_33 : decode prog_9_method_17_code 33 = .ok (.aload_n 0, 1) := by decide +kernel
theorem d_Rd_allowLine_34 : decode prog_9_method_17_code 34 = .ok (.iconst 0, 1) := by decide +kernel
theorem d_Rd_allowLine_35 : decode prog_9_method_17_code 35 = .ok (.iconst 0, 1) := by decide +kernel
theorem d_Rd_allowLine_36 : decode prog_9_method_17_code 36 = .ok (.invokevirtual 146, 3) := by decide +kernel
theorem d_Rd_allowLine_39 : decode prog_9_method_17_code 39 = .ok (.aload_n 0, 1) := by decide +kernel
theorem d_Rd_allowLine_40 : decode prog_9_method_17_code 40 = .ok (.bipush 59, 2) := by decide +kernel
theorem d_Rd_allowLine_42 : decode prog_9_method_17_code 42 = .ok (.invokevirtual 125, 3) := by decide +kernel
theorem d_Rd_allowLine_45 : decode prog_9_method_17_code 45 = .ok (.aload_n 0, 1) := by decide +kernel
theorem d_Rd_allowLine_46 : decode prog_9_method_17_code 46 = .ok (.getfield 18, 3) := by decide +kernel
theorem d_Rd_allowLine_49 : decode prog_9_method_17_code 49 = .ok (.invokevirtual 150, 3) := by decide +kernel
theorem d_Rd_allowLine_52 : decode prog_9_method_17_code 52 = .ok (.return_, 1) := by decide +kernel
abbrev S_Rd_allowLine : Type := Nat × Nat × AM
noncomputable def T_Rd_allowLine_0 (v0R : Nat) (σ : AM) : S_Rd_allowLine ⊕ Option (Unit × AM) :=
  gdT (okO σ v0R 2) <| gdT (okO σ (aR σ v0R 1) 1) <| bndT (M_Tw_allows (aR σ v0R 1) σ) fun r3 σ4 => if r3 < (4 : Int32) then (gdT (okO σ4 v0R 2) <| letT (sI σ4 v0R 12 (0 : Int32)) fun σ6 => gdT (okO σ6 (aR σ6 v0R 1) 1) <| bndT (M_Tw_beginAllow (aR σ6 v0R 1) σ6) fun _ σ10 => gdT (okO σ10 v0R 2) <| bndT (M_Rd_advance v0R σ10) fun _ σ12 => gdT (okO σ12 v0R 2) <| bndT (M_Rd_expression v0R (0 : Int32) (0 : Int32) σ12) fun _ σ15 => gdT (okO σ15 v0R 2) <| bndT (M_Rd_expect v0R (59 : Int32) σ15) fun _ σ18 => gdT (okO σ18 v0R 2) <| gdT (okO σ18 (aR σ18 v0R 1) 1) <| bndT (M_Tw_endAllow (aR σ18 v0R 1) σ18) fun _ σ23 => .inr (some ((), σ23))) else (gdT (okO σ4 v0R 2) <| bndT (M_Rd_fail v0R (5 : Int32) σ4) fun _ σ25 => .inr (some ((), σ25)))
noncomputable def F_Rd_allowLine : S_Rd_allowLine → S_Rd_allowLine ⊕ Option (Unit × AM) := fun s => match s.1 with
  | _ => T_Rd_allowLine_0 (s.2.1) (s.2.2)
noncomputable def L_Rd_allowLine_0 (v0R : Nat) (σ : AM) : Option (Unit × AM) := lp F_Rd_allowLine (0, v0R, σ)
set_option maxRecDepth 20000 in
theorem E_Rd_allowLine_0 (v0R : Nat) (σ : AM) : L_Rd_allowLine_0 v0R σ = (gd (okO σ v0R 2) <| gd (okO σ (aR σ v0R 1) 1) <| bnd (M_Tw_allows (aR σ v0R 1) σ) fun r3 σ4 => if r3 < (4 : Int32) then (gd (okO σ4 v0R 2) <| letT (sI σ4 v0R 12 (0 : Int32)) fun σ6 => gd (okO σ6 (aR σ6 v0R 1) 1) <| bnd (M_Tw_beginAllow (aR σ6 v0R 1) σ6) fun _ σ10 => gd (okO σ10 v0R 2) <| bnd (M_Rd_advance v0R σ10) fun _ σ12 => gd (okO σ12 v0R 2) <| bnd (M_Rd_expression v0R (0 : Int32) (0 : Int32) σ12) fun _ σ15 => gd (okO σ15 v0R 2) <| bnd (M_Rd_expect v0R (59 : Int32) σ15) fun _ σ18 => gd (okO σ18 v0R 2) <| gd (okO σ18 (aR σ18 v0R 1) 1) <| bnd (M_Tw_endAllow (aR σ18 v0R 1) σ18) fun _ σ23 => (some ((), σ23))) else (gd (okO σ4 v0R 2) <| bnd (M_Rd_fail v0R (5 : Int32) σ4) fun _ σ25 => (some ((), σ25)))) := by
  unfold L_Rd_allowLine_0
  rw [lp_eq]
  show lpK (lp F_Rd_allowLine) (T_Rd_allowLine_0 v0R σ) = _
  unfold T_Rd_allowLine_0
  simp only [lpK_ite, lq_inl, lq_inr, lpK_bnd, lpK_gd, lq_let]
  try rfl
noncomputable def M_Rd_allowLine (v0R : Nat) (σ : AM) : Option (Unit × AM) := mw σ (L_Rd_allowLine_0 v0R σ)
def I_Rd_allowLine (G : GX) (p : Program) (l : Launch) (e : Env) (s : State) (m : MethodId) (args : Array Value) (below : List Frame) (meth : Method) (c : Code) (z0 u0 n : Nat) : Prop :=
  (∀ (v0R : Nat) (σ : AM), VX (QM eV G args s below z0 u0) G p l e s m args below meth c 87 z0 u0 1 (lpn F_Rd_allowLine n (0, v0R, σ)) 0 [(0, .ref v0R)] [] σ)
set_option maxRecDepth 20000 in
theorem s_Rd_allowLine_0 {G : GX} {p : Program} {l : Launch} {e : Env} {s : State} {m : MethodId} {args : Array Value} {below : List Frame} {meth : Method} {c : Code} {z0 u0 n : Nat} (C : Cx G p s m args meth c prog_9_method_17_code 1 "BellPlate$Reader" ((none))) (IH : I_Rd_allowLine G p l e s m args below meth c z0 u0 n) (v0R : Nat) (σ : AM) : VX (QM eV G args s below z0 u0) G p l e s m args below meth c 87 z0 u0 1 (lpK (lpn F_Rd_allowLine n) (T_Rd_allowLine_0 v0R σ)) 0 [(0, .ref v0R)] [] σ := by
  unfold T_Rd_allowLine_0
  refine x_aload_n C d_Rd_allowLine_0 0 rfl ?_
  refine x_gd (fun h1 => ?_)
  refine x_gd (fun h2 => ?_)
  refine x_getR (k := 1) (kv := 1) C (okO_iff.mp h1) rfl j1_ok (by decide) rfl (okO_iff.mp h2) (by decide) w205 d_Rd_allowLine_1 ?_
  refine x_callVI (As := []) C (c_Tw_allows G l (aR σ v0R 1)  σ) (okO_iff.mp h2) rfl w904 w905 w903 w906 w122 k_Tw_allows rfl (by decide) (by decide) rfl (Nat.le_of_ble_eq_true rfl) d_Rd_allowLine_4 (fun r3 σ4 => ?_)
  refine x_iconst (v := (4 : Int32)) C d_Rd_allowLine_7 (by decide) ?_
  refine x_icmp_lt (tgt := 17) C d_Rd_allowLine_8 (by decide) (fun _ => ?_) (fun _ => ?_)
  · refine x_aload_n C d_Rd_allowLine_17 0 rfl ?_
    refine x_iconst (v := (0 : Int32)) C d_Rd_allowLine_18 (by decide) ?_
    refine x_gd (fun h5 => ?_)
    refine x_putI (k := 12) C (okO_iff.mp h5) rfl j1_ok y1_ok n1_ok (by decide) rfl rfl (by decide) (by decide) w216 d_Rd_allowLine_19 ?_
    refine x_letS (fun σ6 e7 => ?_)
    refine x_aload_n C d_Rd_allowLine_22 0 rfl ?_
    refine x_gd (fun h8 => ?_)
    refine x_getR (k := 1) (kv := 1) C (by first | exact (okO_iff.mp h5) | (rw [e7]; exact (okO_iff.mp h5))) rfl j1_ok (by decide) rfl (okO_iff.mp h8) (by decide) w205 d_Rd_allowLine_23 ?_
    refine x_callVV (As := []) C (c_Tw_beginAllow G l (aR σ6 v0R 1)  σ6) (okO_iff.mp h8) rfl w908 w909 w907 w910 w122 k_Tw_beginAllow rfl (by decide) (by decide) rfl (Nat.le_of_ble_eq_true rfl) d_Rd_allowLine_26 (fun r9 σ10 => ?_)
    refine x_aload_n C d_Rd_allowLine_29 0 rfl ?_
    refine x_gd (fun h13 => ?_)
    refine x_callVV (As := []) C (c_Rd_advance G l v0R  σ10) (okO_iff.mp h13) rfl w754 w6 w752 w755 w121 k_Rd_advance rfl (by decide) (by decide) rfl (Nat.le_of_ble_eq_true rfl) d_Rd_allowLine_30 (fun r11 σ12 => ?_)
    refine x_aload_n C d_Rd_allowLine_33 0 rfl ?_
    refine x_iconst (v := (0 : Int32)) C d_Rd_allowLine_34 (by decide) ?_
    refine x_iconst (v := (0 : Int32)) C d_Rd_allowLine_35 (by decide) ?_
    refine x_gd (fun h16 => ?_)
    refine x_callVV (As := [.int (0 : Int32), .int (0 : Int32)]) C (c_Rd_expression G l v0R (0 : Int32) (0 : Int32) σ12) (okO_iff.mp h16) rfl w913 w16 w911 w914 w121 k_Rd_expression rfl (by decide) (by decide) rfl (Nat.le_of_ble_eq_true rfl) d_Rd_allowLine_36 (fun r14 σ15 => ?_)
    refine x_aload_n C d_Rd_allowLine_39 0 rfl ?_
    refine x_bipush (v := (59 : Int32)) C d_Rd_allowLine_40 (by decide) ?_
    refine x_gd (fun h19 => ?_)
    refine x_callVV (As := [.int (59 : Int32)]) C (c_Rd_expect G l v0R (59 : Int32) σ15) (okO_iff.mp h19) rfl w877 w11 w875 w878 w121 k_Rd_expect rfl (by decide) (by decide) rfl (Nat.le_of_ble_eq_true rfl) d_Rd_allowLine_42 (fun r17 σ18 => ?_)
    refine x_aload_n C d_Rd_allowLine_45 0 rfl ?_
    refine x_gd (fun h20 => ?_)
    refine x_gd (fun h21 => ?_)
    refine x_getR (k := 1) (kv := 1) C (okO_iff.mp h20) rfl j1_ok (by decide) rfl (okO_iff.mp h21) (by decide) w205 d_Rd_allowLine_46 ?_
    refine x_callVV (As := []) C (c_Tw_endAllow G l (aR σ18 v0R 1)  σ18) (okO_iff.mp h21) rfl w940 w941 w939 w942 w122 k_Tw_endAllow rfl (by decide) (by decide) rfl (Nat.le_of_ble_eq_true rfl) d_Rd_allowLine_49 (fun r22 σ23 => ?_)
    exact x_vret C d_Rd_allowLine_52
  · refine x_aload_n C d_Rd_allowLine_11 0 rfl ?_
    refine x_iconst (v := (5 : Int32)) C d_Rd_allowLine_12 (by decide) ?_
    refine x_gd (fun h26 => ?_)
    refine x_callVV (As := [.int (5 : Int32)]) C (c_Rd_fail G l v0R (5 : Int32) σ4) (okO_iff.mp h26) rfl w865 w10 w863 w866 w121 k_Rd_fail rfl (by decide) (by decide) rfl (Nat.le_of_ble_eq_true rfl) d_Rd_allowLine_13 (fun r24 σ25 => ?_)
    exact x_vret C d_Rd_allowLine_16
theorem i_Rd_allowLine {G : GX} {p : Program} {l : Launch} {e : Env} {s : State} {m : MethodId} {args : Array Value} {below : List Frame} {meth : Method} {c : Code} {z0 u0 : Nat} (C : Cx G p s m args meth c prog_9_method_17_code 1 "BellPlate$Reader" ((none))) (n : Nat) : I_Rd_allowLine G p l e s m args below meth c z0 u0 n := by
  induction n with
  | zero => exact fun _ _ => x_none
  | succ n IH => exact fun v0R σ => s_Rd_allowLine_0 C IH v0R σ
theorem c_Rd_allowLine (G : GX) (l : Launch) (v0R : Nat) (σ : AM) : CT eV G l 87 y_Rd_allowLine prog_9_method_17_code 1 (none) [.ref v0R] σ (M_Rd_allowLine v0R σ) := by
  refine ct_of (by decide +kernel) (Nat.le_of_ble_eq_true rfl) (fun p e s m args below meth c C hin => ?_)
  refine x_lve (lv' := [(0, .ref v0R)]) rfl ?_
  intro r σ' h
  obtain ⟨n, hn⟩ := (lp_iff _ _ _).mp h
  exact (i_Rd_allowLine C n) v0R σ r σ' hn
/-! BellPlate$Reader.costLine()V -/
abbrev y_Rd_costLine : MethodName := ⟨"BellPlate$Reader", "costLine", "()V"⟩
theorem k_Rd_costLine : y_Rd_costLine.cls ≠ "java/lang/invoke/MethodHandle" ∧ y_Rd_costLine.cls ≠ "java/lang/invoke/VarHandle" ∧ (parseMethodDescriptor y_Rd_costLine.desc).map (fun d => d.parameters.length) = some 0 := by decide +kernel
theorem d_Rd_costLine_0 : decode prog_9_method_18_code 0 = .ok (.aload_n 0, 1) := by decide +kernel
theorem d_Rd_costLine_1 : decode prog_9_method_18_code 1 = .ok (.getfield 41, 3) := by decide +kernel
theorem d_Rd_costLine_4 : decode prog_9_method_18_code 4 = .ok (.ifCond .eq 9, 3) := by decide +kernel
theorem d_Rd_costLine_7 : decode prog_9_method_18_code 7 = .ok (.aload_n 0, 1) := by decide +kernel
theorem d_Rd_costLine_8 : decode prog_9_method_18_code 8 = .ok (.iconst 3, 1) := by decide +kernel
theorem d_Rd_costLine_9 : decode prog_9_method_18_code 9 = .ok (.invokevirtual 68, 3) := by decide +kernel
theorem d_Rd_costLine_12 : decode prog_9_method_18_code 12 = .ok (.return_, 1) := by decide +kernel
theorem d_Rd_costLine_13 : decode prog_9_method_18_code 13 = .ok (.aload_n 0, 1) := by decide +kernel
theorem d_Rd_costLine_14 : decode prog_9_method_18_code 14 = .ok (.iconst 1, 1) := by decide +kernel
theorem d_Rd_costLine_15 : decode prog_9_method_18_code 15 = .ok (.putfield 41, 3) := by decide +kernel
theorem d_Rd_costLine_18 : decode prog_9_method_18_code 18 = .ok (.aload_n 0, 1) := by decide +kernel
theorem d_Rd_costLine_19 : decode prog_9_method_18_code 19 = .ok (.iconst 1, 1) := by decide +kernel
theorem d_Rd_costLine_20 : decode prog_9_method_18_code 20 = .ok (.putfield 140, 3) := by decide +kernel
theorem d_Rd_costLine_23 : decode prog_9_method_18_code 23 = .ok (.aload_n 0, 1) := by decide +kernel
theorem d_Rd_costLine_24 : decode prog_9_method_18_code 24 = .ok (.getfield 18, 3) := by decide +kernel
theorem d_Rd_costLine_27 : decode prog_9_method_18_code 27 = .ok (.invokevirtual 153, 3) := by decide +kernel
theorem d_Rd_costLine_30 : decode prog_9_method_18_code 30 = .ok (.aload_n 0, 1) := by decide +kernel
theorem d_Rd_costLine_31 : decode prog_9_method_18_code 31 = .ok (.invokevirtual 47, 3) := by decide +kernel
theorem d_Rd_costLine_34 : decode prog_9_method_18_code 34 = .ok (.aload_n 0, 1) := by decide +kernel
theorem d_Rd_costLine_35 : decode prog_9_method_18_code 35 = .ok (.iconst 0, 1) := by decide +kernel
theorem d_Rd_costLine_36 : decode prog_9_method_18_code 36 = .ok (.iconst 0, 1) := by decide +kernel
theorem d_Rd_costLine_37 : decode prog_9_method_18_code 37 = .ok (.invokevirtual 146, 3) := by decide +kernel
theorem d_Rd_costLine_40 : decode prog_9_method_18_code 40 = .ok (.aload_n 0, 1) := by decide +kernel
theorem d_Rd_costLine_41 : decode prog_9_method_18_code 41 = .ok (.bipush 59, 2) := by decide +kernel
theorem d_Rd_costLine_43 : decode prog_9_method_18_code 43 = .ok (.invokevirtual 125, 3) := by decide +kernel
theorem d_Rd_costLine_46 : decode prog_9_method_18_code 46 = .ok (.aload_n 0, 1) := by decide +kernel
theorem d_Rd_costLine_47 : decode prog_9_method_18_code 47 = .ok (.getfield 18, 3) := by decide +kernel
theorem d_Rd_costLine_50 : decode prog_9_method_18_code 50 = .ok (.invokevirtual 156, 3) := by decide +kernel
theorem d_Rd_costLine_53 : decode prog_9_method_18_code 53 = .ok (.return_, 1) := by decide +kernel
abbrev S_Rd_costLine : Type := Nat × Nat × AM
noncomputable def T_Rd_costLine_0 (v0R : Nat) (σ : AM) : S_Rd_costLine ⊕ Option (Unit × AM) :=
  gdT (okO σ v0R 2) <| if (aI σ v0R 11) = 0 then (letT (sI σ v0R 11 (1 : Int32)) fun σ2 => letT (sI σ2 v0R 12 (1 : Int32)) fun σ4 => gdT (okO σ4 (aR σ4 v0R 1) 1) <| bndT (M_Tw_beginCost (aR σ4 v0R 1) σ4) fun _ σ8 => gdT (okO σ8 v0R 2) <| bndT (M_Rd_advance v0R σ8) fun _ σ10 => gdT (okO σ10 v0R 2) <| bndT (M_Rd_expression v0R (0 : Int32) (0 : Int32) σ10) fun _ σ13 => gdT (okO σ13 v0R 2) <| bndT (M_Rd_expect v0R (59 : Int32) σ13) fun _ σ16 => gdT (okO σ16 v0R 2) <| gdT (okO σ16 (aR σ16 v0R 1) 1) <| bndT (M_Tw_endCost (aR σ16 v0R 1) σ16) fun _ σ21 => .inr (some ((), σ21))) else (bndT (M_Rd_fail v0R (3 : Int32) σ) fun _ σ23 => .inr (some ((), σ23)))
noncomputable def F_Rd_costLine : S_Rd_costLine → S_Rd_costLine ⊕ Option (Unit × AM) := fun s => match s.1 with
  | _ => T_Rd_costLine_0 (s.2.1) (s.2.2)
noncomputable def L_Rd_costLine_0 (v0R : Nat) (σ : AM) : Option (Unit × AM) := lp F_Rd_costLine (0, v0R, σ)
set_option maxRecDepth 20000 in
theorem E_Rd_costLine_0 (v0R : Nat) (σ : AM) : L_Rd_costLine_0 v0R σ = (gd (okO σ v0R 2) <| if (aI σ v0R 11) = 0 then (letT (sI σ v0R 11 (1 : Int32)) fun σ2 => letT (sI σ2 v0R 12 (1 : Int32)) fun σ4 => gd (okO σ4 (aR σ4 v0R 1) 1) <| bnd (M_Tw_beginCost (aR σ4 v0R 1) σ4) fun _ σ8 => gd (okO σ8 v0R 2) <| bnd (M_Rd_advance v0R σ8) fun _ σ10 => gd (okO σ10 v0R 2) <| bnd (M_Rd_expression v0R (0 : Int32) (0 : Int32) σ10) fun _ σ13 => gd (okO σ13 v0R 2) <| bnd (M_Rd_expect v0R (59 : Int32) σ13) fun _ σ16 => gd (okO σ16 v0R 2) <| gd (okO σ16 (aR σ16 v0R 1) 1) <| bnd (M_Tw_endCost (aR σ16 v0R 1) σ16) fun _ σ21 => (some ((), σ21))) else (bnd (M_Rd_fail v0R (3 : Int32) σ) fun _ σ23 => (some ((), σ23)))) := by
  unfold L_Rd_costLine_0
  rw [lp_eq]
  show lpK (lp F_Rd_costLine) (T_Rd_costLine_0 v0R σ) = _
  unfold T_Rd_costLine_0
  simp only [lpK_ite, lq_inl, lq_inr, lpK_bnd, lpK_gd, lq_let]
  try rfl
noncomputable def M_Rd_costLine (v0R : Nat) (σ : AM) : Option (Unit × AM) := mw σ (L_Rd_costLine_0 v0R σ)
def I_Rd_costLine (G : GX) (p : Program) (l : Launch) (e : Env) (s : State) (m : MethodId) (args : Array Value) (below : List Frame) (meth : Method) (c : Code) (z0 u0 n : Nat) : Prop :=
  (∀ (v0R : Nat) (σ : AM), VX (QM eV G args s below z0 u0) G p l e s m args below meth c 87 z0 u0 1 (lpn F_Rd_costLine n (0, v0R, σ)) 0 [(0, .ref v0R)] [] σ)
set_option maxRecDepth 20000 in
theorem s_Rd_costLine_0 {G : GX} {p : Program} {l : Launch} {e : Env} {s : State} {m : MethodId} {args : Array Value} {below : List Frame} {meth : Method} {c : Code} {z0 u0 n : Nat} (C : Cx G p s m args meth c prog_9_method_18_code 1 "BellPlate$Reader" ((none))) (IH : I_Rd_costLine G p l e s m args below meth c z0 u0 n) (v0R : Nat) (σ : AM) : VX (QM eV G args s below z0 u0) G p l e s m args below meth c 87 z0 u0 1 (lpK (lpn F_Rd_costLine n) (T_Rd_costLine_0 v0R σ)) 0 [(0, .ref v0R)] [] σ := by
  unfold T_Rd_costLine_0
  refine x_aload_n C d_Rd_costLine_0 0 rfl ?_
  refine x_gd (fun h1 => ?_)
  refine x_getI (k := 11) C (okO_iff.mp h1) rfl j1_ok (by decide) rfl w215 d_Rd_costLine_1 ?_
  refine x_if_eq (tgt := 13) C d_Rd_costLine_4 (by decide) (fun _ => ?_) (fun _ => ?_)
  · refine x_aload_n C d_Rd_costLine_13 0 rfl ?_
    refine x_iconst (v := (1 : Int32)) C d_Rd_costLine_14 (by decide) ?_
    refine x_putI (k := 11) C (okO_iff.mp h1) rfl j1_ok y1_ok n1_ok (by decide) rfl rfl (by decide) (by decide) w215 d_Rd_costLine_15 ?_
    refine x_letS (fun σ2 e3 => ?_)
    refine x_aload_n C d_Rd_costLine_18 0 rfl ?_
    refine x_iconst (v := (1 : Int32)) C d_Rd_costLine_19 (by decide) ?_
    refine x_putI (k := 12) C (by first | exact (okO_iff.mp h1) | (rw [e3]; exact (okO_iff.mp h1))) rfl j1_ok y1_ok n1_ok (by decide) rfl rfl (by decide) (by decide) w216 d_Rd_costLine_20 ?_
    refine x_letS (fun σ4 e5 => ?_)
    refine x_aload_n C d_Rd_costLine_23 0 rfl ?_
    refine x_gd (fun h6 => ?_)
    refine x_getR (k := 1) (kv := 1) C (by first | exact (okO_iff.mp h1) | (rw [e5, e3]; exact (okO_iff.mp h1))) rfl j1_ok (by decide) rfl (okO_iff.mp h6) (by decide) w205 d_Rd_costLine_24 ?_
    refine x_callVV (As := []) C (c_Tw_beginCost G l (aR σ4 v0R 1)  σ4) (okO_iff.mp h6) rfl w948 w949 w947 w950 w122 k_Tw_beginCost rfl (by decide) (by decide) rfl (Nat.le_of_ble_eq_true rfl) d_Rd_costLine_27 (fun r7 σ8 => ?_)
    refine x_aload_n C d_Rd_costLine_30 0 rfl ?_
    refine x_gd (fun h11 => ?_)
    refine x_callVV (As := []) C (c_Rd_advance G l v0R  σ8) (okO_iff.mp h11) rfl w754 w6 w752 w755 w121 k_Rd_advance rfl (by decide) (by decide) rfl (Nat.le_of_ble_eq_true rfl) d_Rd_costLine_31 (fun r9 σ10 => ?_)
    refine x_aload_n C d_Rd_costLine_34 0 rfl ?_
    refine x_iconst (v := (0 : Int32)) C d_Rd_costLine_35 (by decide) ?_
    refine x_iconst (v := (0 : Int32)) C d_Rd_costLine_36 (by decide) ?_
    refine x_gd (fun h14 => ?_)
    refine x_callVV (As := [.int (0 : Int32), .int (0 : Int32)]) C (c_Rd_expression G l v0R (0 : Int32) (0 : Int32) σ10) (okO_iff.mp h14) rfl w913 w16 w911 w914 w121 k_Rd_expression rfl (by decide) (by decide) rfl (Nat.le_of_ble_eq_true rfl) d_Rd_costLine_37 (fun r12 σ13 => ?_)
    refine x_aload_n C d_Rd_costLine_40 0 rfl ?_
    refine x_bipush (v := (59 : Int32)) C d_Rd_costLine_41 (by decide) ?_
    refine x_gd (fun h17 => ?_)
    refine x_callVV (As := [.int (59 : Int32)]) C (c_Rd_expect G l v0R (59 : Int32) σ13) (okO_iff.mp h17) rfl w877 w11 w875 w878 w121 k_Rd_expect rfl (by decide) (by decide) rfl (Nat.le_of_ble_eq_true rfl) d_Rd_costLine_43 (fun r15 σ16 => ?_)
    refine x_aload_n C d_Rd_costLine_46 0 rfl ?_
    refine x_gd (fun h18 => ?_)
    refine x_gd (fun h19 => ?_)
    refine x_getR (k := 1) (kv := 1) C (okO_iff.mp h18) rfl j1_ok (by decide) rfl (okO_iff.mp h19) (by decide) w205 d_Rd_costLine_47 ?_
    refine x_callVV (As := []) C (c_Tw_endCost G l (aR σ16 v0R 1)  σ16) (okO_iff.mp h19) rfl w952 w953 w951 w954 w122 k_Tw_endCost rfl (by decide) (by decide) rfl (Nat.le_of_ble_eq_true rfl) d_Rd_costLine_50 (fun r20 σ21 => ?_)
    exact x_vret C d_Rd_costLine_53
  · refine x_aload_n C d_Rd_costLine_7 0 rfl ?_
    refine x_iconst (v := (3 : Int32)) C d_Rd_costLine_8 (by decide) ?_
    refine x_callVV (As := [.int (3 : Int32)]) C (c_Rd_fail G l v0R (3 : Int32) σ) (okO_iff.mp h1) rfl w865 w10 w863 w866 w121 k_Rd_fail rfl (by decide) (by decide) rfl (Nat.le_of_ble_eq_true rfl) d_Rd_costLine_9 (fun r22 σ23 => ?_)
    exact x_vret C d_Rd_costLine_12
theorem i_Rd_costLine {G : GX} {p : Program} {l : Launch} {e : Env} {s : State} {m : MethodId} {args : Array Value} {below : List Frame} {meth : Method} {c : Code} {z0 u0 : Nat} (C : Cx G p s m args meth c prog_9_method_18_code 1 "BellPlate$Reader" ((none))) (n : Nat) : I_Rd_costLine G p l e s m args below meth c z0 u0 n := by
  induction n with
  | zero => exact fun _ _ => x_none
  | succ n IH => exact fun v0R σ => s_Rd_costLine_0 C IH v0R σ
theorem c_Rd_costLine (G : GX) (l : Launch) (v0R : Nat) (σ : AM) : CT eV G l 87 y_Rd_costLine prog_9_method_18_code 1 (none) [.ref v0R] σ (M_Rd_costLine v0R σ) := by
  refine ct_of (by decide +kernel) (Nat.le_of_ble_eq_true rfl) (fun p e s m args below meth c C hin => ?_)
  refine x_lve (lv' := [(0, .ref v0R)]) rfl ?_
  intro r σ' h
  obtain ⟨n, hn⟩ := (lp_iff _ _ _).mp h
  exact (i_Rd_costLine C n) v0R σ r σ' hn
/-! BellPlate$Reader.read()I -/
abbrev y_Rd_read : MethodName := ⟨"BellPlate$Reader", "read", "()I"⟩
theorem k_Rd_read : y_Rd_read.cls ≠ "java/lang/invoke/MethodHandle" ∧ y_Rd_read.cls ≠ "java/lang/invoke/VarHandle" ∧ (parseMethodDescriptor y_Rd_read.desc).map (fun d => d.parameters.length) = some 0 := by decide +kernel
theorem d_Rd_read_0 : decode prog_9_method_5_code 0 = .ok (.aload_n 0, 1) := by decide +kernel
theorem d_Rd_read_1 : decode prog_9_method_5_code 1 = .ok (.iconst 0, 1) := by decide +kernel
theorem d_Rd_read_2 : decode prog_9_method_5_code 2 = .ok (.putfield 28, 3) := by decide +kernel
theorem d_Rd_read_5 : decode prog_9_method_5_code 5 = .ok (.aload_n 0, 1) := by decide +kernel
theorem d_Rd_read_6 : decode prog_9_method_5_code 6 = .ok (.iconst 0, 1) := by decide +kernel
theorem d_Rd_read_7 : decode prog_9_method_5_code 7 = .ok (.putfield 31, 3) := by decide +kernel
theorem d_Rd_read_10 : decode prog_9_method_5_code 10 = .ok (.aload_n 0, 1) := by decide +kernel
theorem d_Rd_read_11 : decode prog_9_method_5_code 11 = .ok (.iconst 0, 1) := by decide +kernel
theorem d_Rd_read_12 : decode prog_9_method_5_code 12 = .ok (.putfield 34, 3) := by decide +kernel
theorem d_Rd_read_15 : decode prog_9_method_5_code 15 = .ok (.aload_n 0, 1) := by decide +kernel
theorem d_Rd_read_16 : decode prog_9_method_5_code 16 = .ok (.iconst 0, 1) := by decide +kernel
theorem d_Rd_read_17 : decode prog_9_method_5_code 17 = .ok (.putfield 38, 3) := by decide +kernel
theorem d_Rd_read_20 : decode prog_9_method_5_code 20 = .ok (.aload_n 0, 1) := by decide +kernel
theorem d_Rd_read_21 : decode prog_9_method_5_code 21 = .ok (.iconst 0, 1) := by decide +kernel
theorem d_Rd_read_22 : decode prog_9_method_5_code 22 = .ok (.putfield 41, 3) := by decide +kernel
theorem d_Rd_read_25 : decode prog_9_method_5_code 25 = .ok (.aload_n 0, 1) := by decide +kernel
theorem d_Rd_read_26 : decode prog_9_method_5_code 26 = .ok (.getfield 18, 3) := by decide +kernel
theorem d_Rd_read_29 : decode prog_9_method_5_code 29 = .ok (.invokevirtual 44, 3) := by decide +kernel
theorem d_Rd_read_32 : decode prog_9_method_5_code 32 = .ok (.aload_n 0, 1) := by decide +kernel
theorem d_Rd_read_33 : decode prog_9_method_5_code 33 = .ok (.invokevirtual 47, 3) := by decide +kernel
theorem d_Rd_read_36 : decode prog_9_method_5_code 36 = .ok (.iconst 0, 1) := by decide +kernel
theorem d_Rd_read_37 : decode prog_9_method_5_code 37 = .ok (.istore_n 1, 1) := by decide +kernel
theorem d_Rd_read_38 : decode prog_9_method_5_code 38 = .ok (.iload_n 1, 1) := by decide +kernel
theorem d_Rd_read_39 : decode prog_9_method_5_code 39 = .ok (.sipush 1000, 3) := by decide +kernel
theorem d_Rd_read_42 : decode prog_9_method_5_code 42 = .ok (.if_icmp .ge 100, 3) := by decide +kernel
theorem d_Rd_read_45 : decode prog_9_method_5_code 45 = .ok (.aload_n 0, 1) := by decide +kernel
theorem d_Rd_read_46 : decode prog_9_method_5_code 46 = .ok (.getfield 31, 3) := by decide +kernel
theorem d_Rd_read_49 : decode prog_9_method_5_code 49 = .ok (.ifCond .ne 93, 3) := by decide +kernel
theorem d_Rd_read_52 : decode prog_9_method_5_code 52 = .ok (.aload_n 0, 1) := by decide +kernel
theorem d_Rd_read_53 : decode prog_9_method_5_code 53 = .ok (.getfield 50, 3) := by decide +kernel
theorem d_Rd_read_56 : decode prog_9_method_5_code 56 = .ok (.ifCond .eq 86, 3) := by decide +kernel
theorem d_Rd_read_59 : decode prog_9_method_5_code 59 = .ok (.aload_n 0, 1) := by decide +kernel
theorem d_Rd_read_60 : decode prog_9_method_5_code 60 = .ok (.getfield 50, 3) := by decide +kernel
theorem d_Rd_read_63 : decode prog_9_method_5_code 63 = .ok (.tableswitch 68 4 8 #[33, 40, 47, 54, 61], 33) := by decide +kernel
theorem d_Rd_read_96 : decode prog_9_method_5_code 96 = .ok (.aload_n 0, 1) := by decide +kernel
theorem d_Rd_read_97 : decode prog_9_method_5_code 97 = .ok (.invokevirtual 53, 3) := by decide +kernel
theorem d_Rd_read_100 : decode prog_9_method_5_code 100 = .ok (.goto 36, 3) := by decide +kernel
theorem d_Rd_read_103 : decode prog_9_method_5_code 103 = .ok (.aload_n 0, 1) := by decide +kernel
theorem d_Rd_read_104 : decode prog_9_method_5_code 104 = .ok (.invokevirtual 56, 3) := by decide +kernel
theorem d_Rd_read_107 : decode prog_9_method_5_code 107 = .ok (.goto 29, 3) := by decide +kernel
theorem d_Rd_read_110 : decode prog_9_method_5_code 110 = .ok (.aload_n 0, 1) := by decide +kernel
theorem d_Rd_read_111 : decode prog_9_method_5_code 111 = .ok (.invokevirtual 59, 3) := by decide +kernel
theorem d_Rd_read_114 : decode prog_9_method_5_code 114 = .ok (.goto 22, 3) := by decide +kernel
theorem d_Rd_read_117 : decode prog_9_method_5_code 117 = .ok (.aload_n 0, 1) := by decide +kernel
theorem d_Rd_read_118 : decode prog_9_method_5_code 118 = .ok (.invokevirtual 62, 3) := by decide +kernel
theorem d_Rd_read_121 : decode prog_9_method_5_code 121 = .ok (.goto 15, 3) := by decide +kernel
theorem d_Rd_read_124 : decode prog_9_method_5_code 124 = .ok (.aload_n 0, 1) := by decide +kernel
theorem d_Rd_read_125 : decode prog_9_method_5_code 125 = .ok (.invokevirtual 65, 3) := by decide +kernel
theorem d_Rd_read_128 : decode prog_9_method_5_code 128 = .ok (.goto 8, 3) := by decide +kernel
theorem d_Rd_read_131 : decode prog_9_method_5_code 131 = .ok (.aload_n 0, 1) := by decide +kernel
theorem d_Rd_read_132 : decode prog_9_method_5_code 132 = .ok (.iconst 1, 1) := by decide +kernel
theorem d_Rd_read_133 : decode prog_9_method_5_code 133 = .ok (.invokevirtual 68, 3) := by decide +kernel
theorem d_Rd_read_136 : decode prog_9_method_5_code 136 = .ok (.iinc 1 1, 3) := by decide +kernel
theorem d_Rd_read_139 : decode prog_9_method_5_code 139 = .ok (.goto (-101), 3) := by decide +kernel
theorem d_Rd_read_142 : decode prog_9_method_5_code 142 = .ok (.aload_n 0, 1) := by decide +kernel
theorem d_Rd_read_143 : decode prog_9_method_5_code 143 = .ok (.getfield 18, 3) := by decide +kernel
theorem d_Rd_read_146 : decode prog_9_method_5_code 146 = .ok (.invokevirtual 72, 3) := by decide +kernel
theorem d_Rd_read_149 : decode prog_9_method_5_code 149 = .ok (.sipush 16384, 3) := by decide +kernel
theorem d_Rd_read_152 : decode prog_9_method_5_code 152 = .ok (.if_icmp .le 9, 3) := by decide +kernel
theorem d_Rd_read_155 : decode prog_9_method_5_code 155 = .ok (.aload_n 0, 1) := by decide +kernel
theorem d_Rd_read_156 : decode prog_9_method_5_code 156 = .ok (.bipush 6, 2) := by decide +kernel
theorem d_Rd_read_158 : decode prog_9_method_5_code 158 = .ok (.invokevirtual 68, 3) := by decide +kernel
theorem d_Rd_read_161 : decode prog_9_method_5_code 161 = .ok (.aload_n 0, 1) := by decide +kernel
theorem d_Rd_read_162 : decode prog_9_method_5_code 162 = .ok (.iconst 0, 1) := by decide +kernel
theorem d_Rd_read_163 : decode prog_9_method_5_code 163 = .ok (.putfield 22, 3) := by decide +kernel
theorem d_Rd_read_166 : decode prog_9_method_5_code 166 = .ok (.aload_n 0, 1) := by decide +kernel
theorem d_Rd_read_167 : decode prog_9_method_5_code 167 = .ok (.getfield 31, 3) := by decide +kernel
theorem d_Rd_read_170 : decode prog_9_method_5_code 170 = .ok (.ireturn, 1) := by decide +kernel
abbrev S_Rd_read : Type := Nat × Nat × Int32 × AM
noncomputable def T_Rd_read_0 (v0R : Nat) (σ : AM) : S_Rd_read ⊕ Option (Int32 × AM) :=
  gdT (okO σ v0R 2) <| letT (sI σ v0R 3 (0 : Int32)) fun σ2 => letT (sI σ2 v0R 8 (0 : Int32)) fun σ4 => letT (sI σ4 v0R 9 (0 : Int32)) fun σ6 => letT (sI σ6 v0R 10 (0 : Int32)) fun σ8 => letT (sI σ8 v0R 11 (0 : Int32)) fun σ10 => gdT (okO σ10 (aR σ10 v0R 1) 1) <| bndT (M_Tw_wipe (aR σ10 v0R 1) σ10) fun _ σ14 => gdT (okO σ14 v0R 2) <| bndT (M_Rd_advance v0R σ14) fun _ σ16 => .inl (1, v0R, (0 : Int32), σ16)
noncomputable def T_Rd_read_1 (v0R : Nat) (v1I : Int32) (σ : AM) : S_Rd_read ⊕ Option (Int32 × AM) :=
  if v1I < (1000 : Int32) then (gdT (okO σ v0R 2) <| if (aI σ v0R 8) = 0 then (if (aI σ v0R 4) = 0 then (.inl (3, v0R, 0, σ)) else (letT (aI σ v0R 4) fun x2 => if x2 = (4 : Int32) then (bndT (M_Rd_thingLine v0R σ) fun _ σ5 => .inl (2, v0R, v1I, σ5)) else (if x2 = (5 : Int32) then (bndT (M_Rd_mostLine v0R σ) fun _ σ8 => .inl (2, v0R, v1I, σ8)) else (if x2 = (6 : Int32) then (bndT (M_Rd_barLine v0R σ) fun _ σ11 => .inl (2, v0R, v1I, σ11)) else (if x2 = (7 : Int32) then (bndT (M_Rd_allowLine v0R σ) fun _ σ14 => .inl (2, v0R, v1I, σ14)) else (if x2 = (8 : Int32) then (bndT (M_Rd_costLine v0R σ) fun _ σ17 => .inl (2, v0R, v1I, σ17)) else (bndT (M_Rd_fail v0R (1 : Int32) σ) fun _ σ19 => .inl (2, v0R, v1I, σ19)))))))) else (.inl (3, v0R, 0, σ))) else (.inl (3, v0R, 0, σ))
noncomputable def T_Rd_read_2 (v0R : Nat) (v1I : Int32) (σ : AM) : S_Rd_read ⊕ Option (Int32 × AM) :=
  .inl (1, v0R, v1I + (1 : Int32), σ)
noncomputable def T_Rd_read_3 (v0R : Nat) (σ : AM) : S_Rd_read ⊕ Option (Int32 × AM) :=
  gdT (okO σ v0R 2) <| gdT (okO σ (aR σ v0R 1) 1) <| bndT (M_Tw_all (aR σ v0R 1) σ) fun r3 σ4 => if (16384 : Int32) < r3 then (gdT (okO σ4 v0R 2) <| bndT (M_Rd_fail v0R (6 : Int32) σ4) fun _ σ6 => .inl (4, v0R, 0, σ6)) else (.inl (4, v0R, 0, σ4))
noncomputable def T_Rd_read_4 (v0R : Nat) (σ : AM) : S_Rd_read ⊕ Option (Int32 × AM) :=
  gdT (okO σ v0R 2) <| letT (sI σ v0R 2 (0 : Int32)) fun σ2 => .inr (some ((aI σ2 v0R 8), σ2))
noncomputable def F_Rd_read : S_Rd_read → S_Rd_read ⊕ Option (Int32 × AM) := fun s => match s.1 with
  | 0 => T_Rd_read_0 (s.2.1) (s.2.2.2)
  | 1 => T_Rd_read_1 (s.2.1) (s.2.2.1) (s.2.2.2)
  | 2 => T_Rd_read_2 (s.2.1) (s.2.2.1) (s.2.2.2)
  | 3 => T_Rd_read_3 (s.2.1) (s.2.2.2)
  | _ => T_Rd_read_4 (s.2.1) (s.2.2.2)
noncomputable def L_Rd_read_0 (v0R : Nat) (σ : AM) : Option (Int32 × AM) := lp F_Rd_read (0, v0R, 0, σ)
noncomputable def L_Rd_read_1 (v0R : Nat) (v1I : Int32) (σ : AM) : Option (Int32 × AM) := lp F_Rd_read (1, v0R, v1I, σ)
noncomputable def L_Rd_read_2 (v0R : Nat) (v1I : Int32) (σ : AM) : Option (Int32 × AM) := lp F_Rd_read (2, v0R, v1I, σ)
noncomputable def L_Rd_read_3 (v0R : Nat) (σ : AM) : Option (Int32 × AM) := lp F_Rd_read (3, v0R, 0, σ)
noncomputable def L_Rd_read_4 (v0R : Nat) (σ : AM) : Option (Int32 × AM) := lp F_Rd_read (4, v0R, 0, σ)
set_option maxRecDepth 20000 in
theorem E_Rd_read_0 (v0R : Nat) (σ : AM) : L_Rd_read_0 v0R σ = (gd (okO σ v0R 2) <| letT (sI σ v0R 3 (0 : Int32)) fun σ2 => letT (sI σ2 v0R 8 (0 : Int32)) fun σ4 => letT (sI σ4 v0R 9 (0 : Int32)) fun σ6 => letT (sI σ6 v0R 10 (0 : Int32)) fun σ8 => letT (sI σ8 v0R 11 (0 : Int32)) fun σ10 => gd (okO σ10 (aR σ10 v0R 1) 1) <| bnd (M_Tw_wipe (aR σ10 v0R 1) σ10) fun _ σ14 => gd (okO σ14 v0R 2) <| bnd (M_Rd_advance v0R σ14) fun _ σ16 => L_Rd_read_1 v0R ((0 : Int32)) σ16) := by
  unfold L_Rd_read_0
  rw [lp_eq]
  show lpK (lp F_Rd_read) (T_Rd_read_0 v0R σ) = _
  unfold T_Rd_read_0
  simp only [lpK_ite, lq_inl, lq_inr, lpK_bnd, lpK_gd, lq_let]
  try rfl
set_option maxRecDepth 20000 in
theorem E_Rd_read_1 (v0R : Nat) (v1I : Int32) (σ : AM) : L_Rd_read_1 v0R v1I σ = (if v1I < (1000 : Int32) then (gd (okO σ v0R 2) <| if (aI σ v0R 8) = 0 then (if (aI σ v0R 4) = 0 then (L_Rd_read_3 v0R σ) else (letT (aI σ v0R 4) fun x2 => if x2 = (4 : Int32) then (bnd (M_Rd_thingLine v0R σ) fun _ σ5 => L_Rd_read_2 v0R v1I σ5) else (if x2 = (5 : Int32) then (bnd (M_Rd_mostLine v0R σ) fun _ σ8 => L_Rd_read_2 v0R v1I σ8) else (if x2 = (6 : Int32) then (bnd (M_Rd_barLine v0R σ) fun _ σ11 => L_Rd_read_2 v0R v1I σ11) else (if x2 = (7 : Int32) then (bnd (M_Rd_allowLine v0R σ) fun _ σ14 => L_Rd_read_2 v0R v1I σ14) else (if x2 = (8 : Int32) then (bnd (M_Rd_costLine v0R σ) fun _ σ17 => L_Rd_read_2 v0R v1I σ17) else (bnd (M_Rd_fail v0R (1 : Int32) σ) fun _ σ19 => L_Rd_read_2 v0R v1I σ19))))))) else (L_Rd_read_3 v0R σ)) else (L_Rd_read_3 v0R σ)) := by
  unfold L_Rd_read_1
  rw [lp_eq]
  show lpK (lp F_Rd_read) (T_Rd_read_1 v0R v1I σ) = _
  unfold T_Rd_read_1
  simp only [lpK_ite, lq_inl, lq_inr, lpK_bnd, lpK_gd, lq_let]
  try rfl
set_option maxRecDepth 20000 in
theorem E_Rd_read_2 (v0R : Nat) (v1I : Int32) (σ : AM) : L_Rd_read_2 v0R v1I σ = (L_Rd_read_1 v0R (v1I + (1 : Int32)) σ) := by
  unfold L_Rd_read_2
  rw [lp_eq]
  show lpK (lp F_Rd_read) (T_Rd_read_2 v0R v1I σ) = _
  unfold T_Rd_read_2
  simp only [lpK_ite, lq_inl, lq_inr, lpK_bnd, lpK_gd, lq_let]
  try rfl
set_option maxRecDepth 20000 in
theorem E_Rd_read_3 (v0R : Nat) (σ : AM) : L_Rd_read_3 v0R σ = (gd (okO σ v0R 2) <| gd (okO σ (aR σ v0R 1) 1) <| bnd (M_Tw_all (aR σ v0R 1) σ) fun r3 σ4 => if (16384 : Int32) < r3 then (gd (okO σ4 v0R 2) <| bnd (M_Rd_fail v0R (6 : Int32) σ4) fun _ σ6 => L_Rd_read_4 v0R σ6) else (L_Rd_read_4 v0R σ4)) := by
  unfold L_Rd_read_3
  rw [lp_eq]
  show lpK (lp F_Rd_read) (T_Rd_read_3 v0R σ) = _
  unfold T_Rd_read_3
  simp only [lpK_ite, lq_inl, lq_inr, lpK_bnd, lpK_gd, lq_let]
  try rfl
set_option maxRecDepth 20000 in
theorem E_Rd_read_4 (v0R : Nat) (σ : AM) : L_Rd_read_4 v0R σ = (gd (okO σ v0R 2) <| letT (sI σ v0R 2 (0 : Int32)) fun σ2 => (some ((aI σ2 v0R 8), σ2))) := by
  unfold L_Rd_read_4
  rw [lp_eq]
  show lpK (lp F_Rd_read) (T_Rd_read_4 v0R σ) = _
  unfold T_Rd_read_4
  simp only [lpK_ite, lq_inl, lq_inr, lpK_bnd, lpK_gd, lq_let]
  try rfl
noncomputable def M_Rd_read (v0R : Nat) (σ : AM) : Option (Int32 × AM) := mw σ (L_Rd_read_0 v0R σ)
def I_Rd_read (G : GX) (p : Program) (l : Launch) (e : Env) (s : State) (m : MethodId) (args : Array Value) (below : List Frame) (meth : Method) (c : Code) (z0 u0 n : Nat) : Prop :=
  (∀ (v0R : Nat) (σ : AM), VX (QM eI G args s below z0 u0) G p l e s m args below meth c 88 z0 u0 2 (lpn F_Rd_read n (0, v0R, 0, σ)) 0 [(0, .ref v0R)] [] σ) ∧
  (∀ (v0R : Nat) (v1I : Int32) (σ : AM), VX (QM eI G args s below z0 u0) G p l e s m args below meth c 88 z0 u0 2 (lpn F_Rd_read n (1, v0R, v1I, σ)) 38 [(0, .ref v0R), (1, .int v1I)] [] σ) ∧
  (∀ (v0R : Nat) (v1I : Int32) (σ : AM), VX (QM eI G args s below z0 u0) G p l e s m args below meth c 88 z0 u0 2 (lpn F_Rd_read n (2, v0R, v1I, σ)) 136 [(0, .ref v0R), (1, .int v1I)] [] σ) ∧
  (∀ (v0R : Nat) (σ : AM), VX (QM eI G args s below z0 u0) G p l e s m args below meth c 88 z0 u0 2 (lpn F_Rd_read n (3, v0R, 0, σ)) 142 [(0, .ref v0R)] [] σ) ∧
  (∀ (v0R : Nat) (σ : AM), VX (QM eI G args s below z0 u0) G p l e s m args below meth c 88 z0 u0 2 (lpn F_Rd_read n (4, v0R, 0, σ)) 161 [(0, .ref v0R)] [] σ)
set_option maxRecDepth 20000 in
theorem s_Rd_read_0 {G : GX} {p : Program} {l : Launch} {e : Env} {s : State} {m : MethodId} {args : Array Value} {below : List Frame} {meth : Method} {c : Code} {z0 u0 n : Nat} (C : Cx G p s m args meth c prog_9_method_5_code 2 "BellPlate$Reader" ((some FieldType.int))) (IH : I_Rd_read G p l e s m args below meth c z0 u0 n) (v0R : Nat) (σ : AM) : VX (QM eI G args s below z0 u0) G p l e s m args below meth c 88 z0 u0 2 (lpK (lpn F_Rd_read n) (T_Rd_read_0 v0R σ)) 0 [(0, .ref v0R)] [] σ := by
  unfold T_Rd_read_0
  refine x_aload_n C d_Rd_read_0 0 rfl ?_
  refine x_iconst (v := (0 : Int32)) C d_Rd_read_1 (by decide) ?_
  refine x_gd (fun h1 => ?_)
  refine x_putI (k := 3) C (okO_iff.mp h1) rfl j1_ok y1_ok n1_ok (by decide) rfl rfl rfl rfl w207 d_Rd_read_2 ?_
  refine x_letS (fun σ2 e3 => ?_)
  refine x_aload_n C d_Rd_read_5 0 rfl ?_
  refine x_iconst (v := (0 : Int32)) C d_Rd_read_6 (by decide) ?_
  refine x_putI (k := 8) C (by first | exact (okO_iff.mp h1) | (rw [e3]; exact (okO_iff.mp h1))) rfl j1_ok y1_ok n1_ok (by decide) rfl rfl rfl rfl w212 d_Rd_read_7 ?_
  refine x_letS (fun σ4 e5 => ?_)
  refine x_aload_n C d_Rd_read_10 0 rfl ?_
  refine x_iconst (v := (0 : Int32)) C d_Rd_read_11 (by decide) ?_
  refine x_putI (k := 9) C (by first | exact (okO_iff.mp h1) | (rw [e5, e3]; exact (okO_iff.mp h1))) rfl j1_ok y1_ok n1_ok (by decide) rfl rfl (by decide) (by decide) w213 d_Rd_read_12 ?_
  refine x_letS (fun σ6 e7 => ?_)
  refine x_aload_n C d_Rd_read_15 0 rfl ?_
  refine x_iconst (v := (0 : Int32)) C d_Rd_read_16 (by decide) ?_
  refine x_putI (k := 10) C (by first | exact (okO_iff.mp h1) | (rw [e7, e5, e3]; exact (okO_iff.mp h1))) rfl j1_ok y1_ok n1_ok (by decide) rfl rfl (by decide) (by decide) w214 d_Rd_read_17 ?_
  refine x_letS (fun σ8 e9 => ?_)
  refine x_aload_n C d_Rd_read_20 0 rfl ?_
  refine x_iconst (v := (0 : Int32)) C d_Rd_read_21 (by decide) ?_
  refine x_putI (k := 11) C (by first | exact (okO_iff.mp h1) | (rw [e9, e7, e5, e3]; exact (okO_iff.mp h1))) rfl j1_ok y1_ok n1_ok (by decide) rfl rfl (by decide) (by decide) w215 d_Rd_read_22 ?_
  refine x_letS (fun σ10 e11 => ?_)
  refine x_aload_n C d_Rd_read_25 0 rfl ?_
  refine x_gd (fun h12 => ?_)
  refine x_getR (k := 1) (kv := 1) C (by first | exact (okO_iff.mp h1) | (rw [e11, e9, e7, e5, e3]; exact (okO_iff.mp h1))) rfl j1_ok (by decide) rfl (okO_iff.mp h12) (by decide) w205 d_Rd_read_26 ?_
  refine x_callVV (As := []) C (c_Tw_wipe G l (aR σ10 v0R 1)  σ10) (okO_iff.mp h12) rfl w749 w750 w748 w751 w122 k_Tw_wipe rfl (by decide) (by decide) rfl (Nat.le_of_ble_eq_true rfl) d_Rd_read_29 (fun r13 σ14 => ?_)
  refine x_aload_n C d_Rd_read_32 0 rfl ?_
  refine x_gd (fun h17 => ?_)
  refine x_callVV (As := []) C (c_Rd_advance G l v0R  σ14) (okO_iff.mp h17) rfl w754 w6 w752 w755 w121 k_Rd_advance rfl (by decide) (by decide) rfl (Nat.le_of_ble_eq_true rfl) d_Rd_read_33 (fun r15 σ16 => ?_)
  refine x_iconst (v := (0 : Int32)) C d_Rd_read_36 (by decide) ?_
  refine x_istore_n (lv' := [(1, .int (0 : Int32)), (0, .ref v0R)]) C d_Rd_read_37 (by decide) rfl rfl ?_
  refine x_lv [1, 0] rfl ?_
  exact IH.2.1 v0R ((0 : Int32)) (σ16)
set_option maxRecDepth 20000 in
theorem s_Rd_read_1 {G : GX} {p : Program} {l : Launch} {e : Env} {s : State} {m : MethodId} {args : Array Value} {below : List Frame} {meth : Method} {c : Code} {z0 u0 n : Nat} (C : Cx G p s m args meth c prog_9_method_5_code 2 "BellPlate$Reader" ((some FieldType.int))) (IH : I_Rd_read G p l e s m args below meth c z0 u0 n) (v0R : Nat) (v1I : Int32) (σ : AM) : VX (QM eI G args s below z0 u0) G p l e s m args below meth c 88 z0 u0 2 (lpK (lpn F_Rd_read n) (T_Rd_read_1 v0R v1I σ)) 38 [(0, .ref v0R), (1, .int v1I)] [] σ := by
  unfold T_Rd_read_1
  refine x_iload_n C d_Rd_read_38 1 rfl ?_
  refine x_sipush (v := (1000 : Int32)) C d_Rd_read_39 (by decide) ?_
  refine x_icmp_ge (tgt := 142) C d_Rd_read_42 (by decide) (fun _ => ?_) (fun _ => ?_)
  · refine x_aload_n C d_Rd_read_45 0 rfl ?_
    refine x_gd (fun h1 => ?_)
    refine x_getI (k := 8) C (okO_iff.mp h1) rfl j1_ok (by decide) rfl w212 d_Rd_read_46 ?_
    refine x_if_ne (tgt := 142) C d_Rd_read_49 (by decide) (fun _ => ?_) (fun _ => ?_)
    · refine x_aload_n C d_Rd_read_52 0 rfl ?_
      refine x_getI (k := 4) C (okO_iff.mp h1) rfl j1_ok (by decide) rfl w208 d_Rd_read_53 ?_
      refine x_if_eq (tgt := 142) C d_Rd_read_56 (by decide) (fun _ => ?_) (fun _ => ?_)
      · refine x_lv [0] rfl ?_
        exact IH.2.2.2.1 v0R (σ)
      · refine x_aload_n C d_Rd_read_59 0 rfl ?_
        refine x_getI (k := 4) C (okO_iff.mp h1) rfl j1_ok (by decide) rfl w208 d_Rd_read_60 ?_
        refine x_letI (fun x2 _ => ?_)
        refine x_split (fun h3 => ?_) (fun h3 => ?_)
        · refine x_tabI (tgt := 96) C h3 d_Rd_read_63 (by decide) (by decide) rfl (by decide) ?_
          refine x_aload_n C d_Rd_read_96 0 rfl ?_
          refine x_callVV (As := []) C (c_Rd_thingLine G l v0R  σ) (okO_iff.mp h1) rfl w860 w9 w858 w861 w121 k_Rd_thingLine rfl (by decide) (by decide) rfl (Nat.le_of_ble_eq_true rfl) d_Rd_read_97 (fun r4 σ5 => ?_)
          refine x_goto (tgt := 136) C d_Rd_read_100 (by decide) ?_
          exact IH.2.2.1 v0R v1I (σ5)
        · refine x_split (fun h6 => ?_) (fun h6 => ?_)
          · refine x_tabI (tgt := 103) C h6 d_Rd_read_63 (by decide) (by decide) rfl (by decide) ?_
            refine x_aload_n C d_Rd_read_103 0 rfl ?_
            refine x_callVV (As := []) C (c_Rd_mostLine G l v0R  σ) (okO_iff.mp h1) rfl w881 w12 w879 w882 w121 k_Rd_mostLine rfl (by decide) (by decide) rfl (Nat.le_of_ble_eq_true rfl) d_Rd_read_104 (fun r7 σ8 => ?_)
            refine x_goto (tgt := 136) C d_Rd_read_107 (by decide) ?_
            exact IH.2.2.1 v0R v1I (σ8)
          · refine x_split (fun h9 => ?_) (fun h9 => ?_)
            · refine x_tabI (tgt := 110) C h9 d_Rd_read_63 (by decide) (by decide) rfl (by decide) ?_
              refine x_aload_n C d_Rd_read_110 0 rfl ?_
              refine x_callVV (As := []) C (c_Rd_barLine G l v0R  σ) (okO_iff.mp h1) rfl w893 w14 w891 w894 w121 k_Rd_barLine rfl (by decide) (by decide) rfl (Nat.le_of_ble_eq_true rfl) d_Rd_read_111 (fun r10 σ11 => ?_)
              refine x_goto (tgt := 136) C d_Rd_read_114 (by decide) ?_
              exact IH.2.2.1 v0R v1I (σ11)
            · refine x_split (fun h12 => ?_) (fun h12 => ?_)
              · refine x_tabI (tgt := 117) C h12 d_Rd_read_63 (by decide) (by decide) rfl (by decide) ?_
                refine x_aload_n C d_Rd_read_117 0 rfl ?_
                refine x_callVV (As := []) C (c_Rd_allowLine G l v0R  σ) (okO_iff.mp h1) rfl w901 w15 w899 w902 w121 k_Rd_allowLine rfl (by decide) (by decide) rfl (Nat.le_of_ble_eq_true rfl) d_Rd_read_118 (fun r13 σ14 => ?_)
                refine x_goto (tgt := 136) C d_Rd_read_121 (by decide) ?_
                exact IH.2.2.1 v0R v1I (σ14)
              · refine x_split (fun h15 => ?_) (fun h15 => ?_)
                · refine x_tabI (tgt := 124) C h15 d_Rd_read_63 (by decide) (by decide) rfl (by decide) ?_
                  refine x_aload_n C d_Rd_read_124 0 rfl ?_
                  refine x_callVV (As := []) C (c_Rd_costLine G l v0R  σ) (okO_iff.mp h1) rfl w945 w22 w943 w946 w121 k_Rd_costLine rfl (by decide) (by decide) rfl (Nat.le_of_ble_eq_true rfl) d_Rd_read_125 (fun r16 σ17 => ?_)
                  refine x_goto (tgt := 136) C d_Rd_read_128 (by decide) ?_
                  exact IH.2.2.1 v0R v1I (σ17)
                · refine x_tabO (tgt := 131) C d_Rd_read_63 (by have e0 := lv_neT h3 (a := 4) (by decide); have e1 := lv_neT h6 (a := 5) (by decide); have e2 := lv_neT h9 (a := 6) (by decide); have e3 := lv_neT h12 (a := 7) (by decide); have e4 := lv_neT h15 (a := 8) (by decide); omega) (by decide) ?_
                  refine x_aload_n C d_Rd_read_131 0 rfl ?_
                  refine x_iconst (v := (1 : Int32)) C d_Rd_read_132 (by decide) ?_
                  refine x_callVV (As := [.int (1 : Int32)]) C (c_Rd_fail G l v0R (1 : Int32) σ) (okO_iff.mp h1) rfl w865 w10 w863 w866 w121 k_Rd_fail rfl (by decide) (by decide) rfl (Nat.le_of_ble_eq_true rfl) d_Rd_read_133 (fun r18 σ19 => ?_)
                  exact IH.2.2.1 v0R v1I (σ19)
    · refine x_lv [0] rfl ?_
      exact IH.2.2.2.1 v0R (σ)
  · refine x_lv [0] rfl ?_
    exact IH.2.2.2.1 v0R (σ)
set_option maxRecDepth 20000 in
theorem s_Rd_read_2 {G : GX} {p : Program} {l : Launch} {e : Env} {s : State} {m : MethodId} {args : Array Value} {below : List Frame} {meth : Method} {c : Code} {z0 u0 n : Nat} (C : Cx G p s m args meth c prog_9_method_5_code 2 "BellPlate$Reader" ((some FieldType.int))) (IH : I_Rd_read G p l e s m args below meth c z0 u0 n) (v0R : Nat) (v1I : Int32) (σ : AM) : VX (QM eI G args s below z0 u0) G p l e s m args below meth c 88 z0 u0 2 (lpK (lpn F_Rd_read n) (T_Rd_read_2 v0R v1I σ)) 136 [(0, .ref v0R), (1, .int v1I)] [] σ := by
  unfold T_Rd_read_2
  refine x_iinc (v := v1I + (1 : Int32)) (lv' := [(1, .int (v1I + (1 : Int32))), (0, .ref v0R)]) C d_Rd_read_136 1 rfl rfl (by decide) rfl ?_
  refine x_goto (tgt := 38) C d_Rd_read_139 (by decide) ?_
  refine x_lv [1, 0] rfl ?_
  exact IH.2.1 v0R (v1I + (1 : Int32)) (σ)
set_option maxRecDepth 20000 in
theorem s_Rd_read_3 {G : GX} {p : Program} {l : Launch} {e : Env} {s : State} {m : MethodId} {args : Array Value} {below : List Frame} {meth : Method} {c : Code} {z0 u0 n : Nat} (C : Cx G p s m args meth c prog_9_method_5_code 2 "BellPlate$Reader" ((some FieldType.int))) (IH : I_Rd_read G p l e s m args below meth c z0 u0 n) (v0R : Nat) (σ : AM) : VX (QM eI G args s below z0 u0) G p l e s m args below meth c 88 z0 u0 2 (lpK (lpn F_Rd_read n) (T_Rd_read_3 v0R σ)) 142 [(0, .ref v0R)] [] σ := by
  unfold T_Rd_read_3
  refine x_aload_n C d_Rd_read_142 0 rfl ?_
  refine x_gd (fun h1 => ?_)
  refine x_gd (fun h2 => ?_)
  refine x_getR (k := 1) (kv := 1) C (okO_iff.mp h1) rfl j1_ok (by decide) rfl (okO_iff.mp h2) (by decide) w205 d_Rd_read_143 ?_
  refine x_callVI (As := []) C (c_Tw_all G l (aR σ v0R 1)  σ) (okO_iff.mp h2) rfl w630 w631 w955 w632 w122 k_Tw_all rfl (by decide) (by decide) rfl (Nat.le_of_ble_eq_true rfl) d_Rd_read_146 (fun r3 σ4 => ?_)
  refine x_sipush (v := (16384 : Int32)) C d_Rd_read_149 (by decide) ?_
  refine x_icmp_le (tgt := 161) C d_Rd_read_152 (by decide) (fun _ => ?_) (fun _ => ?_)
  · refine x_aload_n C d_Rd_read_155 0 rfl ?_
    refine x_bipush (v := (6 : Int32)) C d_Rd_read_156 (by decide) ?_
    refine x_gd (fun h7 => ?_)
    refine x_callVV (As := [.int (6 : Int32)]) C (c_Rd_fail G l v0R (6 : Int32) σ4) (okO_iff.mp h7) rfl w865 w10 w863 w866 w121 k_Rd_fail rfl (by decide) (by decide) rfl (Nat.le_of_ble_eq_true rfl) d_Rd_read_158 (fun r5 σ6 => ?_)
    exact IH.2.2.2.2 v0R (σ6)
  · exact IH.2.2.2.2 v0R (σ4)
set_option maxRecDepth 20000 in
theorem s_Rd_read_4 {G : GX} {p : Program} {l : Launch} {e : Env} {s : State} {m : MethodId} {args : Array Value} {below : List Frame} {meth : Method} {c : Code} {z0 u0 n : Nat} (C : Cx G p s m args meth c prog_9_method_5_code 2 "BellPlate$Reader" ((some FieldType.int))) (IH : I_Rd_read G p l e s m args below meth c z0 u0 n) (v0R : Nat) (σ : AM) : VX (QM eI G args s below z0 u0) G p l e s m args below meth c 88 z0 u0 2 (lpK (lpn F_Rd_read n) (T_Rd_read_4 v0R σ)) 161 [(0, .ref v0R)] [] σ := by
  unfold T_Rd_read_4
  refine x_aload_n C d_Rd_read_161 0 rfl ?_
  refine x_iconst (v := (0 : Int32)) C d_Rd_read_162 (by decide) ?_
  refine x_gd (fun h1 => ?_)
  refine x_putI (k := 2) C (okO_iff.mp h1) rfl j1_ok y1_ok n1_ok (by decide) rfl rfl rfl rfl w206 d_Rd_read_163 ?_
  refine x_letS (fun σ2 e3 => ?_)
  refine x_aload_n C d_Rd_read_166 0 rfl ?_
  refine x_getI (k := 8) C (by first | exact (okO_iff.mp h1) | (rw [e3]; exact (okO_iff.mp h1))) rfl j1_ok (by decide) rfl w212 d_Rd_read_167 ?_
  exact x_iret C d_Rd_read_170
theorem i_Rd_read {G : GX} {p : Program} {l : Launch} {e : Env} {s : State} {m : MethodId} {args : Array Value} {below : List Frame} {meth : Method} {c : Code} {z0 u0 : Nat} (C : Cx G p s m args meth c prog_9_method_5_code 2 "BellPlate$Reader" ((some FieldType.int))) (n : Nat) : I_Rd_read G p l e s m args below meth c z0 u0 n := by
  induction n with
  | zero => exact ⟨fun _ _ => x_none, fun _ _ _ => x_none, fun _ _ _ => x_none, fun _ _ => x_none, fun _ _ => x_none⟩
  | succ n IH => exact ⟨fun v0R σ => s_Rd_read_0 C IH v0R σ, fun v0R v1I σ => s_Rd_read_1 C IH v0R v1I σ, fun v0R v1I σ => s_Rd_read_2 C IH v0R v1I σ, fun v0R σ => s_Rd_read_3 C IH v0R σ, fun v0R σ => s_Rd_read_4 C IH v0R σ⟩
theorem c_Rd_read (G : GX) (l : Launch) (v0R : Nat) (σ : AM) : CT eI G l 88 y_Rd_read prog_9_method_5_code 2 ((some FieldType.int)) [.ref v0R] σ (M_Rd_read v0R σ) := by
  refine ct_of (by decide +kernel) (Nat.le_of_ble_eq_true rfl) (fun p e s m args below meth c C hin => ?_)
  refine x_lve (lv' := [(0, .ref v0R)]) rfl ?_
  intro r σ' h
  obtain ⟨n, hn⟩ := (lp_iff _ _ _).mp h
  exact (i_Rd_read C n).1 v0R σ r σ' hn
